/-! constructors: a pool of new cells that grows from the address b on -/
abbrev Pool : Type := Nat → va_E
def pw (b k : Nat) (E : Pool) : va_W := (List.range k).map fun i => (b + i, E i)
def pA (b : Nat) : Nat → Prop := fun q => b ≤ q
def pu (E : Pool) (j : Nat) (e : va_E) : Pool := fun i => if i = j then e else E i
theorem pu_y {E : Pool} {j : Nat} {e : va_E} : pu E j e j = e := if_pos rfl
theorem pu_n {E : Pool} {i j : Nat} {e : va_E} (h : i ≠ j) : pu E j e i = E i := if_neg h
theorem pw_at {b k j : Nat} {E : Pool} (hj : j < k) : (pw b k E)[j]? = some (b + j, E j) := by simp [pw, hj]
theorem pw_inv {b k i : Nat} {E : Pool} {q : Nat × va_E} (h : (pw b k E)[i]? = some q) : i < k ∧ q = (b + i, E i) := by
  have hk : i < k := by
    have := (List.getElem?_eq_some_iff.mp h).1
    simpa [pw] using this
  rw [pw_at hk] at h
  exact ⟨hk, (Option.some.inj h).symm⟩
theorem pw_D {b k : Nat} {E : Pool} : va_D (pA b) (pw b k E) := by
  refine ⟨fun i j p q hi hj hpq => ?_, fun i q hi => ?_⟩
  · obtain ⟨h1, rfl⟩ := pw_inv hi
    obtain ⟨h2, rfl⟩ := pw_inv hj
    have : b + i = b + j := hpq
    omega
  · obtain ⟨h1, rfl⟩ := pw_inv hi
    exact Nat.le_add_right b i
theorem pw_P {D : va_G} {b k : Nat} {E : Pool} {H : Heap} : va_P D vwCl (pw b k E) H ↔ ∀ i, i < k → va_at D vwCl (b + i, E i) H := by
  refine ⟨fun h i hi => h i _ (pw_at hi), fun h i q hq => ?_⟩
  obtain ⟨h1, rfl⟩ := pw_inv hq
  exact h i h1
theorem pw_put {D : va_G} {b k j : Nat} {E : Pool} {e : va_E} {H H1 : Heap} (hP : va_P D vwCl (pw b k E) H) (he : va_at D vwCl (b + j, e) H1) (oq : ∀ q : Nat, q ≠ b + j → H1[q]? = H[q]?) : va_P D vwCl (pw b k (pu E j e)) H1 := by
  refine pw_P.mpr fun i hi => ?_
  by_cases h : i = j
  · subst h
    rw [pu_y]
    exact he
  · rw [pu_n h]
    exact (pw_P.mp hP i hi).kept (oq _ (fun z => h (by have : b + i = b + j := z; omega)))
theorem pw_new {D : va_G} {b k : Nat} {E : Pool} {e : va_E} {H H1 : Heap} (hP : va_P D vwCl (pw b k E) H) (he : va_at D vwCl (b + k, e) H1) (oq : ∀ q : Nat, q < b + k → H1[q]? = H[q]?) : va_P D vwCl (pw b (k + 1) (pu E k e)) H1 := by
  refine pw_P.mpr fun i hi => ?_
  by_cases h : i = k
  · subst h
    rw [pu_y]
    exact he
  · rw [pu_n h]
    exact (pw_P.mp hP i (by omega)).kept (oq _ (by show b + i < b + k; omega))
theorem pS_new {b n : Nat} {H0 H H1 : Heap} {locs : List Loc} (hS : va_S (pA b) H0 H locs) (hz : H.size = n) (hz1 : n ≤ H1.size) (oq : ∀ q : Nat, q < n → H1[q]? = H[q]?) : va_S (pA b) H0 H1 locs := by
  subst hz
  exact ⟨Nat.le_trans hS.1 hz1, fun x h1 h2 => (oq x (Nat.lt_of_lt_of_le h1 hS.1)).trans (hS.2.1 x h1 h2), hS.2.2⟩
/-- k rows at once -/
def pus (E : Pool) (k n : Nat) (e : va_E) : Pool := fun i => if k ≤ i ∧ i < k + n then e else E i
/-! what a constructor asks, and what it comes to -/
def gAOA (U : State) : Prop := (Cond.arrayOver (.array .int)).before #[] U = true
theorem gAOA.moved {u U : State} (hvm : u.vm.Alike U.vm) (h : gAOA u) : gAOA U := by
  obtain ⟨comp, c, k, h1, h2, h3, h4, h5⟩ := arrayOverA_spec h
  obtain ⟨k', hk', he⟩ := hvm.2.2 _ _ h3
  have hi : (U.vm.classes.findIdx? fun (x : Class) => match x.kind with | .array component _ => component == comp | _ => false) = some c := by
    refine (va_idx_bare U.vm comp).symm.trans ?_
    first | rw [hvm.bare_eq] | rw [← hvm.bare_eq]
    exact (va_idx_bare u.vm comp).trans h2
  have hkind : k'.kind = .array comp (.array .int) := by rw [he]; exact h4
  have f1 : U.vm.findClass (FieldType.array .int).toString = some comp := by rw [hvm.findClass]; exact h1
  have f2 : U.vm.findClass ("[" ++ (FieldType.array .int).toString) = some c := by rw [hvm.findClass]; exact h5
  unfold gAOA Cond.before Cond.holds
  simp only [Cond.value]
  rw [f1, Option.bind_some]
  refine (congrArg (fun o : Option Nat => (o.bind (fun c => (U.vm.classes[c]?).map fun (k : Class) => match k.kind with | .array _ ty => decide (ty = FieldType.array .int) && decide (U.vm.findClass ("[" ++ (FieldType.array .int).toString) = some c) | _ => false) == some true)) hi).trans ?_
  simp [hk', hkind, f2]

def gN (U : State) : Prop := va_Nw (.methodLinkNest RX8 9 yX1_init RX8) U ∧ va_Nw (.methodLinkNest RX0 37 yX7_init RX8) U ∧ va_Nw (.methodLinkNest RX0 38 yX6_init RX8) U ∧ va_Nw (.methodLinkNest RX8 68 yX3_init RX8) U ∧ va_Nw (.methodLinkNest RX8 69 yX5_init RX8) U ∧ va_Nw (.methodLinkNest RX5 17 yX7_init RX8) U ∧ va_Nw (.methodLinkNest RX5 24 yX3_init RX8) U
theorem gN.warm {s U : State} (hW : s.WarmedH U.vm) (h : gN s) : gN U := ⟨va_Nw.warmM hW h.1, va_Nw.warmM hW h.2.1, va_Nw.warmM hW h.2.2.1, va_Nw.warmM hW h.2.2.2.1, va_Nw.warmM hW h.2.2.2.2.1, va_Nw.warmM hW h.2.2.2.2.2.1, va_Nw.warmM hW h.2.2.2.2.2.2⟩
theorem gN.same {u U : State} (hv : u.vm = U.vm) (h : gN u) : gN U := ⟨va_Nw.same rfl hv h.1, va_Nw.same rfl hv h.2.1, va_Nw.same rfl hv h.2.2.1, va_Nw.same rfl hv h.2.2.2.1, va_Nw.same rfl hv h.2.2.2.2.1, va_Nw.same rfl hv h.2.2.2.2.2.1, va_Nw.same rfl hv h.2.2.2.2.2.2⟩
def gAO (U : State) : Prop := gAOA U ∧ va_AO RX3 U ∧ va_AO RX5 U ∧ va_AO RX6 U ∧ va_AO RX7 U ∧ va_AO "java/lang/String" U
theorem gAO.moved {u U : State} (hvm : u.vm.Alike U.vm) (h : gAO u) : gAO U := ⟨h.1.moved hvm, va_AO.moved hvm h.2.1, va_AO.moved hvm h.2.2.1, va_AO.moved hvm h.2.2.2.1, va_AO.moved hvm h.2.2.2.2.1, va_AO.moved hvm h.2.2.2.2.2⟩
def gR (G : Geo) (U : State) : Prop := vk_R RX9 27 "duty" (gsk G 0) U ∧ vk_R RX9 29 "bill" (gsk G 1) U ∧ vk_R RX9 31 "fine" (gsk G 2) U ∧ vk_R RX9 37 "dtq" (gsk G 3) U ∧ vk_R RX9 39 "pn" (gsk G 4) U ∧ vk_R RX9 41 "sl" (gsk G 5) U
theorem gR.warm {G : Geo} {s U : State} (hW : s.WarmedH U.vm) (h : gR G s) : gR G U := ⟨vk_R.warm hW h.1, vk_R.warm hW h.2.1, vk_R.warm hW h.2.2.1, vk_R.warm hW h.2.2.2.1, vk_R.warm hW h.2.2.2.2.1, vk_R.warm hW h.2.2.2.2.2⟩
theorem gR.same {G : Geo} {u U : State} (hv : U.vm = u.vm) (h : gR G u) : gR G U := ⟨vk_R.same hv h.1, vk_R.same hv h.2.1, vk_R.same hv h.2.2.1, vk_R.same hv h.2.2.2.1, vk_R.same hv h.2.2.2.2.1, vk_R.same hv h.2.2.2.2.2⟩
def gX (G : Geo) (b : Nat) (U : State) : Prop := gR G U ∧ gN U ∧ gAO U ∧ sSt (pA b) G U U.heap ∧ sN U
def gPre (G : Geo) (b k : Nat) (E : Pool) (U : State) : Prop := U.heap.size = b + k ∧ va_P (gD G) vwCl (pw b k E) U.heap ∧ va_K (gD G) vwCl (tysOf G) U ∧ gX G b U
def gQ (G : Geo) (b k : Nat) (E : Pool) : Array Value → State → Outcome → State → Prop := fun _ st o t => o = .returned none ∧ t.heap.size = b + k ∧ va_P (gD G) vwCl (pw b k E) t.heap ∧ va_F (pA b) st t
def gCon (l : Launch) (G : Geo) (b : Nat) (y : MethodName) (cc : ByteArray) (n : Nat) (rm : Room) (av : List Value) (k : Nat) (E : Pool) (k' : Nat) (E' : Pool) (cs sl : Nat) : Prop :=
  Met l y (Cond.code y cc n none :: TT) rm (va_Pc av (gPre G b k E)) (gQ G b k' E') cs sl (pA b)
def gV (G : Geo) (K : KT) (b k : Nat) (E : Pool) (cs sl : Nat) (pc : Nat) (loc : List (Nat × Value)) (stk : List Value) : Prop :=
  match K with
  | (p, l, e, R, s, m, args, below, meth, c, n, Q) => ∀ (H : Heap) (locs : List Loc) (ls : Array Slot), H.size = b + k → va_P (gD G) vwCl (pw b k E) H → va_S (pA b) s.heap H locs → lv_has ls n loc → W p l e R s m args below meth c H locs cs sl Q (F0 m pc ls stk)
def gOk (G : Geo) (K : KT) (l0 : Launch) (own : String) (cc : ByteArray) (rm : Room) (nL : Nat) (b : Nat) : Prop :=
  match K with
  | (p, l, e, R, s, m, args, below, meth, c, n, Q) => p.tables.exec = Jvm.exec ∧ c.code = cc ∧ c.maxLocals = n ∧ s.vm.findClass own = some m.cls ∧ (∀ w ∈ TT, w.before args s = true) ∧ va_K (gD G) vwCl (tysOf G) s ∧ gX G b s ∧ b ≤ s.heap.size ∧ R = rm ∧ n = nL ∧ l = l0
def gEn (G : Geo) (K : KT) (b k' : Nat) (E' : Pool) (cs sl : Nat) : Prop :=
  match K with
  | (p, l, e, R, s, m, args, below, meth, c, n, Q) => meth.sig.returnType = none ∧ meth.name = "<init>" ∧ meth.locks = false ∧ Q = MQ below (gQ G b k' E') args s cs sl (pA b)
section GV
variable {G : Geo} {K : KT} {b k k' k1 : Nat} {E E' E1 : Pool} {cs sl cs' sl' cs1 sl1 : Nat} {pc q : Nat} {loc loc' : List (Nat × Value)} {st : List Value} {l0 : Launch} {own : String} {cc : ByteArray} {rm : Room} {nL : Nat}
theorem gCon.of {l : Launch} {y : MethodName} {av : List Value} (hy : plainName y.cls = true) (hyn : y.name = "<init>") (hn : (lg_sl av).length ≤ nL) (own : String) (ho : y.cls = own) (hw : ∀ K : KT, gOk G K l own cc rm nL b → gEn G K b k' E' cs' sl' → gV G K b k E 0 0 0 (lv_args 0 av) []) : gCon l G b y cc nL rm av k E k' E' cs' sl' := by
  refine Met.ofW (cc := cc) (maxL := nL) (ret := none) hy rfl ?_
  intro p e s m args below meth c s₁ B hml hv
  obtain ⟨rfl, hsz, hP, hK, hX⟩ := hv
  have hts := atoms_spec (ws := Cond.code y cc nL none :: TT) B.pre
  have hown : s.vm.findClass own = some m.cls := ho ▸ findClass_of_methodNamed B.named
  have hlocks : meth.locks = false := B.notSynchronized
  have hin : meth.name = "<init>" := hyn ▸ (name_of_methodNamed B.named B.method).1
  have hl := lv_entry av (n := nL) hn
  rw [lg_entry_eq]
  exact hw (p, l, e, rm, s, m, av.toArray, below, meth, c, nL, MQ below (gQ G b k' E') av.toArray s cs' sl' (pA b)) ⟨B.exec, B.bytes, hml, hown, fun w hw => hts w (List.mem_cons_of_mem _ hw), hK, hX, by omega, rfl, rfl, rfl⟩ ⟨B.returns, hin, hlocks, rfl⟩ s.heap [] _ hsz hP va_S.rf hl

theorem g_iconst {z : Int} {v : Int32} (hK : gOk G K l0 own cc rm nL b) (hd : decode cc pc = .ok (.iconst z, 1)) (hq : pc + 1 = q) (hv : Int32.ofInt z = v) (kk : gV G K b k E cs sl q loc (.int v :: st)) : gV G K b k E cs sl pc loc (st) := by
  subst hq
  obtain ⟨p, l, e, R, s, m, args, below, meth, c, n, Q⟩ := K
  obtain ⟨hx, hb, hml, hown, hts, hKK, hX, hsz, hR, hn0, hl0⟩ := hK
  subst hn0
  intro H locs ls hZ hP hS hls
  exact lv_iconst hx hb hd hv (kk H locs ls hZ hP hS hls)

theorem g_bipush {z : Int} {v : Int32} (hK : gOk G K l0 own cc rm nL b) (hd : decode cc pc = .ok (.bipush z, 2)) (hq : pc + 2 = q) (hv : (Int8.ofInt z).toInt32 = v) (kk : gV G K b k E cs sl q loc (.int v :: st)) : gV G K b k E cs sl pc loc (st) := by
  subst hq
  obtain ⟨p, l, e, R, s, m, args, below, meth, c, n, Q⟩ := K
  obtain ⟨hx, hb, hml, hown, hts, hKK, hX, hsz, hR, hn0, hl0⟩ := hK
  subst hn0
  intro H locs ls hZ hP hS hls
  exact lv_bipush hx hb hd hv (kk H locs ls hZ hP hS hls)

theorem g_sipush {z : Int} {v : Int32} (hK : gOk G K l0 own cc rm nL b) (hd : decode cc pc = .ok (.sipush z, 3)) (hq : pc + 3 = q) (hv : (Int16.ofInt z).toInt32 = v) (kk : gV G K b k E cs sl q loc (.int v :: st)) : gV G K b k E cs sl pc loc (st) := by
  subst hq
  obtain ⟨p, l, e, R, s, m, args, below, meth, c, n, Q⟩ := K
  obtain ⟨hx, hb, hml, hown, hts, hKK, hX, hsz, hR, hn0, hl0⟩ := hK
  subst hn0
  intro H locs ls hZ hP hS hls
  exact lv_sipush hx hb hd hv (kk H locs ls hZ hP hS hls)

theorem g_dup {va : Value} (hK : gOk G K l0 own cc rm nL b) (hd : decode cc pc = .ok (.dup, 1)) (hq : pc + 1 = q) (hva : va.category = 1) (kk : gV G K b k E cs sl q loc (va :: va :: st)) : gV G K b k E cs sl pc loc (va :: st) := by
  subst hq
  obtain ⟨p, l, e, R, s, m, args, below, meth, c, n, Q⟩ := K
  obtain ⟨hx, hb, hml, hown, hts, hKK, hX, hsz, hR, hn0, hl0⟩ := hK
  subst hn0
  intro H locs ls hZ hP hS hls
  exact lv_dup hx hb hd hva (kk H locs ls hZ hP hS hls)

theorem g_iload_n {kf : Fin 4} {i : Nat} {x : Int32} (hK : gOk G K l0 own cc rm nL b) (hd : decode cc pc = .ok (.iload_n kf, 1)) (hq : pc + 1 = q) (hi : (kf : Nat) = i) (j : Nat) (hl : loc[j]? = some (i, .int x)) (kk : gV G K b k E cs sl q loc (.int x :: st)) : gV G K b k E cs sl pc loc (st) := by
  subst hq
  obtain ⟨p, l, e, R, s, m, args, below, meth, c, n, Q⟩ := K
  obtain ⟨hx, hb, hml, hown, hts, hKK, hX, hsz, hR, hn0, hl0⟩ := hK
  subst hn0
  intro H locs ls hZ hP hS hls
  exact lv_iload_n hx hb hd hi (lv_at hls j hl) (kk H locs ls hZ hP hS hls)

theorem g_istore_n {kf : Fin 4} {i : Nat} {x : Int32} (hK : gOk G K l0 own cc rm nL b) (hd : decode cc pc = .ok (.istore_n kf, 1)) (hq : pc + 1 = q) (hi : (kf : Nat) = i) (hn : i < nL) (hl : (i, Value.int x) :: loc.filter (fun q => !(q.1 == i) && !(q.1 + 1 == i && q.2.category == 2)) = loc') (kk : gV G K b k E cs sl q loc' (st)) : gV G K b k E cs sl pc loc (.int x :: st) := by
  subst hq
  obtain ⟨p, l, e, R, s, m, args, below, meth, c, n, Q⟩ := K
  obtain ⟨hx, hb, hml, hown, hts, hKK, hX, hsz, hR, hn0, hl0⟩ := hK
  subst hn0
  intro H locs ls hZ hP hS hls
  exact lv_istore_n hx hb hd hi hls hn hl (fun ls' hls' => kk H locs ls' hZ hP hS hls')

theorem g_aload_n {kf : Fin 4} {i : Nat} {x : Nat} (hK : gOk G K l0 own cc rm nL b) (hd : decode cc pc = .ok (.aload_n kf, 1)) (hq : pc + 1 = q) (hi : (kf : Nat) = i) (j : Nat) (hl : loc[j]? = some (i, .ref x)) (kk : gV G K b k E cs sl q loc (.ref x :: st)) : gV G K b k E cs sl pc loc (st) := by
  subst hq
  obtain ⟨p, l, e, R, s, m, args, below, meth, c, n, Q⟩ := K
  obtain ⟨hx, hb, hml, hown, hts, hKK, hX, hsz, hR, hn0, hl0⟩ := hK
  subst hn0
  intro H locs ls hZ hP hS hls
  exact lv_aload_n hx hb hd hi (lv_at hls j hl) (kk H locs ls hZ hP hS hls)

theorem g_astore_n {kf : Fin 4} {i : Nat} {x : Nat} (hK : gOk G K l0 own cc rm nL b) (hd : decode cc pc = .ok (.astore_n kf, 1)) (hq : pc + 1 = q) (hi : (kf : Nat) = i) (hn : i < nL) (hl : (i, Value.ref x) :: loc.filter (fun q => !(q.1 == i) && !(q.1 + 1 == i && q.2.category == 2)) = loc') (kk : gV G K b k E cs sl q loc' (st)) : gV G K b k E cs sl pc loc (.ref x :: st) := by
  subst hq
  obtain ⟨p, l, e, R, s, m, args, below, meth, c, n, Q⟩ := K
  obtain ⟨hx, hb, hml, hown, hts, hKK, hX, hsz, hR, hn0, hl0⟩ := hK
  subst hn0
  intro H locs ls hZ hP hS hls
  exact lv_astore_n hx hb hd hi hls hn hl (fun ls' hls' => kk H locs ls' hZ hP hS hls')

theorem g_iinc {i : Nat} {z : Int} {x v : Int32} (hK : gOk G K l0 own cc rm nL b) (hd : decode cc pc = .ok (.iinc i z, 3)) (hq : pc + 3 = q) (j : Nat) (hk : loc[j]? = some (i, .int x)) (hv : x + Int32.ofInt z = v) (hn : i < nL) (hl : (i, Value.int v) :: loc.filter (fun q => !(q.1 == i) && !(q.1 + 1 == i && q.2.category == 2)) = loc') (kk : gV G K b k E cs sl q loc' (st)) : gV G K b k E cs sl pc loc (st) := by
  subst hq
  obtain ⟨p, l, e, R, s, m, args, below, meth, c, n, Q⟩ := K
  obtain ⟨hx, hb, hml, hown, hts, hKK, hX, hsz, hR, hn0, hl0⟩ := hK
  subst hn0
  intro H locs ls hZ hP hS hls
  exact lv_iinc hx hb hd hls hk hv hn hl (fun ls' hls' => kk H locs ls' hZ hP hS hls')

theorem g_goto {off : Int} (hK : gOk G K l0 own cc rm nL b) (hd : decode cc pc = .ok (.goto off, 3)) (hq : (pc : Int) + off = (q : Int)) (kk : gV G K b k E cs sl q loc (st)) : gV G K b k E cs sl pc loc (st) := by
  obtain ⟨p, l, e, R, s, m, args, below, meth, c, n, Q⟩ := K
  obtain ⟨hx, hb, hml, hown, hts, hKK, hX, hsz, hR, hn0, hl0⟩ := hK
  intro H locs ls hZ hP hS hls
  exact lv_goto hx hb hd hq (kk H locs ls hZ hP hS hls)

theorem g_geN {x y : Int32} {off : Int} {t : Nat} (hK : gOk G K l0 own cc rm nL b) (hd : decode cc pc = .ok (.if_icmp .ge off, 3)) (ht : (pc : Int) + off = (t : Int)) (hq : pc + 3 = q) (h : ¬ y ≤ x) (kk : gV G K b k E cs sl q loc (st)) : gV G K b k E cs sl pc loc (.int y :: .int x :: st) := by
  subst hq
  obtain ⟨p, l, e, R, s, m, args, below, meth, c, n, Q⟩ := K
  obtain ⟨hx, hb, hml, hown, hts, hKK, hX, hsz, hR, hn0, hl0⟩ := hK
  intro H locs ls hZ hP hS hls
  exact lv_icmp_ge hx hb hd ht (fun z => absurd z h) (fun _ => kk H locs ls hZ hP hS hls)

theorem g_geY {x y : Int32} {off : Int} (hK : gOk G K l0 own cc rm nL b) (hd : decode cc pc = .ok (.if_icmp .ge off, 3)) (hq : (pc : Int) + off = (q : Int)) (h : y ≤ x) (kk : gV G K b k E cs sl q loc (st)) : gV G K b k E cs sl pc loc (.int y :: .int x :: st) := by
  obtain ⟨p, l, e, R, s, m, args, below, meth, c, n, Q⟩ := K
  obtain ⟨hx, hb, hml, hown, hts, hKK, hX, hsz, hR, hn0, hl0⟩ := hK
  intro H locs ls hZ hP hS hls
  exact lv_icmp_ge hx hb hd hq (fun _ => kk H locs ls hZ hP hS hls) (fun z => absurd h z)

theorem g_ret (hK : gOk G K l0 own cc rm nL b) (hE : gEn G K b k E cs sl) (hd : decode cc pc = .ok (.return_, 1)) : gV G K b k E cs sl pc loc [] := by
  obtain ⟨p, l, e, R, s, m, args, below, meth, c, n, Q⟩ := K
  obtain ⟨hx, hb, hml, hown, hts, hKK, hX, hsz, hR, hn0, hl0⟩ := hK
  obtain ⟨hr, -, hlk, hQ⟩ := hE
  intro H locs ls hZ hP hS hls
  subst hQ
  exact W.vret hx hb hr (fun t ht hW => ⟨rfl, by rw [ht]; exact hZ, by rw [ht]; exact hP, hS.F ht⟩) hS.2.2 hd
theorem g_objInit {index a : Nat} (hK : gOk G K l0 own cc rm nL b) (hd : decode cc pc = .ok (.invokespecial index, 3)) (hq : pc + 3 = q) (hl : Cond.methodLink own index objectInit ∈ TT) (hw : Cond.instanceMethod objectInit ∈ TT ∧ Cond.code objectInit ⟨#[0xb1]⟩ 1 none ∈ TT) (hrm : 1 ≤ rm.frames ∧ (st.map fun v => v.category).sum + 12 ≤ rm.locals) (kk : gV G K b k E cs sl q loc (st)) : gV G K b k E cs sl pc loc (.ref a :: st) := by
  subst hq
  obtain ⟨p, l, e, R, s, m, args, below, meth, c, n, Q⟩ := K
  obtain ⟨hx, hb, hml, hown, hts, hKK, hX, hsz, hR, hn0, hl0⟩ := hK
  subst hR
  intro H locs ls hZ hP hS hls
  exact W.objInit hx hb hown (hts _ hl) (hts _ hw.1) (hts _ hw.2) rfl (hls.1.trans hml.symm) rfl hd hrm.1 (by show 2 * 0 + _ + 12 ≤ _; have := hrm.2; omega) (kk H locs ls hZ hP hS hls)
theorem g_get {ci N index j : Nat} {C ref : String} {T : u_T} {fs : List Value} {v : Value} (hK : gOk G K l0 own cc rm nL b) (hd : decode cc pc = .ok (.getfield index, 3)) (hq : pc + 3 = q) (hj : j < k) (he : E j = .inr (ci, fs)) (hc : vwCl[ci]? = some (C, T, N)) (f : Nat) (hf : f < N) (hin : ∀ w ∈ u_ws C T N, w ∈ TT) (hlk : Cond.fieldLink own index ref (T f).2.1 (T f).2.2.1 ∈ TT) (hsame : (T f).1 = ref) (hv : fs[f]? = some v) (kk : gV G K b k E cs sl q loc (v :: st)) : gV G K b k E cs sl pc loc (.ref (b + j) :: st) := by
  subst hq
  obtain ⟨p, l, e, R, s, m, args, below, meth, c, n, Q⟩ := K
  obtain ⟨hx, hb, hml, hown, hts, hKK, hX, hsz, hR, hn0, hl0⟩ := hK
  intro H locs ls hZ hP hS hls
  exact va_get (D := gD G) (Ts := TT) hx hb hts hin hown hKK hP j (by rw [pw_at hj, he]) hc f hf (hts _ hlk) (fun x h => by rw [← hsame]; exact h) hv hd (kk H locs ls hZ hP hS hls)
theorem g_put {ci N index j : Nat} {C ref : String} {T : u_T} {fs : List Value} {v : Value} (hK : gOk G K l0 own cc rm nL b) (hd : decode cc pc = .ok (.putfield index, 3)) (hq : pc + 3 = q) (hj : j < k) (he : E j = .inr (ci, fs)) (hc : vwCl[ci]? = some (C, T, N)) (f : Nat) (hf : f < N) (hin : ∀ w ∈ u_ws C T N, w ∈ TT) (ty0 : Nat → FieldType) (hty : ∀ k, k < N → parseFieldDescriptor (T k).2.2.1 = some (ty0 k)) (hnm : ∀ a, a < N → ∀ b, b < N → a ≠ b → (T a).2.1 ≠ (T b).2.1) (hlk : Cond.fieldLink own index ref (T f).2.1 (T f).2.2.1 ∈ TT) (hsame : (T f).1 = ref) (hfin : (T f).2.2.2 = false) {ty : FieldType} (hd2 : parseFieldDescriptor (T f).2.2.1 = some ty) (hnr : narrow ty v = v) (hfit : fits ty v = true) (hlen : f < fs.length) (hE1 : pu E j (.inr (ci, fs.set f v)) = E1) (kk : gV G K b k E1 cs sl q loc (st)) : gV G K b k E cs sl pc loc (v :: .ref (b + j) :: st) := by
  subst hq
  subst hE1
  obtain ⟨p, l, e, R, s, m, args, below, meth, c, n, Q⟩ := K
  obtain ⟨hx, hb, hml, hown, hts, hKK, hX, hsz, hR, hn0, hl0⟩ := hK
  intro H locs ls hZ hP hS hls
  have hap := va_apart (own := own) hts hin ty0 hty hnm hKK hc
  obtain ⟨r, h1, cell, q1, q2, q3, q4⟩ : va_at (gD G) vwCl (b + j, .inr (ci, fs)) H := he ▸ pw_P.mp hP j hj
  have hr : r = (C, T, N) := Option.some.inj (h1.symm.trans hc)
  subst hr
  obtain ⟨hSl, hfc, kC, hkC, hkind⟩ := hKK.1 ci _ hc
  obtain ⟨cf, kf, fi, fl, hi, hsl⟩ := hSl f hf
  have hlay := hts _ (hin _ (u_in_lay hf))
  unfold u_lay at hlay
  rw [if_neg (by rw [hfin]; decide)] at hlay
  have hst := (u_facts hfc hkC (u_lays hts hin hf) hi).1
  have h6 := u_store hfc hkC hkind hlay hi hd2 hnr hfit
  refine W.putK hx hb (f := fl) ⟨hown, hts _ hlk, ⟨_, _, _, by rw [← hsame]; exact hi⟩, hst⟩ (by rw [q2]; exact h6) q1 q3 (by rw [hsl]; exact k2_hasslot (q4 f hf)) rfl rfl hd fun H' e1 e2 e3 => ?_
  rw [hsl] at e1 ⊢
  exact kk H' _ ls (e2.trans hZ) (pw_put hP ⟨_, hc, t_OB.to (V := updV (vp_V fs) f v) ⟨_, e1, q2, q3, t_set q4 hap hf v⟩ (fun j _ => vp_updV_set hlen v j)⟩ e3) (hS.put e2 e3 (Nat.le_add_right b j)) hls
theorem g_putF {ci N index j : Nat} {C ref : String} {T : u_T} {fs : List Value} {v : Value} (hK : gOk G K l0 own cc rm nL b) (hEn : gEn G K b k' E' cs' sl') (hd : decode cc pc = .ok (.putfield index, 3)) (hq : pc + 3 = q) (hj : j < k) (he : E j = .inr (ci, fs)) (hc : vwCl[ci]? = some (C, T, N)) (f : Nat) (hf : f < N) (hin : ∀ w ∈ u_ws C T N, w ∈ TT) (ty0 : Nat → FieldType) (hty : ∀ k, k < N → parseFieldDescriptor (T k).2.2.1 = some (ty0 k)) (hnm : ∀ a, a < N → ∀ b, b < N → a ≠ b → (T a).2.1 ≠ (T b).2.1) (hlk : Cond.fieldLink own index ref (T f).2.1 (T f).2.2.1 ∈ TT) (hsame : (T f).1 = ref) (hfin : (T f).2.2.2 = true) (hdecl : (T f).1 = own) {ty : FieldType} (hd2 : parseFieldDescriptor (T f).2.2.1 = some ty) (hnr : narrow ty v = v) (hfit : fits ty v = true) (hlen : f < fs.length) (hE1 : pu E j (.inr (ci, fs.set f v)) = E1) (kk : gV G K b k E1 cs sl q loc (st)) : gV G K b k E cs sl pc loc (v :: .ref (b + j) :: st) := by
  subst hq
  subst hE1
  obtain ⟨p, l, e, R, s, m, args, below, meth, c, n, Q⟩ := K
  obtain ⟨hx, hb, hml, hown, hts, hKK, hX, hsz, hR, hn0, hl0⟩ := hK
  obtain ⟨-, hin2, -, -⟩ := hEn
  intro H locs ls hZ hP hS hls
  have hap := va_apart (own := own) hts hin ty0 hty hnm hKK hc
  obtain ⟨r, h1, cell, q1, q2, q3, q4⟩ : va_at (gD G) vwCl (b + j, .inr (ci, fs)) H := he ▸ pw_P.mp hP j hj
  have hr : r = (C, T, N) := Option.some.inj (h1.symm.trans hc)
  subst hr
  obtain ⟨hSl, hfc, kC, hkC, hkind⟩ := hKK.1 ci _ hc
  obtain ⟨cf, kf, fi, fl, hi, hsl⟩ := hSl f hf
  have hlay := hts _ (hin _ (u_in_lay hf))
  unfold u_lay at hlay
  rw [if_pos hfin] at hlay
  have hst := (u_facts hfc hkC (u_lays hts hin hf) hi).1
  have hcf : m.cls = cf := by
    obtain ⟨_, _, c', _, _, _, -, -, hf', -, -, -, hown2, -⟩ := Cond.laysFinal_spec hlay
    have e1 : c' = cf := by have := hi.symm.trans hf'; simp at this; exact this.1.symm
    rw [hdecl] at hown2
    rw [← e1]; exact Option.some.inj (hown.symm.trans hown2)
  have h6 := u_fits hfc hkC hkind (Or.inr hlay) hi hd2 hnr hfit
  refine W.putFinK hx hb hown (hts _ hlk) (by rw [← hsame]; exact hi) hst hcf hin2 (by rw [q2]; exact h6) q1 q3 (by rw [hsl]; exact k2_hasslot (q4 f hf)) rfl rfl hd fun H' e1 e2 e3 => ?_
  rw [hsl] at e1 ⊢
  exact kk H' _ ls (e2.trans hZ) (pw_put hP ⟨_, hc, t_OB.to (V := updV (vp_V fs) f v) ⟨_, e1, q2, q3, t_set q4 hap hf v⟩ (fun j _ => vp_updV_set hlen v j)⟩ e3) (hS.put e2 e3 (Nat.le_add_right b j)) hls
theorem g_new {ci N index : Nat} {C : String} {T : u_T} {fs : List Value} (hK : gOk G K l0 own cc rm nL b) (hd : decode cc pc = .ok (.new index, 3)) (hq : pc + 3 = q) (hcl : Cond.classLink own index C ∈ TT) (hins : Cond.instantiable C N ∈ TT) (hini : Cond.initialized C ∈ TT) (hc : vwCl[ci]? = some (C, T, N)) (hin : ∀ w ∈ u_ws C T N, w ∈ TT) (ty : Nat → FieldType) (hty : ∀ k, k < N → parseFieldDescriptor (T k).2.2.1 = some (ty k)) (hfs : ∀ j, j < N → defaultValue (ty j) = vp_V fs j) (hcs : cs + 1 ≤ rm.cells) (hsl : sl + N ≤ rm.slots) (hk1 : k + 1 = k1) (hE1 : pu E k (.inr (ci, fs)) = E1) (hcs1 : cs + 1 = cs1) (hsl1 : sl + N = sl1) (kk : gV G K b k1 E1 cs1 sl1 q loc (.ref (b + k) :: st)) : gV G K b k E cs sl pc loc (st) := by
  subst hq
  subst hk1
  subst hE1
  subst hcs1
  subst hsl1
  obtain ⟨p, l, e, R, s, m, args, below, meth, c, n, Q⟩ := K
  obtain ⟨hx, hb, hml, hown, hts, hKK, hX, hsz, hR, hn0, hl0⟩ := hK
  subst hR
  intro H locs ls hZ hP hS hls
  have hKn := hKK.1 ci _ hc
  refine W.newcK hx hb hown (hts _ hcl) (hts _ hins) (hts _ hini) rfl hd hcs hsl hKn.2.1 hZ fun H1 kC hkC e1 z1 o1 => ?_
  exact kk H1 locs ls (z1.trans (Nat.add_assoc b k 1)) (pw_new hP ⟨_, hc, (u_born ty hts hin hKn hkC e1 hty).to hfs⟩ o1) (pS_new hS hZ (by omega) o1) hls
theorem g_newint {n0 : Int32} {N : Nat} (hK : gOk G K l0 own cc rm nL b) (hd : decode cc pc = .ok (.newarray .int, 2)) (hq : pc + 2 = q) (harr : Cond.arrayClass .int ∈ TT) (hn : ¬ n0 < 0) (hN : n0.toNatClampNeg = N) (hby : N * 4 ≤ 536870912) (hcs : cs + 1 ≤ rm.cells) (hsl : sl + N ≤ rm.slots) (hk1 : k + 1 = k1) (hE1 : pu E k (.inl (gcy G 0, N, .inl (fun _ => 0))) = E1) (hcs1 : cs + 1 = cs1) (hsl1 : sl + N = sl1) (kk : gV G K b k1 E1 cs1 sl1 q loc (.ref (b + k) :: st)) : gV G K b k E cs sl pc loc (.int n0 :: st) := by
  subst hq
  subst hk1
  subst hE1
  subst hcs1
  subst hsl1
  obtain ⟨p, l, e, R, s, m, args, below, meth, c, n, Q⟩ := K
  obtain ⟨hx, hb, hml, hown, hts, hKK, hX, hsz, hR, hn0, hl0⟩ := hK
  subst hR
  intro H locs ls hZ hP hS hls
  refine va_newaK (atype := .int) hx hb (hts _ harr) rfl hd rfl hn hN hby hcs hsl hZ fun H1 cA e1 z1 o1 hAr hNm => ?_
  have hcA : cA = gcy G 0 := Option.some.inj (hNm.symm.trans (hKK.2 0 (gcy G 0, .int) rfl).2)
  subst hcA
  exact kk H1 locs ls (z1.trans (Nat.add_assoc b k 1)) (pw_new hP (by show H1[b + k]? = some (vp_cell _ _); rw [vp_cell_i]; exact e1) o1) (pS_new hS hZ (by omega) o1) hls
theorem g_anew {n0 : Int32} {N t index : Nat} {C : String} (hK : gOk G K l0 own cc rm nL b) (hd : decode cc pc = .ok (.anewarray index, 3)) (hq : pc + 3 = q) (hcl : Cond.classLink own index C ∈ TT) (hao : ∀ U, gAO U → va_AO C U) (ht : (tysOf G)[t]? = some (gcy G t, .object C)) (hn : ¬ n0 < 0) (hN : n0.toNatClampNeg = N) (hby : N * 4 ≤ 536870912) (hcs : cs + 1 ≤ rm.cells) (hsl : sl + N ≤ rm.slots) (hk1 : k + 1 = k1) (hE1 : pu E k (.inl (gcy G t, N, .inr (.inr (.inr (.inr (fun _ => none)))))) = E1) (hcs1 : cs + 1 = cs1) (hsl1 : sl + N = sl1) (kk : gV G K b k1 E1 cs1 sl1 q loc (.ref (b + k) :: st)) : gV G K b k E cs sl pc loc (.int n0 :: st) := by
  subst hq
  subst hk1
  subst hE1
  subst hcs1
  subst hsl1
  subst hN
  obtain ⟨p, l, e, R, s, m, args, below, meth, c, n, Q⟩ := K
  obtain ⟨hx, hb, hml, hown, hts, hKK, hX, hsz, hR, hn0, hl0⟩ := hK
  subst hR
  intro H locs ls hZ hP hS hls
  refine W.anew hx hb hown (hts _ hcl) (va_AO.use (hao _ hX.2.2.1)) rfl hd rfl hn hby hcs hsl fun cA kA comp f1 f2 f3 f4 => ?_
  have hcA : cA = gcy G t := by
    obtain ⟨kA', comp', -, -, -, g4⟩ := (hKK.2 t _ ht).2
    exact Option.some.inj (f1.symm.trans g4)
  subst hcA
  generalize hH1 : H.push ({ cls := gcy G t, slots := Array.replicate n0.toNatClampNeg .null, vm := .none } : Cell) = H1
  have z1 : H1.size = H.size + 1 := by rw [← hH1, Array.size_push]
  have e1 : H1[b + k]? = some (arrV (gcy G t) n0.toNatClampNeg (fun _ => .null)) := by rw [← hZ, ← hH1, Array.getElem?_push_size, ← arrV_new]
  have o1 : ∀ q : Nat, q < b + k → H1[q]? = H[q]? := fun q hq => by rw [← hH1, Array.getElem?_push, if_neg (by omega)]
  rw [hZ]
  exact kk H1 locs ls (by omega) (pw_new hP (by show H1[b + k]? = some (vp_cell _ _); rw [vp_cell_q]; exact e1) o1) (pS_new hS hZ (by omega) o1) hls
theorem g_mna {n0 m0 : Int32} {N M index : Nat} (hK : gOk G K l0 own cc rm nL b) (hd : decode cc pc = .ok (.multianewarray index 2, 4)) (hq : pc + 4 = q) (hcl : Cond.classLink own index "[[I" ∈ TT) (harr : Cond.arrayClass .int ∈ TT) (hn : ¬ n0 < 0) (hm : ¬ m0 < 0) (hN : n0.toNatClampNeg = N) (hM : m0.toNatClampNeg = M) (hb1 : N * 4 ≤ 536870912) (hb2 : M * 4 ≤ 536870912) (hb3 : M ≤ 536870912) (hcs : cs + (1 + N) ≤ rm.cells) (hsl : sl + (N + N * M) ≤ rm.slots) (hk1 : k + 1 + N = k1) (hE1 : pus (pu E k (.inl (gcy G 5, N, .inr (.inr (.inr (.inr (fun i => if i < N then some (b + k + 1 + i) else none))))))) (k + 1) N (.inl (gcy G 0, M, .inl (fun _ => 0))) = E1) (hcs1 : cs + 1 + N = cs1) (hsl1 : sl + N + N * M = sl1) (kk : gV G K b k1 E1 cs1 sl1 q loc (.ref (b + k) :: st)) : gV G K b k E cs sl pc loc (.int m0 :: .int n0 :: st) := by
  subst hq
  subst hk1
  subst hE1
  subst hcs1
  subst hsl1
  obtain ⟨p, l, e, R, s, m, args, below, meth, c, n, Q⟩ := K
  obtain ⟨hx, hb, hml, hown, hts, hKK, hX, hsz, hR, hn0, hl0⟩ := hK
  subst hR
  intro H locs ls hZ hP hS hls
  refine w_mna hx hb hown (hts _ hcl) hX.2.2.1.1 (hts _ harr) hn hm hN hM hb1 hb2 hb3 hcs hsl hZ hd fun cA comp H1 f1 f2 z1 o1 e1 r1 => ?_
  have hcA : cA = gcy G 5 := Option.some.inj (f1.symm.trans (hKK.2 5 (gcy G 5, .array .int) rfl).2)
  have hcI : comp = gcy G 0 := Option.some.inj (f2.symm.trans (hKK.2 0 (gcy G 0, .int) rfl).2)
  subst hcA
  subst hcI
  refine kk H1 locs ls (by omega) (pw_P.mpr fun i hi => ?_) (pS_new hS hZ (by omega) o1) hls
  unfold pus
  by_cases h : k + 1 ≤ i ∧ i < k + 1 + N
  · rw [if_pos h]
    show H1[b + i]? = some (vp_cell _ _)
    rw [vp_cell_i, show b + i = b + k + 1 + (i - (k + 1)) by omega]
    exact r1 _ (by omega)
  · rw [if_neg h]
    by_cases h2 : i = k
    · subst h2
      rw [pu_y]
      show H1[b + i]? = some (vp_cell _ _)
      rw [vp_cell_q]
      exact e1
    · rw [pu_n h2]
      exact (pw_P.mp hP i (by omega)).kept (o1 _ (by show b + i < b + k; omega))
theorem g_iast {j N i0 : Nat} {i x : Int32} {f : Nat → Int32} (hK : gOk G K l0 own cc rm nL b) (hd : decode cc pc = .ok (.iastore, 1)) (hq : pc + 1 = q) (hm : i.toNatClampNeg = i0) (hj : j < k) (he : E j = .inl (gcy G 0, N, .inl f)) (hin : vp_in i N) (hE1 : pu E j (.inl (gcy G 0, N, .inl (upd f i0 x))) = E1) (kk : gV G K b k E1 cs sl q loc (st)) : gV G K b k E cs sl pc loc (.int x :: .int i :: .ref (b + j) :: st) := by
  subst hq
  subst hE1
  subst hm
  obtain ⟨p, l, e, R, s, m, args, below, meth, c, n, Q⟩ := K
  obtain ⟨hx, hb, hml, hown, hts, hKK, hX, hsz, hR, hn0, hl0⟩ := hK
  intro H locs ls hZ hP hS hls
  have ha : va_at (gD G) vwCl (b + j, .inl (gcy G 0, N, .inl f)) H := he ▸ pw_P.mp hP j hj
  refine W.iast hx hb ha ((hKK.2 0 (gcy G 0, .int) rfl).1 N (fun j => .int (f j))) (fun q => by cases q) (by show ¬ (i < 0 ∨ (arrV _ _ _).slots.size ≤ _); rw [arrV_size]; exact hin) rfl rfl hd fun H1 e z oq => ?_
  refine kk H1 _ ls (z.trans hZ) (pw_put hP ?_ oq) (hS.put z oq (Nat.le_add_right b j)) hls
  show H1[b + j]? = some (vp_cell _ _)
  rw [e]
  rw [vp_cell_i, vp_cell_i, arrV_store]
  congr 2
  funext q
  by_cases hq : q = i.toNatClampNeg
  · subst hq
    simp [updV, upd]
  · simp [updV, upd, hq]
theorem g_aast {j jv N t ci i0 : Nat} {r : vw_C} {i : Int32} {vs : List Value} {f : Nat → Option Nat} (hK : gOk G K l0 own cc rm nL b) (hd : decode cc pc = .ok (.aastore, 1)) (hq : pc + 1 = q) (hm : i.toNatClampNeg = i0) (hj : j < k) (he : E j = .inl (gcy G t, N, .inr (.inr (.inr (.inr f))))) (ht : (tysOf G)[t]? = some (gcy G t, .object r.1)) (hjv : jv < k) (hev : E jv = .inr (ci, vs)) (hc : vwCl[ci]? = some r) (hin : vp_in i N) (hE1 : pu E j (.inl (gcy G t, N, .inr (.inr (.inr (.inr (va_up f i0 (some (b + jv)))))))) = E1) (kk : gV G K b k E1 cs sl q loc (st)) : gV G K b k E cs sl pc loc (.ref (b + jv) :: .int i :: .ref (b + j) :: st) := by
  subst hq
  subst hE1
  subst hm
  obtain ⟨p, l, e, R, s, m, args, below, meth, c, n, Q⟩ := K
  obtain ⟨hx, hb, hml, hown, hts, hKK, hX, hsz, hR, hn0, hl0⟩ := hK
  intro H locs ls hZ hP hS hls
  have ha : va_at (gD G) vwCl (b + j, .inl (gcy G t, N, .inr (.inr (.inr (.inr f))))) H := he ▸ pw_P.mp hP j hj
  have hlt : i.toNatClampNeg < N := Nat.not_le.mp fun q => hin (Or.inr q)
  have h0 : ¬ i < 0 := fun q => hin (Or.inl q)
  obtain ⟨r', hr', cellV, g1, g2, g3, -⟩ : va_at (gD G) vwCl (b + jv, .inr (ci, vs)) H := hev ▸ pw_P.mp hP jv hjv
  have hcls := (hKK.1 ci r hc).2
  obtain ⟨kA, comp, k1, k2, k3, -⟩ := (hKK.2 t _ ht).2
  have hcomp : comp = (gD G).1 ci := Option.some.inj (k3.symm.trans hcls.1)
  subst hcomp
  obtain ⟨kC, hkC, -⟩ := hcls.2
  refine W.aast hx hb ha (fun q h => by cases h) (fun h => by cases h) k1 k2 rfl hkC ⟨h0, by show _ < (arrV _ _ _).slots.size; rw [arrV_size]; exact hlt⟩ g1 (fun q h => by rw [g3] at h; cases h) (by rw [g2]; exact hkC) (by rw [g2]; exact va_assign hcls) rfl rfl hd fun H1 e z oq => ?_
  refine kk H1 _ ls (z.trans hZ) (pw_put hP ?_ oq) (hS.put z oq (Nat.le_add_right b j)) hls
  show H1[b + j]? = some (vp_cell _ _)
  rw [e]
  rw [vp_cell_q, vp_cell_q, arrV_store]
  congr 2
  funext q
  by_cases hq : q = i.toNatClampNeg
  · subst hq
    simp [updV, va_up, va_rf]
  · simp [updV, va_up, hq]
theorem g_aastS {j ki N i0 : Nat} {i : Int32} {f : Nat → Option Nat} (hK : gOk G K l0 own cc rm nL b) (hd : decode cc pc = .ok (.aastore, 1)) (hq : pc + 1 = q) (hm : i.toNatClampNeg = i0) (hj : j < k) (he : E j = .inl (gcy G 6, N, .inr (.inr (.inr (.inr f))))) (hki : ki < 6) (hin : vp_in i N) (hE1 : pu E j (.inl (gcy G 6, N, .inr (.inr (.inr (.inr (va_up f i0 (some (gsk G ki)))))))) = E1) (kk : gV G K b k E1 cs sl q loc (st)) : gV G K b k E cs sl pc loc (.ref (gsk G ki) :: .int i :: .ref (b + j) :: st) := by
  subst hq
  subst hE1
  subst hm
  obtain ⟨p, l, e, R, s, m, args, below, meth, c, n, Q⟩ := K
  obtain ⟨hx, hb, hml, hown, hts, hKK, hX, hsz, hR, hn0, hl0⟩ := hK
  intro H locs ls hZ hP hS hls
  have ha : va_at (gD G) vwCl (b + j, .inl (gcy G 6, N, .inr (.inr (.inr (.inr f))))) H := he ▸ pw_P.mp hP j hj
  have hlt : i.toNatClampNeg < N := Nat.not_le.mp fun q => hin (Or.inr q)
  have h0 : ¬ i < 0 := fun q => hin (Or.inl q)
  obtain ⟨cellV, g1, g2, g3⟩ := vk_recv hX.2.2.2.1.2.2.2.1 hki hS
  obtain ⟨kA, comp, k1, k2, k3, -⟩ := (hKK.2 6 (gcy G 6, .object "java/lang/String") rfl).2
  have hcomp : comp = cellV.cls := Option.some.inj (k3.symm.trans g3)
  subst hcomp
  obtain ⟨kC, hkC, -⟩ := Vm.findClass_spec g3
  refine W.aast hx hb ha (fun q h => by cases h) (fun h => by cases h) k1 k2 rfl hkC ⟨h0, by show _ < (arrV _ _ _).slots.size; rw [arrV_size]; exact hlt⟩ g1 (fun q h => by rw [h] at g2; cases g2) hkC (va_asg _ _) rfl rfl hd fun H1 e z oq => ?_
  refine kk H1 _ ls (z.trans hZ) (pw_put hP ?_ oq) (hS.put z oq (Nat.le_add_right b j)) hls
  show H1[b + j]? = some (vp_cell _ _)
  rw [e]
  rw [vp_cell_q, vp_cell_q, arrV_store]
  congr 2
  funext q
  by_cases hq : q = i.toNatClampNeg
  · subst hq
    simp [updV, va_up, va_rf]
  · simp [updV, va_up, hq]
theorem g_ldcS {index a : Nat} {tx : String} (hK : gOk G K l0 own cc rm nL b) (hd : decode cc pc = .ok (.ldc index, 2)) (hq : pc + 2 = q) (hr : ∀ U, gR G U → vk_R own index tx a U) (kk : gV G K b k E cs sl q loc (.ref a :: st)) : gV G K b k E cs sl pc loc (st) := by
  subst hq
  obtain ⟨p, l, e, R, s, m, args, below, meth, c, n, Q⟩ := K
  obtain ⟨hx, hb, hml, hown, hts, hKK, hX, hsz, hR, hn0, hl0⟩ := hK
  intro H locs ls hZ hP hS hls
  exact va_ldcS hx hb hown (hr _ hX.1) hd (kk H locs ls hZ hP hS hls)
theorem g_pre {s U : State} {H : Heap} {locs : List Loc} (hU : U.heap = H) (hW : s.WarmedH U.vm) (hZ : H.size = b + k) (hP : va_P (gD G) vwCl (pw b k E) H) (hKK : va_K (gD G) vwCl (tysOf G) s) (hX : gX G b s) (hS : va_S (pA b) s.heap H locs) : gPre G b k E U := by
  subst hU
  exact ⟨hZ, hP, va_K.moved hW.alike hKK, hX.1.warm hW, hX.2.1.warm hW, hX.2.2.1.moved hW.alike, sSt.moved hW.alike (hX.2.2.2.1.kept hS.2.1), sN.warm hW hX.2.2.2.2⟩
theorem g_blind {av : List Value} : FrameBlind (va_Pc av (gPre G b k E)) := fun a U g mk h => by
  obtain ⟨h0, hZ, hP, hK, hR, hN, hA, hSt, hN2⟩ := h
  exact ⟨h0, hZ, hP, va_K.moved (u := U) (U := U.calling g mk a) (Vm.Alike.refl U.vm) hK, gR.same (u := U) (U := U.calling g mk a) rfl hR, gN.same (u := U) (U := U.calling g mk a) rfl hN, gAO.moved (u := U) (U := U.calling g mk a) (Vm.Alike.refl U.vm) hA, sSt.moved (u := U) (U := U.calling g mk a) (Vm.Alike.refl U.vm) hSt, sN.same (u := U) (U := U.calling g mk a) rfl hN2⟩
theorem g_goes {p : Program} {l : Launch} {e : Env} {R : Room} {s : State} {m : MethodId} {args av : Array Value} {below : List Frame} {meth : Method} {c : Code} {H : Heap} {locs : List Loc} {Q : State → Prop} {ls : Array Slot} {st0 rest : List Value} {mc ms : Nat}
    (hr : va_Run p l e R s m args below meth c H locs cs sl mc ms (F0 m pc ls st0) rest (gQ G b k1 E1 av) (pA b)) (hS : va_S (pA b) s.heap H locs) (kk : ∀ (H1 : Heap) (locs1 : List Loc), H1.size = b + k1 → va_P (gD G) vwCl (pw b k1 E1) H1 → va_S (pA b) s.heap H1 locs1 → W p l e R s m args below meth c H1 locs1 (cs + mc) (sl + ms) Q (F0 m (pc + 3) ls rest)) : W p l e R s m args below meth c H locs cs sl Q (F0 m pc ls st0) := by
  intro T hT X
  obtain ⟨v, st₀, t, T', L, h0, X', hL, e1, e2, ⟨hv, hZ, hP, hz, hk⟩, stp⟩ := hr T hT X
  cases hv
  rw [h0] at hz hk
  obtain ⟨t2, a1, b1⟩ := kk T'.heap (locs ++ L) (by rw [e1]; exact hZ) (by rw [e1]; exact hP)
    ⟨Nat.le_trans hS.1 (by rw [e1]; exact hz), fun q h1 h2 => by rw [e1, hk q (Nat.lt_of_lt_of_le h1 hS.1) h2]; exact hS.2.1 q h1 h2, fun q hq => by
      rcases List.mem_append.mp hq with h | h
      · exact hS.2.2 q h
      · exact hL q h⟩ T' rfl X'
  exact ⟨t2, stp t2 a1, b1⟩
theorem g_call {index n1 nL1 r mc ms : Nat} {y : MethodName} {bytes : ByteArray} {rm1 : Room} {As rest stk : List Value} (hK : gOk G K l0 own cc rm nL b) (hd : decode cc pc = .ok (.invokespecial index, 3)) (hq : pc + 3 = q) (hM : gCon l0 G b y bytes nL1 rm1 (.ref r :: As) k E k1 E1 mc ms) (hst : stk = As.reverse ++ .ref r :: rest) (hAs : As.length = n1) (hcat : (rest.map fun v => v.category).sum ≤ 8) (hl : Cond.methodLink own index y ∈ TT) (hw : mW y bytes nL1 none n1) (hin : Cond.instanceMethod y ∈ TT) (hnm : y.name = "<init>") (hrm : (rm1.cells = mc ∧ rm1.slots = ms) ∧ rm1.frames + 1 ≤ rm.frames ∧ 8 + (nL1 + 11) + rm1.locals ≤ rm.locals) (hcs : cs + mc ≤ rm.cells ∧ sl + ms ≤ rm.slots) (hcs1 : cs + mc = cs1) (hsl1 : sl + ms = sl1) (kk : gV G K b k1 E1 cs1 sl1 q loc (rest)) : gV G K b k E cs sl pc loc (stk) := by
  subst hq
  subst hcs1
  subst hsl1
  obtain ⟨p, l, e, R, s, m, args, below, meth, c, n, Q⟩ := K
  obtain ⟨hx, hb, hml, hown, hts, hKK, hX, hsz, hR, hn0, hl0⟩ := hK
  subst hR
  subst hst
  subst hl0
  intro H locs ls hZ hP hS hls
  exact g_goes (rest := rest) (va_runI (As := As) (rest := rest) (n := n1) ⟨hx, hb, hml, hown, hts⟩ hM ⟨callB_of n1 hts (TT_in hw.1) rfl hrm.1.1 hrm.1.2 (hts _ hw.2.1) (hts _ hl) ⟨hw.2.2.1.1, hw.2.2.1.2, hw.2.2.2⟩ hrm.2, hnm, hts _ hin⟩ ⟨g_blind, fun U hU hW => ⟨rfl, g_pre hU hW hZ hP hKK hX hS⟩⟩ rfl hAs hls.1 rfl (lv_room hcat) hd hcs) hS (fun H1 locs1 hZ1 hP1 hS1 => kk H1 locs1 ls hZ1 hP1 hS1 hls)
theorem g_callN {index n1 nL1 r mc ms : Nat} {host : String} {y : MethodName} {bytes : ByteArray} {rm1 : Room} {As rest stk : List Value} (hK : gOk G K l0 own cc rm nL b) (hd : decode cc pc = .ok (.invokespecial index, 3)) (hq : pc + 3 = q) (hM : gCon l0 G b y bytes nL1 rm1 (.ref r :: As) k E k1 E1 mc ms) (hst : stk = As.reverse ++ .ref r :: rest) (hAs : As.length = n1) (hcat : (rest.map fun v => v.category).sum ≤ 8) (hl : ∀ U, gN U → va_Nw (.methodLinkNest own index y host) U) (hw : mW y bytes nL1 none n1) (hin : Cond.instanceMethod y ∈ TT) (hnm : y.name = "<init>") (hrm : (rm1.cells = mc ∧ rm1.slots = ms) ∧ rm1.frames + 1 ≤ rm.frames ∧ 8 + (nL1 + 11) + rm1.locals ≤ rm.locals) (hcs : cs + mc ≤ rm.cells ∧ sl + ms ≤ rm.slots) (hcs1 : cs + mc = cs1) (hsl1 : sl + ms = sl1) (kk : gV G K b k1 E1 cs1 sl1 q loc (rest)) : gV G K b k E cs sl pc loc (stk) := by
  subst hq
  subst hcs1
  subst hsl1
  obtain ⟨p, l, e, R, s, m, args, below, meth, c, n, Q⟩ := K
  obtain ⟨hx, hb, hml, hown, hts, hKK, hX, hsz, hR, hn0, hl0⟩ := hK
  subst hR
  subst hst
  subst hl0
  intro H locs ls hZ hP hS hls
  exact g_goes (rest := rest) (va_runIN (As := As) (rest := rest) (n := n1) (host := host) ⟨hx, hb, hml, hown, hts⟩ hM ⟨va_cnB n1 hts (TT_in hw.1) rfl hrm.1.1 hrm.1.2 (hl s hX.2.1) (hts _ hw.2.1) ⟨hw.2.2.1.1, hw.2.2.1.2, hw.2.2.2⟩ hrm.2, hnm, hts _ hin⟩ ⟨g_blind, fun U hU hW => ⟨rfl, g_pre hU hW hZ hP hKK hX hS⟩⟩ rfl hAs hls.1 rfl (lv_room hcat) hd hcs) hS (fun H1 locs1 hZ1 hP1 hS1 => kk H1 locs1 ls hZ1 hP1 hS1 hls)
end GV
