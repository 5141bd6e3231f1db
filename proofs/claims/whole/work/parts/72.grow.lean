/-! constructors: a pool of new cells that grows from the address b on -/
abbrev Pool : Type := Nat → va_E
def pw (b k : Nat) (E : Pool) : va_W := (List.range k).map fun i => (b + i, E i)
def pA (b : Nat) : Nat → Prop := fun q => b ≤ q
def pu (E : Pool) (j : Nat) (e : va_E) : Pool := fun i => if i = j then e else E i
theorem pu_y {E : Pool} {j : Nat} {e : va_E} : pu E j e j = e := if_pos rfl
theorem pu_n {E : Pool} {i j : Nat} {e : va_E} (h : i ≠ j) : pu E j e i = E i := if_neg h
theorem pw_at {b k j : Nat} {E : Pool} (hj : j < k) : (pw b k E)[j]? = some (b + j, E j) := by simp [pw, hj]
theorem pw_inv {b k i : Nat} {E : Pool} {q : Nat × va_E} (h : (pw b k E)[i]? = some q) : i < k ∧ q = (b + i, E i) := by
  have hk : i < k := by
    have := (List.getElem?_eq_some_iff.mp h).1
    simpa [pw] using this
  rw [pw_at hk] at h
  exact ⟨hk, (Option.some.inj h).symm⟩
theorem pw_set {b k j : Nat} {E : Pool} {e : va_E} : (pw b k E).set j (b + j, e) = pw b k (pu E j e) := by
  apply List.ext_getElem?
  intro i
  by_cases hi : i < k
  · rw [pw_at hi]
    by_cases h : j = i
    · subst h
      rw [List.getElem?_set_self (by simpa [pw] using hi), pu_y]
    · rw [List.getElem?_set_ne h, pw_at hi, pu_n (Ne.symm h)]
  · rw [List.getElem?_eq_none (by simpa [pw] using Nat.le_of_not_lt hi), List.getElem?_eq_none (by simpa [pw] using Nat.le_of_not_lt hi)]
theorem pw_push {b k : Nat} {E : Pool} {e : va_E} : pw b k E ++ [(b + k, e)] = pw b (k + 1) (pu E k e) := by
  unfold pw
  rw [List.range_succ, List.map_append]
  congr 1
  · apply List.map_congr_left
    intro i hi
    rw [pu_n (Nat.ne_of_lt (List.mem_range.mp hi))]
  · simp [pu_y]
theorem pw_D {b k : Nat} {E : Pool} : va_D (pA b) (pw b k E) := by
  refine ⟨fun i j p q hi hj hpq => ?_, fun i q hi => ?_⟩
  · obtain ⟨h1, rfl⟩ := pw_inv hi
    obtain ⟨h2, rfl⟩ := pw_inv hj
    have : b + i = b + j := hpq
    omega
  · obtain ⟨h1, rfl⟩ := pw_inv hi
    exact Nat.le_add_right b i
/-- what a constructor asks, and what it comes to -/
def gX (G : Geo) (U : State) : Prop := vk_R RX9 27 "duty" (gsk G 0) U ∧ vk_R RX9 29 "bill" (gsk G 1) U ∧ vk_R RX9 31 "fine" (gsk G 2) U ∧ vk_R RX9 37 "dtq" (gsk G 3) U ∧ vk_R RX9 39 "pn" (gsk G 4) U ∧ vk_R RX9 41 "sl" (gsk G 5) U
def gPre (G : Geo) (b k : Nat) (E : Pool) (U : State) : Prop := U.heap.size = b + k ∧ va_P (gD G) vwCl (pw b k E) U.heap ∧ va_K (gD G) vwCl (tysOf G) U ∧ gX G U
def gQ (G : Geo) (b k : Nat) (E : Pool) : Array Value → State → Outcome → State → Prop := fun _ st o t => o = .returned none ∧ t.heap.size = b + k ∧ va_P (gD G) vwCl (pw b k E) t.heap ∧ va_F (pA b) st t
def gCon (l : Launch) (G : Geo) (b : Nat) (y : MethodName) (cc : ByteArray) (n : Nat) (rm : Room) (av : List Value) (k : Nat) (E : Pool) (k' : Nat) (E' : Pool) (cs sl : Nat) : Prop :=
  Met l y (Cond.code y cc n none :: TT) rm (va_Pc av (gPre G b k E)) (gQ G b k' E') cs sl (pA b)
def gV (G : Geo) (K : KT) (b k : Nat) (E : Pool) (cs sl : Nat) (pc : Nat) (loc : List (Nat × Value)) (stk : List Value) : Prop :=
  match K with
  | (p, l, e, R, s, m, args, below, meth, c, n, Q) => ∀ (H : Heap) (locs : List Loc) (ls : Array Slot), H.size = b + k → va_P (gD G) vwCl (pw b k E) H → va_S (pA b) s.heap H locs → lv_has ls n loc → W p l e R s m args below meth c H locs cs sl Q (F0 m pc ls stk)
def gOk (G : Geo) (K : KT) (l0 : Launch) (own : String) (cc : ByteArray) (rm : Room) (nL : Nat) (b k' : Nat) (E' : Pool) (cs sl : Nat) : Prop :=
  match K with
  | (p, l, e, R, s, m, args, below, meth, c, n, Q) => p.tables.exec = Jvm.exec ∧ c.code = cc ∧ c.maxLocals = n ∧ s.vm.findClass own = some m.cls ∧ (∀ w ∈ TT, w.before args s = true) ∧ va_K (gD G) vwCl (tysOf G) s ∧ gX G s ∧ b ≤ s.heap.size ∧ meth.locks = false ∧ R = rm ∧ meth.sig.returnType = none ∧ n = nL ∧ l = l0 ∧ meth.name = "<init>" ∧ Q = MQ below (gQ G b k' E') args s cs sl (pA b)
section GV
variable {G : Geo} {K : KT} {b k k' : Nat} {E E' : Pool} {cs sl cs' sl' : Nat} {pc q : Nat} {loc loc' : List (Nat × Value)} {st : List Value} {l0 : Launch} {own : String} {cc : ByteArray} {rm : Room} {nL : Nat}
theorem gCon.of {l : Launch} {y : MethodName} {av : List Value} (hy : plainName y.cls = true) (hyn : y.name = "<init>") (hn : (lg_sl av).length ≤ nL) (own : String) (ho : y.cls = own) (hw : ∀ K : KT, gOk G K l own cc rm nL b k' E' cs' sl' → gV G K b k E 0 0 0 (lv_args 0 av) []) : gCon l G b y cc nL rm av k E k' E' cs' sl' := by
  refine Met.ofW (cc := cc) (maxL := nL) (ret := none) hy rfl ?_
  intro p e s m args below meth c s₁ B hml hv
  obtain ⟨rfl, hsz, hP, hK, hX⟩ := hv
  have hts := atoms_spec (ws := Cond.code y cc nL none :: TT) B.pre
  have hown : s.vm.findClass own = some m.cls := ho ▸ findClass_of_methodNamed B.named
  have hlocks : meth.locks = false := B.notSynchronized
  have hin : meth.name = "<init>" := hyn ▸ (name_of_methodNamed B.named B.method).1
  have hl := lv_entry av (n := nL) hn
  rw [lg_entry_eq]
  exact hw (p, l, e, rm, s, m, av.toArray, below, meth, c, nL, MQ below (gQ G b k' E') av.toArray s cs' sl' (pA b)) ⟨B.exec, B.bytes, hml, hown, fun w hw => hts w (List.mem_cons_of_mem _ hw), hK, hX, by omega, hlocks, rfl, B.returns, rfl, rfl, hin, rfl⟩ s.heap [] _ hsz hP va_S.rf hl
theorem gV.eq {E2 : Pool} (h : E = E2) (k0 : gV G K b k E2 cs sl pc loc st) : gV G K b k E cs sl pc loc st := h ▸ k0

theorem g_iconst {z : Int} {v : Int32} (hK : gOk G K l0 own cc rm nL b k' E' cs' sl') (hd : decode cc pc = .ok (.iconst z, 1)) (hq : pc + 1 = q) (hv : Int32.ofInt z = v) (kk : gV G K b k E cs sl q loc (.int v :: st)) : gV G K b k E cs sl pc loc (st) := by
  subst hq
  obtain ⟨p, l, e, R, s, m, args, below, meth, c, n, Q⟩ := K
  obtain ⟨hx, hb, hml, hown, hts, hKK, hX, hsz, hlk, hR, hr, hn0, hl0, hin, hQ⟩ := hK
  subst hn0
  intro H locs ls hZ hP hS hls
  exact lv_iconst hx hb hd hv (kk H locs ls hZ hP hS hls)

theorem g_bipush {z : Int} {v : Int32} (hK : gOk G K l0 own cc rm nL b k' E' cs' sl') (hd : decode cc pc = .ok (.bipush z, 2)) (hq : pc + 2 = q) (hv : (Int8.ofInt z).toInt32 = v) (kk : gV G K b k E cs sl q loc (.int v :: st)) : gV G K b k E cs sl pc loc (st) := by
  subst hq
  obtain ⟨p, l, e, R, s, m, args, below, meth, c, n, Q⟩ := K
  obtain ⟨hx, hb, hml, hown, hts, hKK, hX, hsz, hlk, hR, hr, hn0, hl0, hin, hQ⟩ := hK
  subst hn0
  intro H locs ls hZ hP hS hls
  exact lv_bipush hx hb hd hv (kk H locs ls hZ hP hS hls)

theorem g_sipush {z : Int} {v : Int32} (hK : gOk G K l0 own cc rm nL b k' E' cs' sl') (hd : decode cc pc = .ok (.sipush z, 3)) (hq : pc + 3 = q) (hv : (Int16.ofInt z).toInt32 = v) (kk : gV G K b k E cs sl q loc (.int v :: st)) : gV G K b k E cs sl pc loc (st) := by
  subst hq
  obtain ⟨p, l, e, R, s, m, args, below, meth, c, n, Q⟩ := K
  obtain ⟨hx, hb, hml, hown, hts, hKK, hX, hsz, hlk, hR, hr, hn0, hl0, hin, hQ⟩ := hK
  subst hn0
  intro H locs ls hZ hP hS hls
  exact lv_sipush hx hb hd hv (kk H locs ls hZ hP hS hls)

theorem g_dup {va : Value} (hK : gOk G K l0 own cc rm nL b k' E' cs' sl') (hd : decode cc pc = .ok (.dup, 1)) (hq : pc + 1 = q) (hva : va.category = 1) (kk : gV G K b k E cs sl q loc (va :: va :: st)) : gV G K b k E cs sl pc loc (va :: st) := by
  subst hq
  obtain ⟨p, l, e, R, s, m, args, below, meth, c, n, Q⟩ := K
  obtain ⟨hx, hb, hml, hown, hts, hKK, hX, hsz, hlk, hR, hr, hn0, hl0, hin, hQ⟩ := hK
  subst hn0
  intro H locs ls hZ hP hS hls
  exact lv_dup hx hb hd hva (kk H locs ls hZ hP hS hls)

theorem g_iload_n {kf : Fin 4} {i : Nat} {x : Int32} (hK : gOk G K l0 own cc rm nL b k' E' cs' sl') (hd : decode cc pc = .ok (.iload_n kf, 1)) (hq : pc + 1 = q) (hi : (kf : Nat) = i) (j : Nat) (hl : loc[j]? = some (i, .int x)) (kk : gV G K b k E cs sl q loc (.int x :: st)) : gV G K b k E cs sl pc loc (st) := by
  subst hq
  obtain ⟨p, l, e, R, s, m, args, below, meth, c, n, Q⟩ := K
  obtain ⟨hx, hb, hml, hown, hts, hKK, hX, hsz, hlk, hR, hr, hn0, hl0, hin, hQ⟩ := hK
  subst hn0
  intro H locs ls hZ hP hS hls
  exact lv_iload_n hx hb hd hi (lv_at hls j hl) (kk H locs ls hZ hP hS hls)

theorem g_aload_n {kf : Fin 4} {i : Nat} {x : Nat} (hK : gOk G K l0 own cc rm nL b k' E' cs' sl') (hd : decode cc pc = .ok (.aload_n kf, 1)) (hq : pc + 1 = q) (hi : (kf : Nat) = i) (j : Nat) (hl : loc[j]? = some (i, .ref x)) (kk : gV G K b k E cs sl q loc (.ref x :: st)) : gV G K b k E cs sl pc loc (st) := by
  subst hq
  obtain ⟨p, l, e, R, s, m, args, below, meth, c, n, Q⟩ := K
  obtain ⟨hx, hb, hml, hown, hts, hKK, hX, hsz, hlk, hR, hr, hn0, hl0, hin, hQ⟩ := hK
  subst hn0
  intro H locs ls hZ hP hS hls
  exact lv_aload_n hx hb hd hi (lv_at hls j hl) (kk H locs ls hZ hP hS hls)

theorem g_istore_n {kf : Fin 4} {i : Nat} {x : Int32} (hK : gOk G K l0 own cc rm nL b k' E' cs' sl') (hd : decode cc pc = .ok (.istore_n kf, 1)) (hq : pc + 1 = q) (hi : (kf : Nat) = i) (hn : i < nL) (hl : (i, Value.int x) :: loc.filter (fun q => !(q.1 == i) && !(q.1 + 1 == i && q.2.category == 2)) = loc') (kk : gV G K b k E cs sl q loc' (st)) : gV G K b k E cs sl pc loc (.int x :: st) := by
  subst hq
  obtain ⟨p, l, e, R, s, m, args, below, meth, c, n, Q⟩ := K
  obtain ⟨hx, hb, hml, hown, hts, hKK, hX, hsz, hlk, hR, hr, hn0, hl0, hin, hQ⟩ := hK
  subst hn0
  intro H locs ls hZ hP hS hls
  exact lv_istore_n hx hb hd hi hls hn hl (fun ls' hls' => kk H locs ls' hZ hP hS hls')

theorem g_iinc {i : Nat} {z : Int} {x v : Int32} (hK : gOk G K l0 own cc rm nL b k' E' cs' sl') (hd : decode cc pc = .ok (.iinc i z, 3)) (hq : pc + 3 = q) (j : Nat) (hk : loc[j]? = some (i, .int x)) (hv : x + Int32.ofInt z = v) (hn : i < nL) (hl : (i, Value.int v) :: loc.filter (fun q => !(q.1 == i) && !(q.1 + 1 == i && q.2.category == 2)) = loc') (kk : gV G K b k E cs sl q loc' (st)) : gV G K b k E cs sl pc loc (st) := by
  subst hq
  obtain ⟨p, l, e, R, s, m, args, below, meth, c, n, Q⟩ := K
  obtain ⟨hx, hb, hml, hown, hts, hKK, hX, hsz, hlk, hR, hr, hn0, hl0, hin, hQ⟩ := hK
  subst hn0
  intro H locs ls hZ hP hS hls
  exact lv_iinc hx hb hd hls hk hv hn hl (fun ls' hls' => kk H locs ls' hZ hP hS hls')

theorem g_goto {off : Int} (hK : gOk G K l0 own cc rm nL b k' E' cs' sl') (hd : decode cc pc = .ok (.goto off, 3)) (hq : (pc : Int) + off = (q : Int)) (kk : gV G K b k E cs sl q loc (st)) : gV G K b k E cs sl pc loc (st) := by
  obtain ⟨p, l, e, R, s, m, args, below, meth, c, n, Q⟩ := K
  obtain ⟨hx, hb, hml, hown, hts, hKK, hX, hsz, hlk, hR, hr, hn0, hl0, hin, hQ⟩ := hK
  intro H locs ls hZ hP hS hls
  exact lv_goto hx hb hd hq (kk H locs ls hZ hP hS hls)

theorem g_ret (hK : gOk G K l0 own cc rm nL b k E cs sl) (hd : decode cc pc = .ok (.return_, 1)) : gV G K b k E cs sl pc loc [] := by
  obtain ⟨p, l, e, R, s, m, args, below, meth, c, n, Q⟩ := K
  obtain ⟨hx, hb, hml, hown, hts, hKK, hX, hsz, hlk, hR, hr, hn0, hl0, hin, hQ⟩ := hK
  intro H locs ls hZ hP hS hls
  subst hQ
  exact W.vret hx hb hr (fun t ht hW => ⟨rfl, by rw [ht]; exact hZ, by rw [ht]; exact hP, hS.F ht⟩) hS.2.2 hd
theorem g_objInit {index a : Nat} (hK : gOk G K l0 own cc rm nL b k' E' cs' sl') (hd : decode cc pc = .ok (.invokespecial index, 3)) (hq : pc + 3 = q) (hl : Cond.methodLink own index objectInit ∈ TT) (hi : Cond.instanceMethod objectInit ∈ TT) (hc : Cond.code Lib.objectInit ⟨#[0xb1]⟩ 1 none ∈ TT) (hf : 1 ≤ rm.frames) (hlo : 2 * (F0 (default : MethodId) 0 #[] []).monitorRoom + 12 ≤ rm.locals) (kk : gV G K b k E cs sl q loc (st)) : gV G K b k E cs sl pc loc (.ref a :: st) := by
  done
end GV
