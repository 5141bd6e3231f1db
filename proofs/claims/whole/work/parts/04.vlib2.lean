section SV2
variable {α : Type} {w : Wd} {G : Geo} {K : KT} {a : α} {σ σ' : Store} {pc q : Nat} {loc loc' : List (Nat × Value)} {st : List Value} {F F1 F2 : Option α} {l0 : Launch} {own : String} {cc : ByteArray} {rm : Room} {nL : Nat} {ret : Option FieldType} {rv : Option Value}
/-- fields of the world's objects -/
theorem r_get {ci N index j : Nat} {C ref : String} {T : u_T} {fs : List Value} {v : Value} (hK : sOk w G K l0 own cc rm nL ret rv σ') (hd : decode cc pc = .ok (.getfield index, 3)) (hq : pc + 3 = q) (hj : j < w.1) (he : w.2 G (σ j) j = .inr (ci, fs)) (hc : vwCl[ci]? = some (C, T, N)) (k : Nat) (hk : k < N) (hin : ∀ w ∈ u_ws C T N, w ∈ TT) (hlk : Cond.fieldLink own index ref (T k).2.1 (T k).2.2.1 ∈ TT) (hsame : (T k).1 = ref) (hv : fs[k]? = some v) (kk : sV w G K a σ q loc (v :: st) F) : sV w G K a σ pc loc (.ref (gad G j) :: st) F := by
  subst hq
  obtain ⟨p, l, e, R, s, m, args, below, meth, c, n, Q⟩ := K
  obtain ⟨hx, hb, hml, hown, hts, hKK, hI, hSt, hN, hlck, hR, hr, hn, hl0, hQ⟩ := hK
  intro hF H locs ls hP hS hls
  exact va_get (D := gD G) (Ts := TT) hx hb hts hin hown hKK hP j (by rw [wd_at hj, he]) hc k hk (hts _ hlk) (fun x h => by rw [← hsame]; exact h) hv hd (kk hF H locs ls hP hS hls)
theorem r_put {ci N index j : Nat} {C ref : String} {T : u_T} {fs : List Value} {x : Int32} (hK : sOk w G K l0 own cc rm nL ret rv σ') (hd : decode cc pc = .ok (.putfield index, 3)) (hq : pc + 3 = q) (hj : j < w.1) (he : w.2 G (σ j) j = .inr (ci, fs)) (hc : vwCl[ci]? = some (C, T, N)) (k : Nat) (hk : k < N) (hin : ∀ w ∈ u_ws C T N, w ∈ TT) (ty0 : Nat → FieldType) (hty : ∀ k, k < N → parseFieldDescriptor (T k).2.2.1 = some (ty0 k)) (hnm : ∀ a, a < N → ∀ b, b < N → a ≠ b → (T a).2.1 ≠ (T b).2.1) (hlk : Cond.fieldLink own index ref (T k).2.1 (T k).2.2.1 ∈ TT) (hsame : (T k).1 = ref) (hfin : (T k).2.2.2 = false) {ty : FieldType} (hd2 : parseFieldDescriptor (T k).2.2.1 = some ty) (hnr : narrow ty (.int x) = .int x) (hfit : fits ty (.int x) = true) (hlen : k < fs.length) (he2 : w.2 G (upd (σ j) k x) j = .inr (ci, fs.set k (.int x))) (kk : sV w G K a (sup σ j k x) q loc (st) F) : sV w G K a σ pc loc (.int x :: .ref (gad G j) :: st) F := by
  subst hq
  obtain ⟨p, l, e, R, s, m, args, below, meth, c, n, Q⟩ := K
  obtain ⟨hx, hb, hml, hown, hts, hKK, hI, hSt, hN, hlck, hR, hr, hn, hl0, hQ⟩ := hK
  intro hF H locs ls hP hS hls
  refine va_put (D := gD G) (Ts := TT) hx hb hts hin ty0 hty hnm hown hKK hP (wd_D hI) hS j (by rw [wd_at hj, he]) hc k hk (hts _ hlk) (fun x h => by rw [← hsame]; exact h) hfin hd2 hnr hfit hlen hd (fun H1 locs1 hP1 _ hS1 => ?_)
  rw [← he2, wd_set] at hP1
  exact kk hF H1 locs1 ls hP1 hS1 hls
/-- int arrays of the world -/
theorem r_iald {j n0 : Nat} {i : Int32} (hK : sOk w G K l0 own cc rm nL ret rv σ') (hd : decode cc pc = .ok (.iaload, 1)) (hq : pc + 1 = q) (h : iA w G j n0) (kk : 0 ≤ i.toInt ∧ i.toInt < (n0 : Int) → sV w G K a σ q loc (.int (σ j (snx i)) :: st) F) : sV w G K a σ pc loc (.int i :: .ref (gad G j) :: st) (six n0 i F) := by
  subst hq
  by_cases hc : 0 ≤ i.toInt ∧ i.toInt < (n0 : Int)
  · have kk := kk hc
    revert kk
    unfold six
    rw [if_pos hc]
    obtain ⟨p, l, e, R, s, m, args, below, meth, c, n, Q⟩ := K
    obtain ⟨hx, hb, hml, hown, hts, hKK, hI, hSt, hN, hlck, hR, hr, hn, hl0, hQ⟩ := hK
    intro kk hF H locs ls hP hS hls
    exact va_iald (D := gD G) (f := σ j) hx hb hKK hP j 0 (by rw [wd_at h.1, h.2]) rfl (vp_in_iff.mpr hc) hd (kk hF H locs ls hP hS hls)
  · unfold six
    rw [if_neg hc]
    exact sV.no
theorem r_iast {j n0 : Nat} {i x : Int32} (hK : sOk w G K l0 own cc rm nL ret rv σ') (hd : decode cc pc = .ok (.iastore, 1)) (hq : pc + 1 = q) (h : iA w G j n0) (kk : 0 ≤ i.toInt ∧ i.toInt < (n0 : Int) → sV w G K a (sup σ j (snx i) x) q loc (st) F) : sV w G K a σ pc loc (.int x :: .int i :: .ref (gad G j) :: st) (six n0 i F) := by
  subst hq
  by_cases hc : 0 ≤ i.toInt ∧ i.toInt < (n0 : Int)
  · have kk := kk hc
    revert kk
    unfold six
    rw [if_pos hc]
    obtain ⟨p, l, e, R, s, m, args, below, meth, c, n, Q⟩ := K
    obtain ⟨hx, hb, hml, hown, hts, hKK, hI, hSt, hN, hlck, hR, hr, hn, hl0, hQ⟩ := hK
    intro kk hF H locs ls hP hS hls
    refine va_iast (D := gD G) (f := σ j) hx hb hKK hP (wd_D hI) hS j 0 (by rw [wd_at h.1, h.2]) rfl (vp_in_iff.mpr hc) hd (fun H1 locs1 hP1 _ hS1 => ?_)
    rw [← h.2 (upd (σ j) i.toNatClampNeg x), wd_set] at hP1
    exact kk hF H1 locs1 ls hP1 hS1 hls
  · unfold six
    rw [if_neg hc]
    exact sV.no
/-- arrays of references of the world -/
def qA (w : Wd) (G : Geo) (j n t : Nat) (h : Nat → Nat) : Prop := j < w.1 ∧ ∀ f, w.2 G f j = .inl (gcy G t, n, .inr (.inr (.inr (.inr (fun i => some (h i))))))
theorem r_aald {j n0 t r : Nat} {ty : FieldType} {hh : Nat → Nat} {i : Int32} (hK : sOk w G K l0 own cc rm nL ret rv σ') (hd : decode cc pc = .ok (.aaload, 1)) (hq : pc + 1 = q) (h : qA w G j n0 t hh) (ht : (tysOf G)[t]? = some (gcy G t, ty)) (hty : ty.isReference = true) (hr0 : hh (snx i) = r) (kk : 0 ≤ i.toInt ∧ i.toInt < (n0 : Int) → sV w G K a σ q loc (.ref r :: st) F) : sV w G K a σ pc loc (.int i :: .ref (gad G j) :: st) (six n0 i F) := by
  subst hq
  subst hr0
  by_cases hc : 0 ≤ i.toInt ∧ i.toInt < (n0 : Int)
  · have kk := kk hc
    revert kk
    unfold six
    rw [if_pos hc]
    obtain ⟨p, l, e, R, s, m, args, below, meth, c, n, Q⟩ := K
    obtain ⟨hx, hb, hml, hown, hts, hKK, hI, hSt, hN, hlck, hR, hr, hn, hl0, hQ⟩ := hK
    intro kk hF H locs ls hP hS hls
    have hin : vp_in i n0 := vp_in_iff.mpr hc
    have hlt : i.toNatClampNeg < n0 := Nat.not_le.mp fun q => hin (Or.inr q)
    have ha : (wd w G σ)[j]? = some (gad G j, .inl (gcy G t, n0, .inr (.inr (.inr (.inr (fun i => some (hh i))))))) := by rw [wd_at h.1, h.2]
    exact W.aald (v := .ref (hh (snx i))) (ty := ty) hx hb (hP j _ ha) ((hKK.2 t _ ht).1 n0 (fun j => va_rf (some (hh j)))) hty (fun q => by cases q) (by show ¬ (i < 0 ∨ (arrV _ _ _).slots.size ≤ _); rw [arrV_size]; exact hin) (by show (arrV _ _ _).slots[_]? = _; rw [arrV_read _ _ hlt]; rfl) rfl rfl hd (kk hF H locs ls hP hS hls)
  · unfold six
    rw [if_neg hc]
    exact sV.no
/-- the static arrays -/
theorem r_gets {index i : Nat} {C n d : String} {v : Value} (hK : sOk w G K l0 own cc rm nL ret rv σ') (hd : decode cc pc = .ok (.getstatic index, 3)) (hq : pc + 3 = q) (hZ : ∀ U, sSt (wA w G) G U U.heap → va_Z C n d v (wA w G) U U.heap) (hlk : Cond.fieldLink own index C n d ∈ TT) (kk : sV w G K a σ q loc (v :: st) F) : sV w G K a σ pc loc (st) F := by
  subst hq
  obtain ⟨p, l, e, R, s, m, args, below, meth, c, n, Q⟩ := K
  obtain ⟨hx, hb, hml, hown, hts, hKK, hI, hSt, hN, hlck, hR, hr, hn, hl0, hQ⟩ := hK
  intro hF H locs ls hP hS hls
  exact va_gets hx hb (hZ s hSt) hS hown (hts _ hlk) (fun x h => h) hd (kk hF H locs ls hP hS hls)
theorem r_getsq {index i : Nat} {C n d : String} (hK : sOk w G K l0 own cc rm nL ret rv σ') (hd : decode cc pc = .ok (.getstatic index, 3)) (hq : pc + 3 = q) (hZ : ∀ U, sSt (wA w G) G U U.heap → va_Zq C n d (wA w G) U U.heap) (hlk : Cond.fieldLink own index C n d ∈ TT) (kk : ∀ r : Option Nat, sV w G K a σ q loc (va_rf r :: st) F) : sV w G K a σ pc loc (st) F := by
  subst hq
  have k0 := kk none
  have k1 := fun t => kk (some t)
  revert k0 k1
  obtain ⟨p, l, e, R, s, m, args, below, meth, c, n, Q⟩ := K
  obtain ⟨hx, hb, hml, hown, hts, hKK, hI, hSt, hN, hlck, hR, hr, hn, hl0, hQ⟩ := hK
  intro k0 k1 hF H locs ls hP hS hls
  rcases hZ s hSt with h | ⟨t, h⟩
  · exact va_gets hx hb h hS hown (hts _ hlk) (fun x h => h) hd (k0 hF H locs ls hP hS hls)
  · exact va_gets hx hb h hS hown (hts _ hlk) (fun x h => h) hd (k1 t hF H locs ls hP hS hls)

theorem r_sti {t n0 : Nat} {f : Nat → Int32} {i : Int32} (hK : sOk w G K l0 own cc rm nL ret rv σ') (hd : decode cc pc = .ok (.iaload, 1)) (hq : pc + 1 = q) (hT : ∀ U, sSt (wA w G) G U U.heap → va_T .int t n0 (fun k => .int (f k)) (wA w G) U U.heap) (kk : 0 ≤ i.toInt ∧ i.toInt < (n0 : Int) → sV w G K a σ q loc (.int (f (snx i)) :: st) F) : sV w G K a σ pc loc (.int i :: .ref t :: st) (six n0 i F) := by
  subst hq
  by_cases hc : 0 ≤ i.toInt ∧ i.toInt < (n0 : Int)
  · have kk := kk hc
    revert kk
    unfold six
    rw [if_pos hc]
    obtain ⟨p, l, e, R, s, m, args, below, meth, c, n, Q⟩ := K
    obtain ⟨hx, hb, hml, hown, hts, hKK, hI, hSt, hN, hlck, hR, hr, hn, hl0, hQ⟩ := hK
    intro kk hF H locs ls hP hS hls
    exact va_ti hx hb (hT s hSt) hS (vp_in_iff.mpr hc) rfl hd (kk hF H locs ls hP hS hls)
  · unfold six
    rw [if_neg hc]
    exact sV.no

theorem r_stc {t n0 : Nat} {f : Nat → Int32} {i : Int32} (hK : sOk w G K l0 own cc rm nL ret rv σ') (hd : decode cc pc = .ok (.caload, 1)) (hq : pc + 1 = q) (hT : ∀ U, sSt (wA w G) G U U.heap → va_T .char t n0 (fun k => .int (f k)) (wA w G) U U.heap) (kk : 0 ≤ i.toInt ∧ i.toInt < (n0 : Int) → sV w G K a σ q loc (.int (f (snx i)) :: st) F) : sV w G K a σ pc loc (.int i :: .ref t :: st) (six n0 i F) := by
  subst hq
  by_cases hc : 0 ≤ i.toInt ∧ i.toInt < (n0 : Int)
  · have kk := kk hc
    revert kk
    unfold six
    rw [if_pos hc]
    obtain ⟨p, l, e, R, s, m, args, below, meth, c, n, Q⟩ := K
    obtain ⟨hx, hb, hml, hown, hts, hKK, hI, hSt, hN, hlck, hR, hr, hn, hl0, hQ⟩ := hK
    intro kk hF H locs ls hP hS hls
    exact va_tc hx hb (hT s hSt) hS (vp_in_iff.mpr hc) rfl hd (kk hF H locs ls hP hS hls)
  · unfold six
    rw [if_neg hc]
    exact sV.no

theorem r_stb {t n0 : Nat} {f : Nat → Int32} {i : Int32} (hK : sOk w G K l0 own cc rm nL ret rv σ') (hd : decode cc pc = .ok (.baload, 1)) (hq : pc + 1 = q) (hT : ∀ U, sSt (wA w G) G U U.heap → va_T .byte t n0 (fun k => .int (f k)) (wA w G) U U.heap) (kk : 0 ≤ i.toInt ∧ i.toInt < (n0 : Int) → sV w G K a σ q loc (.int (f (snx i)) :: st) F) : sV w G K a σ pc loc (.int i :: .ref t :: st) (six n0 i F) := by
  subst hq
  by_cases hc : 0 ≤ i.toInt ∧ i.toInt < (n0 : Int)
  · have kk := kk hc
    revert kk
    unfold six
    rw [if_pos hc]
    obtain ⟨p, l, e, R, s, m, args, below, meth, c, n, Q⟩ := K
    obtain ⟨hx, hb, hml, hown, hts, hKK, hI, hSt, hN, hlck, hR, hr, hn, hl0, hQ⟩ := hK
    intro kk hF H locs ls hP hS hls
    exact va_tb hx hb (hT s hSt) hS (vp_in_iff.mpr hc) rfl hd (kk hF H locs ls hP hS hls)
  · unfold six
    rw [if_neg hc]
    exact sV.no

theorem r_stlen {t n0 : Nat} {ty : FieldType} {f : Nat → Value} (hK : sOk w G K l0 own cc rm nL ret rv σ') (hd : decode cc pc = .ok (.arraylength, 1)) (hq : pc + 1 = q) (hT : ∀ U, sSt (wA w G) G U U.heap → va_T ty t n0 f (wA w G) U U.heap) (kk : sV w G K a σ q loc (.int (nI n0) :: st) F) : sV w G K a σ pc loc (.ref t :: st) F := by
  subst hq
  obtain ⟨p, l, e, R, s, m, args, below, meth, c, n, Q⟩ := K
  obtain ⟨hx, hb, hml, hown, hts, hKK, hI, hSt, hN, hlck, hR, hr, hn, hl0, hQ⟩ := hK
  intro hF H locs ls hP hS hls
  exact va_tlen hx hb (hT s hSt) hS rfl hd (kk hF H locs ls hP hS hls)
theorem r_sget {index r : Nat} {o0 n d : String} {v : Value} (hK : sOk w G K l0 own cc rm nL ret rv σ') (hd : decode cc pc = .ok (.getfield index, 3)) (hq : pc + 3 = q) (hE : ∀ U, sSt (wA w G) G U U.heap → va_OF o0 n d v r (wA w G) U U.heap) (hlk : Cond.fieldLink own index o0 n d ∈ TT) (kk : sV w G K a σ q loc (v :: st) F) : sV w G K a σ pc loc (.ref r :: st) F := by
  subst hq
  obtain ⟨p, l, e, R, s, m, args, below, meth, c, n, Q⟩ := K
  obtain ⟨hx, hb, hml, hown, hts, hKK, hI, hSt, hN, hlck, hR, hr, hn, hl0, hQ⟩ := hK
  intro hF H locs ls hP hS hls
  exact vk_getf hx hb (hE s hSt) hS hown (hts _ hlk) (fun x h => h) hd (kk hF H locs ls hP hS hls)
/-- Math -/
theorem r_max {index : Nat} {x y : Int32} (hK : sOk w G K l0 own cc rm nL ret rv σ') (hd : decode cc pc = .ok (.invokestatic index, 3)) (hq : pc + 3 = q) (hl : Cond.methodLink own index Lib.Math.max.name ∈ TT) (hw : Cond.static Lib.Math.max.name ∈ TT ∧ Cond.initialized "java/lang/Math" ∈ TT ∧ Cond.code Lib.Math.max.name Lib.Math.max.code 2 (some .int) ∈ TT) (hrm : 1 ≤ rm.frames ∧ (st.map fun v => v.category).sum + 13 ≤ rm.locals) (kk : sV w G K a σ q loc (.int (smax x y) :: st) F) : sV w G K a σ pc loc (.int y :: .int x :: st) F := by
  subst hq
  obtain ⟨p, l, e, R, s, m, args, below, meth, c, n, Q⟩ := K
  obtain ⟨hx, hb, hml, hown, hts, hKK, hI, hSt, hN, hlck, hR, hr, hn, hl0, hQ⟩ := hK
  intro hF H locs ls hP hS hls
  subst hR
  exact va_mmax hx hb (hml.trans hls.1.symm) hown (hts _ hl) (hts _ hw.1) (hts _ hw.2.1) (hts _ hw.2.2) hrm.1 hrm.2 (Nat.zero_le _) (Nat.zero_le _) hd (kk hF H locs ls hP hS hls)
theorem r_min {index : Nat} {x y : Int32} (hK : sOk w G K l0 own cc rm nL ret rv σ') (hd : decode cc pc = .ok (.invokestatic index, 3)) (hq : pc + 3 = q) (hl : Cond.methodLink own index Lib.Math.min.name ∈ TT) (hw : Cond.static Lib.Math.min.name ∈ TT ∧ Cond.initialized "java/lang/Math" ∈ TT ∧ Cond.code Lib.Math.min.name Lib.Math.min.code 2 (some .int) ∈ TT) (hrm : 1 ≤ rm.frames ∧ (st.map fun v => v.category).sum + 13 ≤ rm.locals) (kk : sV w G K a σ q loc (.int (smin x y) :: st) F) : sV w G K a σ pc loc (.int y :: .int x :: st) F := by
  subst hq
  obtain ⟨p, l, e, R, s, m, args, below, meth, c, n, Q⟩ := K
  obtain ⟨hx, hb, hml, hown, hts, hKK, hI, hSt, hN, hlck, hR, hr, hn, hl0, hQ⟩ := hK
  intro hF H locs ls hP hS hls
  subst hR
  exact va_mmin hx hb (hml.trans hls.1.symm) hown (hts _ hl) (hts _ hw.1) (hts _ hw.2.1) (hts _ hw.2.2) hrm.1 hrm.2 (Nat.zero_le _) (Nat.zero_le _) hd (kk hF H locs ls hP hS hls)
theorem r_abs {index : Nat} {x : Int32} (hK : sOk w G K l0 own cc rm nL ret rv σ') (hd : decode cc pc = .ok (.invokestatic index, 3)) (hq : pc + 3 = q) (hl : Cond.methodLink own index Lib.Math.abs.name ∈ TT) (hw : Cond.static Lib.Math.abs.name ∈ TT ∧ Cond.initialized "java/lang/Math" ∈ TT ∧ Cond.code Lib.Math.abs.name Lib.Math.abs.code 1 (some .int) ∈ TT) (hrm : 1 ≤ rm.frames ∧ (st.map fun v => v.category).sum + 13 ≤ rm.locals) (kk : sV w G K a σ q loc (.int (sabs x) :: st) F) : sV w G K a σ pc loc (.int x :: st) F := by
  subst hq
  obtain ⟨p, l, e, R, s, m, args, below, meth, c, n, Q⟩ := K
  obtain ⟨hx, hb, hml, hown, hts, hKK, hI, hSt, hN, hlck, hR, hr, hn, hl0, hQ⟩ := hK
  intro hF H locs ls hP hS hls
  subst hR
  exact va_mabs hx hb (hml.trans hls.1.symm) hown (hts _ hl) (hts _ hw.1) (hts _ hw.2.1) (hts _ hw.2.2) hrm.1 hrm.2 (Nat.zero_le _) (Nat.zero_le _) hd (kk hF H locs ls hP hS hls)
/-- System.arraycopy over int arrays of the world -/
theorem r_acp {index j0 n0 j1 n1 : Nat} {sp dp n : Int32} {kF : Store → Option α} (hK : sOk w G K l0 own cc rm nL ret rv σ') (hd : decode cc pc = .ok (.invokestatic index, 3)) (hq : pc + 3 = q) (h0 : iA w G j0 n0) (h1 : iA w G j1 n1) (hl : Cond.methodLink own index arraycopyName ∈ TT) (hw : Cond.native arraycopyName ∈ TT ∧ Cond.static arraycopyName ∈ TT ∧ Cond.initialized "java/lang/System" ∈ TT) (hrm : 1 ≤ rm.frames ∧ (st.map fun v => v.category).sum + (nativeFrameWords "java/lang/System" "arraycopy" 5 + 11) ≤ rm.locals) (kk : ∀ σ1, sV w G K a σ1 q loc (st) (kF σ1)) : sV w G K a σ pc loc (.int n :: .int dp :: .ref (gad G j1) :: .int sp :: .ref (gad G j0) :: st) (scp σ j0 n0 sp j1 n1 dp n kF) := by
  subst hq
  by_cases hc : ¬ sp < 0 ∧ ¬ dp < 0 ∧ ¬ n < 0 ∧ snx sp + snx n ≤ n0 ∧ snx dp + snx n ≤ n1
  · have kk := kk (srow σ j1 (va_cpy (σ j0) (σ j1) (snx sp) (snx dp) (snx n)))
    revert kk
    unfold scp
    rw [if_pos hc]
    obtain ⟨p, l, e, R, s, m, args, below, meth, c, n, Q⟩ := K
    obtain ⟨hx, hb, hml, hown, hts, hKK, hI, hSt, hN, hlck, hR, hr, hn, hl0, hQ⟩ := hK
    intro kk hF H locs ls hP hS hls
    subst hR
    refine va_copyi (D := gD G) (f := σ j0) (g := σ j1) hx hb (hml.trans hls.1.symm) hown (hts _ hl) (hts _ hw.1) (hts _ hw.2.1) (hts _ hw.2.2) hKK hP (wd_D hI) hS j0 j1 0 0 (by rw [wd_at h0.1, h0.2]) (by rw [wd_at h1.1, h1.2]) rfl rfl rfl hc.1 hc.2.1 hc.2.2.1 hc.2.2.2.1 hc.2.2.2.2 (fun _ _ => rfl) hrm.1 hrm.2 hd (fun H1 locs1 hP1 _ hS1 => ?_)
    rw [← h1.2, wd_set] at hP1
    exact kk hF H1 locs1 ls hP1 hS1 hls
  · unfold scp
    rw [if_neg hc]
    exact sV.no

/-- what a call of y asks of the words -/
def mW (y : MethodName) (bytes : ByteArray) (nL : Nat) (ret : Option FieldType) (n : Nat) : Prop := Cond.code y bytes nL ret ∈ TT ∧ Cond.initialized y.cls ∈ TT ∧ (y.cls ≠ "java/lang/invoke/MethodHandle" ∧ y.cls ≠ "java/lang/invoke/VarHandle") ∧ (parseMethodDescriptor y.desc).map (fun d => d.parameters.length) = some n
def mV (y : MethodName) : Prop := Cond.instanceMethod y ∈ TT ∧ Cond.selects y.cls y y ∈ TT
theorem TT_in {y : MethodName} {bytes : ByteArray} {nL : Nat} {ret : Option FieldType} (h : Cond.code y bytes nL ret ∈ TT) : GoodIn TT (Cond.code y bytes nL ret :: TT) := fun w hw => (List.mem_cons.mp hw).elim (fun e => TT_good (fun _ h => h) w (e ▸ h)) (fun h2 => TT_good (fun _ h => h) w h2)

theorem s_pre {s U : State} {H : Heap} {locs : List Loc} (hU : U.heap = H) (hW : s.WarmedH U.vm) (hP : va_P (gD G) vwCl (wd w G σ) H) (hK : va_K (gD G) vwCl (tysOf G) s) (hI : wInj w G) (hSt : sSt (wA w G) G s s.heap) (hN : sN s) (hS : va_S (wA w G) s.heap H locs) : sPre w G σ U := by
  subst hU
  exact ⟨hP, va_K.moved hW.alike hK, hI, sSt.moved hW.alike (hSt.kept hS.2.1), sN.warm hW hN⟩
theorem s_blind {av : List Value} : FrameBlind (va_Pc av (sPre w G σ)) := fun a U g mk h => by
  obtain ⟨h0, hP, hK, hI, hSt, hN⟩ := h
  exact ⟨h0, hP, va_K.moved (u := U) (U := U.calling g mk a) (Vm.Alike.refl U.vm) hK, hI, sSt.moved (u := U) (U := U.calling g mk a) (Vm.Alike.refl U.vm) hSt, sN.same (u := U) (U := U.calling g mk a) rfl hN⟩
theorem s_goes {p : Program} {l : Launch} {e : Env} {R : Room} {s : State} {m : MethodId} {args av : Array Value} {below : List Frame} {meth : Method} {c : Code} {H : Heap} {locs : List Loc} {Q : State → Prop} {ls : Array Slot} {st0 rest : List Value} {σ1 : Store} {r : Option Value}
    (hr : va_Run p l e R s m args below meth c H locs 0 0 0 0 (F0 m pc ls st0) rest (sQ w G r σ1 av) (wA w G)) (hS : va_S (wA w G) s.heap H locs) (kk : ∀ (H1 : Heap) (locs1 : List Loc), va_P (gD G) vwCl (wd w G σ1) H1 → va_S (wA w G) s.heap H1 locs1 → W p l e R s m args below meth c H1 locs1 0 0 Q (F0 m (pc + 3) ls (r.toList ++ rest))) : W p l e R s m args below meth c H locs 0 0 Q (F0 m pc ls st0) := by
  intro T hT X
  obtain ⟨v, st₀, t, T', L, h0, X', hL, e1, e2, ⟨hv, hP, hz, hk⟩, stp⟩ := hr T hT X
  cases hv
  rw [h0] at hz hk
  obtain ⟨t2, a1, b1⟩ := kk T'.heap (locs ++ L) (by rw [e1]; exact hP)
    ⟨Nat.le_trans hS.1 (by rw [e1]; exact hz), fun q h1 h2 => by rw [e1, hk q (Nat.lt_of_lt_of_le h1 hS.1) h2]; exact hS.2.1 q h1 h2, fun q hq => by
      rcases List.mem_append.mp hq with h | h
      · exact hS.2.2 q h
      · exact hL q h⟩ T' rfl X'
  exact ⟨t2, stp t2 a1, b1⟩

theorem s_callV {β : Type} {index j n0 : Nat} {host : String} {y : MethodName} {bytes : ByteArray} {nL1 : Nat} {ret1 : Option FieldType} {rm1 : Room} {As rest stk : List Value} {f : Option β} {kF : β → Option α} {vO : β → Option Value} {sO : β → Store} (hK : sOk w G K l0 own cc rm nL ret rv σ') (hd : decode cc pc = .ok (.invokevirtual index, 3)) (hq : pc + 3 = q) {r : Nat} (hc : ∀ b, f = some b → sCon l0 w G y bytes nL1 ret1 rm1 (.ref r :: As) σ (vO b) (sO b)) (hrec : ∃ ci fs T N, j < w.1 ∧ r = gad G j ∧ w.2 G (σ j) j = .inr (ci, fs) ∧ vwCl[ci]? = some (y.cls, T, N)) (hv : mV y) (hst : stk = As.reverse ++ .ref r :: rest) (hn0 : As.length = n0) (hcat : (rest.map fun v => v.category).sum ≤ 8) (hl : Cond.methodLink own index y ∈ TT) (hw : mW y bytes nL1 ret1 n0) (hrm : (rm1.cells = 0 ∧ rm1.slots = 0) ∧ rm1.frames + 1 ≤ rm.frames ∧ 8 + (nL1 + 11) + rm1.locals ≤ rm.locals) (kk : ∀ b, sV w G K a (sO b) q loc ((vO b).toList ++ rest) (kF b)) : sV w G K a σ pc loc (stk) (sbd f kF) := by
  subst hq
  cases hf : f with
  | none => exact sV.no
  | some b =>
    have kk := kk b
    have hc := hc b hf
    revert kk hc
    obtain ⟨p, l, e, R, s, m, args, below, meth, c, n, Q⟩ := K
    obtain ⟨hx, hb, hml, hown, hts, hKK, hI, hSt, hN, hlck, hR, hr, hn, hl0, hQ⟩ := hK
    intro kk hc hF H locs ls hP hS hls
    subst hR
    subst hst
    subst hl0
    refine s_goes (rest := rest) (va_runV (As := As) (rest := rest) (n := n0) ⟨hx, hb, hml, hown, hts⟩ hc ⟨callB_of n0 hts (TT_in hw.1) rfl hrm.1.1 hrm.1.2 (hts _ hw.2.1) (hts _ hl) ⟨hw.2.2.1.1, hw.2.2.1.2, hw.2.2.2⟩ hrm.2, hts _ hv.1, hts _ hv.2⟩ ⟨s_blind, by obtain ⟨ci, fs, T, N, g1, g2, g3, g4⟩ := hrec; subst g2; exact va_recv hKK hP (q0 := j) g4 (by rw [wd_at g1, g3]), fun U hU hW => ⟨rfl, s_pre hU hW hP hKK hI hSt hN hS⟩⟩ rfl hn0 hls.1 rfl (lv_room hcat) hd ⟨Nat.zero_le _, Nat.zero_le _⟩) hS (fun H1 locs1 hP1 hS1 => kk hF H1 locs1 ls hP1 hS1 hls)

theorem s_callS {β : Type} {index j n0 : Nat} {host : String} {y : MethodName} {bytes : ByteArray} {nL1 : Nat} {ret1 : Option FieldType} {rm1 : Room} {As rest stk : List Value} {f : Option β} {kF : β → Option α} {vO : β → Option Value} {sO : β → Store} (hK : sOk w G K l0 own cc rm nL ret rv σ') (hd : decode cc pc = .ok (.invokestatic index, 3)) (hq : pc + 3 = q) (hc : ∀ b, f = some b → sCon l0 w G y bytes nL1 ret1 rm1 (As) σ (vO b) (sO b)) (hv : Cond.static y ∈ TT) (hst : stk = As.reverse ++ rest) (hn0 : As.length = n0) (hcat : (rest.map fun v => v.category).sum ≤ 8) (hl : Cond.methodLink own index y ∈ TT) (hw : mW y bytes nL1 ret1 n0) (hrm : (rm1.cells = 0 ∧ rm1.slots = 0) ∧ rm1.frames + 1 ≤ rm.frames ∧ 8 + (nL1 + 11) + rm1.locals ≤ rm.locals) (kk : ∀ b, sV w G K a (sO b) q loc ((vO b).toList ++ rest) (kF b)) : sV w G K a σ pc loc (stk) (sbd f kF) := by
  subst hq
  cases hf : f with
  | none => exact sV.no
  | some b =>
    have kk := kk b
    have hc := hc b hf
    revert kk hc
    obtain ⟨p, l, e, R, s, m, args, below, meth, c, n, Q⟩ := K
    obtain ⟨hx, hb, hml, hown, hts, hKK, hI, hSt, hN, hlck, hR, hr, hn, hl0, hQ⟩ := hK
    intro kk hc hF H locs ls hP hS hls
    subst hR
    subst hst
    subst hl0
    refine s_goes (rest := rest) (va_runS (As := As) (rest := rest) (n := n0) ⟨hx, hb, hml, hown, hts⟩ hc ⟨callB_of n0 hts (TT_in hw.1) rfl hrm.1.1 hrm.1.2 (hts _ hw.2.1) (hts _ hl) ⟨hw.2.2.1.1, hw.2.2.1.2, hw.2.2.2⟩ hrm.2, hts _ hv⟩ ⟨s_blind, fun U hU hW => ⟨rfl, s_pre hU hW hP hKK hI hSt hN hS⟩⟩ rfl hn0 hls.1 rfl (lv_room hcat) hd ⟨Nat.zero_le _, Nat.zero_le _⟩) hS (fun H1 locs1 hP1 hS1 => kk hF H1 locs1 ls hP1 hS1 hls)

theorem s_callSN {β : Type} {index j n0 : Nat} {host : String} {y : MethodName} {bytes : ByteArray} {nL1 : Nat} {ret1 : Option FieldType} {rm1 : Room} {As rest stk : List Value} {f : Option β} {kF : β → Option α} {vO : β → Option Value} {sO : β → Store} (hK : sOk w G K l0 own cc rm nL ret rv σ') (hd : decode cc pc = .ok (.invokestatic index, 3)) (hq : pc + 3 = q) (hc : ∀ b, f = some b → sCon l0 w G y bytes nL1 ret1 rm1 (As) σ (vO b) (sO b)) (hl : ∀ s, sN s → va_Nw (.methodLinkNest own index y host) s) (hv : Cond.static y ∈ TT) (hst : stk = As.reverse ++ rest) (hn0 : As.length = n0) (hcat : (rest.map fun v => v.category).sum ≤ 8)  (hw : mW y bytes nL1 ret1 n0) (hrm : (rm1.cells = 0 ∧ rm1.slots = 0) ∧ rm1.frames + 1 ≤ rm.frames ∧ 8 + (nL1 + 11) + rm1.locals ≤ rm.locals) (kk : ∀ b, sV w G K a (sO b) q loc ((vO b).toList ++ rest) (kF b)) : sV w G K a σ pc loc (stk) (sbd f kF) := by
  subst hq
  cases hf : f with
  | none => exact sV.no
  | some b =>
    have kk := kk b
    have hc := hc b hf
    revert kk hc
    obtain ⟨p, l, e, R, s, m, args, below, meth, c, n, Q⟩ := K
    obtain ⟨hx, hb, hml, hown, hts, hKK, hI, hSt, hN, hlck, hR, hr, hn, hl0, hQ⟩ := hK
    intro kk hc hF H locs ls hP hS hls
    subst hR
    subst hst
    subst hl0
    refine s_goes (rest := rest) (va_runSN (As := As) (rest := rest) (n := n0) (host := host) ⟨hx, hb, hml, hown, hts⟩ hc ⟨va_cnB n0 hts (TT_in hw.1) rfl hrm.1.1 hrm.1.2 (hl s hN) (hts _ hw.2.1) ⟨hw.2.2.1.1, hw.2.2.1.2, hw.2.2.2⟩ hrm.2, hts _ hv, trivial⟩ ⟨s_blind, fun U hU hW => ⟨rfl, s_pre hU hW hP hKK hI hSt hN hS⟩⟩ rfl hn0 hls.1 rfl (lv_room hcat) hd ⟨Nat.zero_le _, Nat.zero_le _⟩) hS (fun H1 locs1 hP1 hS1 => kk hF H1 locs1 ls hP1 hS1 hls)

end SV2