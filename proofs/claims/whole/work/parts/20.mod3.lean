def fX9_isSlot  (a0 : Int32) (σ : Store) : Option Bool := (sbd (fX9_within a0 (0 : Int32) (4 : Int32) σ) fun r1 => (some r1))
theorem c_X9_isSlot {l0 : Launch} {G : Geo} (a0 : Int32) (σ : Store) (a : Bool) (hf : fX9_isSlot  a0 σ = some a) : sCon l0 wMod G yX9_isSlot cX9_isSlot 1 (some .boolean) (rmL 2 82) [.int a0] σ (some (.int (b2i a))) σ := by
  refine sCon.of (by decide) ⟨rfl, rfl⟩ (Nat.le_of_ble_eq_true rfl) RX9 rfl _ hf (fun K hK => ?_)
  show sV wMod G K a σ 0 [(0, .int a0)] [] _
  unfold fX9_isSlot
  refine r_iload_n (q := 1) hK dX9_isSlot_0 rfl rfl 0 rfl ?_
  refine r_iconst (q := 2) (v := 0) hK dX9_isSlot_1 rfl rfl ?_
  refine r_iconst (q := 3) (v := 4) hK dX9_isSlot_2 rfl rfl ?_
  refine callS_b (q := 6) (As := [.int a0, .int (0 : Int32), .int (4 : Int32)]) (rest := []) (f := (fX9_within a0 (0 : Int32) (4 : Int32) σ)) hK dX9_isSlot_3 rfl (fun b hb => c_X9_within a0 (0 : Int32) (4 : Int32) σ b hb) ms_X9_within rfl rfl (Nat.le_of_ble_eq_true rfl) tw_900 mw_X9_within (rmOk (Nat.le_of_ble_eq_true rfl) (Nat.le_of_ble_eq_true rfl)) (fun r1 => ?_)
  exact e_b (b := r1) hK dX9_isSlot_6
def fX9_holds  (a1 : Int32) (a2 : Int32) (σ : Store) : Option (Int32 × Store) := (six 5 a1 (slt (σ 15 (snx a1)) fun x2 => (six 5 a1 (slt (sup σ 15 (snx a1) a2) fun s4 => (some (x2, s4))))))
theorem c_X9_holds {l0 : Launch} {G : Geo} (a1 : Int32) (a2 : Int32) (σ : Store) (a : (Int32 × Store)) (hf : fX9_holds  a1 a2 σ = some a) : sCon l0 wMod G yX9_holds cX9_holds 4 (some .int) (rmL 1 60) [.ref (gad G 0), .int a1, .int a2] σ (some (.int a.1)) a.2 := by
  refine sCon.of (by decide) ⟨rfl, rfl⟩ (Nat.le_of_ble_eq_true rfl) RX9 rfl _ hf (fun K hK => ?_)
  show sV wMod G K a σ 0 [(0, .ref (gad G 0)), (1, .int a1), (2, .int a2)] [] _
  unfold fX9_holds
  refine r_aload_n (q := 1) hK dX9_holds_0 rfl rfl 0 rfl ?_
  refine gf_9_25 (q := 4) hK dX9_holds_1 rfl tw_829 ?_
  refine r_iload_n (q := 5) hK dX9_holds_4 rfl rfl 1 rfl ?_
  refine r_iald (q := 6) hK dX9_holds_5 rfl aM15 (fun h1 => ?_)
  refine sV.ltI (fun x2 => ?_)
  refine r_istore_n (q := 7) (loc' := [(3, .int x2), (0, .ref (gad G 0)), (1, .int a1), (2, .int a2)]) hK dX9_holds_6 rfl rfl (by decide) rfl ?_
  refine r_aload_n (q := 8) hK dX9_holds_7 rfl rfl 1 rfl ?_
  refine gf_9_25 (q := 11) hK dX9_holds_8 rfl tw_829 ?_
  refine r_iload_n (q := 12) hK dX9_holds_11 rfl rfl 2 rfl ?_
  refine r_iload_n (q := 13) hK dX9_holds_12 rfl rfl 3 rfl ?_
  refine r_iast (q := 14) hK dX9_holds_13 rfl aM15 (fun h3 => ?_)
  refine sV.ltS (fun s4 => ?_)
  refine r_iload_n (q := 15) hK dX9_holds_14 rfl rfl 0 rfl ?_
  exact e_iS hK dX9_holds_15
def fX9_lay_L143  (v3 : Int32) (v5 : Int32) (k : Int32 → Store → Option (Int32 × Store)) : Nat → Int32 → Store → Option (Int32 × Store)
  | 0, _, _ => none
  | n + 1, i6, τ => (if (2 : Int32) < i6 then (k i6 τ) else (sbd (fX9_wordIs v3 i6 τ) fun r71 => (six 125 (v5 + i6) (slt (sup τ 16 (snx (v5 + i6)) r71) fun s73 => (fX9_lay_L143 v3 v5 k n (i6 + (1 : Int32)) s73)))))
theorem vX9_lay_L143 {G : Geo} {K : KT} {l0 : Launch} (σ : Store) {a : (Int32 × Store)} (v1 : Int32) (v2 : Int32) (v3 : Int32) (v4 : Bool) (v5 : Int32) (hK : sOk wMod G K l0 RX9 cX9_lay (rmL 3 103) 7 (some .int) (some (.int a.1)) a.2) (k : Int32 → Store → Option (Int32 × Store)) (hk : ∀ (e6 : Int32) (ε : Store), sV wMod G K a ε 172 [(0, .ref (gad G 0)), (1, .int v1), (2, .int v2), (3, .int v3), (4, .int (b2i v4)), (5, .int v5), (6, .int e6)] [] (k e6 ε)) : ∀ (n : Nat) (i6 : Int32) (τ : Store), sV wMod G K a τ 143 [(0, .ref (gad G 0)), (1, .int v1), (2, .int v2), (3, .int v3), (4, .int (b2i v4)), (5, .int v5), (6, .int i6)] [] (fX9_lay_L143 v3 v5 k n i6 τ) := by
  intro n
  induction n with
  | zero =>
    intro i6 τ
    exact sV.no
  | succ n ih =>
    intro i6 τ
    rw [fX9_lay_L143]
    refine r_iload (q := 145) hK dX9_lay_143 rfl 6 rfl ?_
    refine r_iconst (q := 146) (v := 2) hK dX9_lay_145 rfl rfl ?_
    refine r_icmp_gt (t := 172) (q := 149) hK dX9_lay_146 rfl rfl (fun c70 => ?_) (fun c70 => ?_)
    · exact sV.sub [0, 1, 2, 3, 4, 5, 6] (by rfl) (hk i6 τ)
    · refine r_aload_n (q := 150) hK dX9_lay_149 rfl rfl 0 rfl ?_
      refine gf_9_26 (q := 153) hK dX9_lay_150 rfl tw_830 ?_
      refine r_iload (q := 155) hK dX9_lay_153 rfl 5 rfl ?_
      refine r_iload (q := 157) hK dX9_lay_155 rfl 6 rfl ?_
      refine r_iadd (q := 158) hK dX9_lay_157 rfl ?_
      refine r_aload_n (q := 159) hK dX9_lay_158 rfl rfl 0 rfl ?_
      refine r_iload_n (q := 160) hK dX9_lay_159 rfl rfl 3 rfl ?_
      refine r_iload (q := 162) hK dX9_lay_160 rfl 6 rfl ?_
      refine callV_i (q := 165) (j := 0) (As := [.int v3, .int i6]) (rest := [.int (v5 + i6), .ref (gad G 16)]) (f := (fX9_wordIs v3 i6 τ)) hK dX9_lay_162 rfl (fun b hb => c_X9_wordIs v3 i6 τ b hb) ⟨9, _, _, _, by decide, rfl, cM, rfl⟩ mv_X9_wordIs rfl rfl (Nat.le_of_ble_eq_true rfl) tw_932 mw_X9_wordIs (rmOk (Nat.le_of_ble_eq_true rfl) (Nat.le_of_ble_eq_true rfl)) (fun r71 => ?_)
      refine r_iast (q := 166) hK dX9_lay_165 rfl aM16 (fun h72 => ?_)
      refine sV.ltS (fun s73 => ?_)
      refine r_iinc (q := 169) (v := (i6 + (1 : Int32))) (loc' := [(6, .int (i6 + (1 : Int32))), (0, .ref (gad G 0)), (1, .int v1), (2, .int v2), (3, .int v3), (4, .int (b2i v4)), (5, .int v5)]) hK dX9_lay_166 rfl 6 rfl rfl (by decide) rfl ?_
      refine r_goto (q := 143) hK dX9_lay_169 rfl ?_
      exact sV.sub [1, 2, 3, 4, 5, 6, 0] (by rfl) (ih (i6 + (1 : Int32)) s73)
def fX9_lay_L95  (v3 : Int32) (v5 : Int32) (k : Int32 → Store → Option (Int32 × Store)) : Nat → Int32 → Store → Option (Int32 × Store)
  | 0, _, _ => none
  | n + 1, i6, τ => (if (24 : Int32) ≤ i6 then (k i6 τ) else (six 96 (((24 : Int32) * v3) + i6) (six 125 ((v5 + (1 : Int32)) + i6) (slt (sup τ 16 (snx ((v5 + (1 : Int32)) + i6)) (τ 13 (snx (((24 : Int32) * v3) + i6)))) fun s92 => (fX9_lay_L95 v3 v5 k n (i6 + (1 : Int32)) s92)))))
theorem vX9_lay_L95 {G : Geo} {K : KT} {l0 : Launch} (σ : Store) {a : (Int32 × Store)} (v1 : Int32) (v2 : Int32) (v3 : Int32) (v4 : Bool) (v5 : Int32) (hK : sOk wMod G K l0 RX9 cX9_lay (rmL 3 103) 7 (some .int) (some (.int a.1)) a.2) (k : Int32 → Store → Option (Int32 × Store)) (hk : ∀ (e6 : Int32) (ε : Store), sV wMod G K a ε 132 [(0, .ref (gad G 0)), (1, .int v1), (2, .int v2), (3, .int v3), (4, .int (b2i v4)), (5, .int v5), (6, .int e6)] [] (k e6 ε)) : ∀ (n : Nat) (i6 : Int32) (τ : Store), sV wMod G K a τ 95 [(0, .ref (gad G 0)), (1, .int v1), (2, .int v2), (3, .int v3), (4, .int (b2i v4)), (5, .int v5), (6, .int i6)] [] (fX9_lay_L95 v3 v5 k n i6 τ) := by
  intro n
  induction n with
  | zero =>
    intro i6 τ
    exact sV.no
  | succ n ih =>
    intro i6 τ
    rw [fX9_lay_L95]
    refine r_iload (q := 97) hK dX9_lay_95 rfl 6 rfl ?_
    refine r_bipush (q := 99) (v := 24) hK dX9_lay_97 rfl rfl ?_
    refine r_icmp_ge (t := 132) (q := 102) hK dX9_lay_99 rfl rfl (fun c89 => ?_) (fun c89 => ?_)
    · exact sV.sub [0, 1, 2, 3, 4, 5, 6] (by rfl) (hk i6 τ)
    · refine r_aload_n (q := 103) hK dX9_lay_102 rfl rfl 0 rfl ?_
      refine gf_9_26 (q := 106) hK dX9_lay_103 rfl tw_830 ?_
      refine r_iload (q := 108) hK dX9_lay_106 rfl 5 rfl ?_
      refine r_iconst (q := 109) (v := 1) hK dX9_lay_108 rfl rfl ?_
      refine r_iadd (q := 110) hK dX9_lay_109 rfl ?_
      refine r_iload (q := 112) hK dX9_lay_110 rfl 6 rfl ?_
      refine r_iadd (q := 113) hK dX9_lay_112 rfl ?_
      refine r_aload_n (q := 114) hK dX9_lay_113 rfl rfl 0 rfl ?_
      refine gf_9_23 (q := 117) hK dX9_lay_114 rfl tw_827 ?_
      refine r_bipush (q := 119) (v := 24) hK dX9_lay_117 rfl rfl ?_
      refine r_iload_n (q := 120) hK dX9_lay_119 rfl rfl 3 rfl ?_
      refine r_imul (q := 121) hK dX9_lay_120 rfl ?_
      refine r_iload (q := 123) hK dX9_lay_121 rfl 6 rfl ?_
      refine r_iadd (q := 124) hK dX9_lay_123 rfl ?_
      refine r_iald (q := 125) hK dX9_lay_124 rfl aM13 (fun h90 => ?_)
      refine r_iast (q := 126) hK dX9_lay_125 rfl aM16 (fun h91 => ?_)
      refine sV.ltS (fun s92 => ?_)
      refine r_iinc (q := 129) (v := (i6 + (1 : Int32))) (loc' := [(6, .int (i6 + (1 : Int32))), (0, .ref (gad G 0)), (1, .int v1), (2, .int v2), (3, .int v3), (4, .int (b2i v4)), (5, .int v5)]) hK dX9_lay_126 rfl 6 rfl rfl (by decide) rfl ?_
      refine r_goto (q := 95) hK dX9_lay_129 rfl ?_
      exact sV.sub [1, 2, 3, 4, 5, 6, 0] (by rfl) (ih (i6 + (1 : Int32)) s92)
def fX9_lay  (a1 : Int32) (a2 : Int32) (a3 : Int32) (σ : Store) : Option (Int32 × Store) := (sjn (fun k39 : Bool → Option (Int32 × Store) => (if a2 = 0 then (k39 true) else (sjn (fun k17 : Unit → Option (Int32 × Store) => (if ¬ a2 = (1 : Int32) then (k17 ()) else (sbd (fX9_isWord a3 σ) fun r107 => (if r107 = true then (k39 true) else (k17 ()))))) (fun (_u : Unit) => (sjn (fun k29 : Unit → Option (Int32 × Store) => (if ¬ a2 = (2 : Int32) then (k29 ()) else (sbd (fX9_isSheet a3 σ) fun r104 => (if r104 = true then (k39 true) else (k29 ()))))) (fun (_u : Unit) => (if ¬ a2 = (3 : Int32) then (k39 false) else (k39 true)))))))) (fun (z0_39 : Bool) => (sbd (fX9_isSlot a1 σ) fun r15 => (if r15 = true then (if z0_39 = true then (slt ((25 : Int32) * a1) fun x18 => (sjn (fun k183 : Store → Option (Int32 × Store) => (if ¬ a2 = (2 : Int32) then (if ¬ a2 = (1 : Int32) then (six 125 x18 (slt (sup σ 16 (snx x18) a3) fun s61 => (k183 s61))) else (fX9_lay_L143 a3 x18 (fun x74 s75 => (k183 s75)) FU (0 : Int32) σ)) else (six 4 a3 (if 0 ≤ (σ 11 (snx a3)) then (six 4 a3 (six 125 x18 (slt (sup σ 16 (snx x18) (σ 12 (snx a3))) fun s80 => (fX9_lay_L95 a3 x18 (fun x93 s94 => (k183 s94)) FU (0 : Int32) s80)))) else (some ((-1000000011 : Int32), σ)))))) (fun (s_183 : Store) => (sbd2 (fX9_holds a1 a2 s_183) fun r56 s57 => (some (r56, s57)))))) else (some ((-1000000001 : Int32), σ))) else (some ((-1000000001 : Int32), σ))))))
theorem c_X9_lay {l0 : Launch} {G : Geo} (a1 : Int32) (a2 : Int32) (a3 : Int32) (σ : Store) (a : (Int32 × Store)) (hf : fX9_lay  a1 a2 a3 σ = some a) : sCon l0 wMod G yX9_lay cX9_lay 7 (some .int) (rmL 3 103) [.ref (gad G 0), .int a1, .int a2, .int a3] σ (some (.int a.1)) a.2 := by
  refine sCon.of (by decide) ⟨rfl, rfl⟩ (Nat.le_of_ble_eq_true rfl) RX9 rfl _ hf (fun K hK => ?_)
  show sV wMod G K a σ 0 [(0, .ref (gad G 0)), (1, .int a1), (2, .int a2), (3, .int a3)] [] _
  unfold fX9_lay
  refine r_iload_n (q := 1) hK dX9_lay_0 rfl rfl 2 rfl ?_
  refine sV.jn (fun k : Bool → Option (Int32 × Store) => ∀ (z0_39 : Bool), sV wMod G K a σ 39 [(0, .ref (gad G 0)), (1, .int a1), (2, .int a2), (3, .int a3)] [.int (b2i z0_39)] (k z0_39)) (fun z0_39 => ?_) (fun k39 hk39 => ?_)
  · refine r_istore (q := 41) (loc' := [(4, .int (b2i z0_39)), (0, .ref (gad G 0)), (1, .int a1), (2, .int a2), (3, .int a3)]) hK dX9_lay_39 rfl (by decide) rfl ?_
    refine r_iload_n (q := 42) hK dX9_lay_41 rfl rfl 2 rfl ?_
    refine callS_b (q := 45) (As := [.int a1]) (rest := []) (f := (fX9_isSlot a1 σ)) hK dX9_lay_42 rfl (fun b hb => c_X9_isSlot a1 σ b hb) ms_X9_isSlot rfl rfl (Nat.le_of_ble_eq_true rfl) tw_1293 mw_X9_isSlot (rmOk (Nat.le_of_ble_eq_true rfl) (Nat.le_of_ble_eq_true rfl)) (fun r15 => ?_)
    refine r_ifb_eq (t := 53) (q := 48) hK dX9_lay_45 rfl rfl (fun c16 => ?_) (fun c16 => ?_)
    · refine r_iload (q := 50) hK dX9_lay_48 rfl 0 rfl ?_
      refine r_ifb_ne (t := 56) (q := 53) hK dX9_lay_50 rfl rfl (fun c17 => ?_) (fun c17 => ?_)
      · refine r_bipush (q := 58) (v := 25) hK dX9_lay_56 rfl rfl ?_
        refine r_iload_n (q := 59) hK dX9_lay_58 rfl rfl 2 rfl ?_
        refine r_imul (q := 60) hK dX9_lay_59 rfl ?_
        refine sV.ltI (fun x18 => ?_)
        refine r_istore (q := 62) (loc' := [(5, .int x18), (4, .int (b2i z0_39)), (0, .ref (gad G 0)), (1, .int a1), (2, .int a2), (3, .int a3)]) hK dX9_lay_60 rfl (by decide) rfl ?_
        refine r_iload_n (q := 63) hK dX9_lay_62 rfl rfl 4 rfl ?_
        refine r_iconst (q := 64) (v := 2) hK dX9_lay_63 rfl rfl ?_
        refine sV.jn (fun k : Store → Option (Int32 × Store) => ∀ (s_183 : Store), sV wMod G K a s_183 183 [(0, .ref (gad G 0)), (1, .int a1), (2, .int a2), (3, .int a3), (4, .int (b2i z0_39)), (5, .int x18)] [] (k s_183)) (fun s_183 => ?_) (fun k183 hk183 => ?_)
        · refine r_aload_n (q := 184) hK dX9_lay_183 rfl rfl 0 rfl ?_
          refine r_iload_n (q := 185) hK dX9_lay_184 rfl rfl 1 rfl ?_
          refine r_iload_n (q := 186) hK dX9_lay_185 rfl rfl 2 rfl ?_
          refine callV_iS (q := 189) (j := 0) (As := [.int a1, .int a2]) (rest := []) (f := (fX9_holds a1 a2 s_183)) hK dX9_lay_186 rfl (fun b hb => c_X9_holds a1 a2 s_183 b hb) ⟨9, _, _, _, by decide, rfl, cM, rfl⟩ mv_X9_holds rfl rfl (Nat.le_of_ble_eq_true rfl) tw_1296 mw_X9_holds (rmOk (Nat.le_of_ble_eq_true rfl) (Nat.le_of_ble_eq_true rfl)) (fun r56 s57 => ?_)
          exact e_iS hK dX9_lay_189
        · refine r_icmp_ne (t := 135) (q := 67) hK dX9_lay_64 rfl rfl (fun c58 => ?_) (fun c58 => ?_)
          · refine r_iload_n (q := 136) hK dX9_lay_135 rfl rfl 4 rfl ?_
            refine r_iconst (q := 137) (v := 1) hK dX9_lay_136 rfl rfl ?_
            refine r_icmp_ne (t := 175) (q := 140) hK dX9_lay_137 rfl rfl (fun c59 => ?_) (fun c59 => ?_)
            · refine r_aload_n (q := 176) hK dX9_lay_175 rfl rfl 2 rfl ?_
              refine gf_9_26 (q := 179) hK dX9_lay_176 rfl tw_830 ?_
              refine r_iload (q := 181) hK dX9_lay_179 rfl 0 rfl ?_
              refine r_iload_n (q := 182) hK dX9_lay_181 rfl rfl 5 rfl ?_
              refine r_iast (q := 183) hK dX9_lay_182 rfl aM16 (fun h60 => ?_)
              refine sV.ltS (fun s61 => ?_)
              exact sV.sub [2, 3, 4, 5, 1, 0] (by rfl) (hk183 s61)
            · refine r_iconst (q := 141) (v := 0) hK dX9_lay_140 rfl rfl ?_
              refine r_istore (q := 143) (loc' := [(6, .int (0 : Int32)), (5, .int x18), (4, .int (b2i z0_39)), (0, .ref (gad G 0)), (1, .int a1), (2, .int a2), (3, .int a3)]) hK dX9_lay_141 rfl (by decide) rfl ?_
              refine sV.sub [3, 4, 5, 6, 2, 1, 0] (by rfl) (vX9_lay_L143 σ a1 a2 a3 z0_39 x18 hK _ (fun x74 s75 => ?_) FU (0 : Int32) σ)
              refine r_goto (q := 183) hK dX9_lay_172 rfl ?_
              exact sV.sub [0, 1, 2, 3, 4, 5] (by rfl) (hk183 s75)
          · refine r_aload_n (q := 68) hK dX9_lay_67 rfl rfl 2 rfl ?_
            refine gf_9_21 (q := 71) hK dX9_lay_68 rfl tw_825 ?_
            refine r_iload_n (q := 72) hK dX9_lay_71 rfl rfl 5 rfl ?_
            refine r_iald (q := 73) hK dX9_lay_72 rfl aM11 (fun h76 => ?_)
            refine r_if_ge (t := 79) (q := 76) hK dX9_lay_73 rfl rfl (fun c77 => ?_) (fun c77 => ?_)
            · refine r_aload_n (q := 80) hK dX9_lay_79 rfl rfl 2 rfl ?_
              refine gf_9_26 (q := 83) hK dX9_lay_80 rfl tw_830 ?_
              refine r_iload (q := 85) hK dX9_lay_83 rfl 0 rfl ?_
              refine r_aload_n (q := 86) hK dX9_lay_85 rfl rfl 2 rfl ?_
              refine gf_9_22 (q := 89) hK dX9_lay_86 rfl tw_826 ?_
              refine r_iload_n (q := 90) hK dX9_lay_89 rfl rfl 5 rfl ?_
              refine r_iald (q := 91) hK dX9_lay_90 rfl aM12 (fun h78 => ?_)
              refine r_iast (q := 92) hK dX9_lay_91 rfl aM16 (fun h79 => ?_)
              refine sV.ltS (fun s80 => ?_)
              refine r_iconst (q := 93) (v := 0) hK dX9_lay_92 rfl rfl ?_
              refine r_istore (q := 95) (loc' := [(6, .int (0 : Int32)), (5, .int x18), (4, .int (b2i z0_39)), (0, .ref (gad G 0)), (1, .int a1), (2, .int a2), (3, .int a3)]) hK dX9_lay_93 rfl (by decide) rfl ?_
              refine sV.sub [3, 4, 5, 6, 2, 1, 0] (by rfl) (vX9_lay_L95 s80 a1 a2 a3 z0_39 x18 hK _ (fun x93 s94 => ?_) FU (0 : Int32) s80)
              refine r_goto (q := 183) hK dX9_lay_132 rfl ?_
              exact sV.sub [0, 1, 2, 3, 4, 5] (by rfl) (hk183 s94)
            · refine r_ldc (q := 78) hK dX9_lay_76 rfl tw_1120 ?_
              exact e_iS hK dX9_lay_78
      · refine r_ldc (q := 55) hK dX9_lay_53 rfl tw_906 ?_
        exact e_iS hK dX9_lay_55
    · refine r_ldc (q := 55) hK dX9_lay_53 rfl tw_906 ?_
      exact e_iS hK dX9_lay_55
  · refine r_if_eq (t := 34) (q := 4) hK dX9_lay_1 rfl rfl (fun c95 => ?_) (fun c95 => ?_)
    · refine r_iconst (q := 35) (v := 1) hK dX9_lay_34 rfl rfl ?_
      refine r_goto (q := 39) hK dX9_lay_35 rfl ?_
      exact sV.sub [0, 1, 2, 3] (by rfl) (hk39 true)
    · refine r_iload_n (q := 5) hK dX9_lay_4 rfl rfl 2 rfl ?_
      refine r_iconst (q := 6) (v := 1) hK dX9_lay_5 rfl rfl ?_
      refine sV.jn (fun k : Unit → Option (Int32 × Store) => ∀ (_u : Unit), sV wMod G K a σ 17 [(0, .ref (gad G 0)), (1, .int a1), (2, .int a2), (3, .int a3)] [] (k ())) (fun _ => ?_) (fun k17 hk17 => ?_)
      · refine r_iload_n (q := 18) hK dX9_lay_17 rfl rfl 2 rfl ?_
        refine r_iconst (q := 19) (v := 2) hK dX9_lay_18 rfl rfl ?_
        refine sV.jn (fun k : Unit → Option (Int32 × Store) => ∀ (_u : Unit), sV wMod G K a σ 29 [(0, .ref (gad G 0)), (1, .int a1), (2, .int a2), (3, .int a3)] [] (k ())) (fun _ => ?_) (fun k29 hk29 => ?_)
        · refine r_iload_n (q := 30) hK dX9_lay_29 rfl rfl 2 rfl ?_
          refine r_iconst (q := 31) (v := 3) hK dX9_lay_30 rfl rfl ?_
          refine r_icmp_ne (t := 38) (q := 34) hK dX9_lay_31 rfl rfl (fun c102 => ?_) (fun c102 => ?_)
          · refine r_iconst (q := 39) (v := 0) hK dX9_lay_38 rfl rfl ?_
            exact sV.sub [0, 1, 2, 3] (by rfl) (hk39 false)
          · refine r_iconst (q := 35) (v := 1) hK dX9_lay_34 rfl rfl ?_
            refine r_goto (q := 39) hK dX9_lay_35 rfl ?_
            exact sV.sub [0, 1, 2, 3] (by rfl) (hk39 true)
        · refine r_icmp_ne (t := 29) (q := 22) hK dX9_lay_19 rfl rfl (fun c103 => ?_) (fun c103 => ?_)
          · exact sV.sub [0, 1, 2, 3] (by rfl) (hk29 ())
          · refine r_iload_n (q := 23) hK dX9_lay_22 rfl rfl 3 rfl ?_
            refine callS_b (q := 26) (As := [.int a3]) (rest := []) (f := (fX9_isSheet a3 σ)) hK dX9_lay_23 rfl (fun b hb => c_X9_isSheet a3 σ b hb) ms_X9_isSheet rfl rfl (Nat.le_of_ble_eq_true rfl) tw_1117 mw_X9_isSheet (rmOk (Nat.le_of_ble_eq_true rfl) (Nat.le_of_ble_eq_true rfl)) (fun r104 => ?_)
            refine r_ifb_ne (t := 34) (q := 29) hK dX9_lay_26 rfl rfl (fun c105 => ?_) (fun c105 => ?_)
            · refine r_iconst (q := 35) (v := 1) hK dX9_lay_34 rfl rfl ?_
              refine r_goto (q := 39) hK dX9_lay_35 rfl ?_
              exact sV.sub [0, 1, 2, 3] (by rfl) (hk39 true)
            · exact sV.sub [0, 1, 2, 3] (by rfl) (hk29 ())
      · refine r_icmp_ne (t := 17) (q := 9) hK dX9_lay_6 rfl rfl (fun c106 => ?_) (fun c106 => ?_)
        · exact sV.sub [0, 1, 2, 3] (by rfl) (hk17 ())
        · refine r_aload_n (q := 10) hK dX9_lay_9 rfl rfl 0 rfl ?_
          refine r_iload_n (q := 11) hK dX9_lay_10 rfl rfl 3 rfl ?_
          refine callV_b (q := 14) (j := 0) (As := [.int a3]) (rest := []) (f := (fX9_isWord a3 σ)) hK dX9_lay_11 rfl (fun b hb => c_X9_isWord a3 σ b hb) ⟨9, _, _, _, by decide, rfl, cM, rfl⟩ mv_X9_isWord rfl rfl (Nat.le_of_ble_eq_true rfl) tw_916 mw_X9_isWord (rmOk (Nat.le_of_ble_eq_true rfl) (Nat.le_of_ble_eq_true rfl)) (fun r107 => ?_)
          refine r_ifb_ne (t := 34) (q := 17) hK dX9_lay_14 rfl rfl (fun c108 => ?_) (fun c108 => ?_)
          · refine r_iconst (q := 35) (v := 1) hK dX9_lay_34 rfl rfl ?_
            refine r_goto (q := 39) hK dX9_lay_35 rfl ?_
            exact sV.sub [0, 1, 2, 3] (by rfl) (hk39 true)
          · exact sV.sub [0, 1, 2, 3] (by rfl) (hk17 ())
def fX9_ask  (a1 : Int32) (a2 : Int32) (σ : Store) : Option Int32 := (sbd (fX9_isSlot a1 σ) fun r1 => (if r1 = true then (sbd (fX9_isKind a2 σ) fun r3 => (if r3 = true then (six 5 a1 (if ¬ (σ 15 (snx a1)) = 0 then (slt ((25 : Int32) * a1) fun x7 => (six 5 a1 (if ¬ (σ 15 (snx a1)) = (1 : Int32) then (some (-1000000012 : Int32)) else (six 125 x7 (sbd (fX9_isUnder (σ 16 (snx x7)) a2 σ) fun r11 => (if r11 = true then (six 125 x7 (six 125 (x7 + (1 : Int32)) (six 125 (x7 + (2 : Int32)) (sbd (fX9_worth (σ 16 (snx x7)) (σ 16 (snx (x7 + (1 : Int32)))) (σ 16 (snx (x7 + (2 : Int32)))) σ) fun r16 => (some r16))))) else (some (-1000000012 : Int32)))))))) else (some (-1000000011 : Int32)))) else (some (-1000000001 : Int32)))) else (some (-1000000001 : Int32))))
theorem c_X9_ask {l0 : Launch} {G : Geo} (a1 : Int32) (a2 : Int32) (σ : Store) (a : Int32) (hf : fX9_ask  a1 a2 σ = some a) : sCon l0 wMod G yX9_ask cX9_ask 4 (some .int) (rmL 3 104) [.ref (gad G 0), .int a1, .int a2] σ (some (.int a)) σ := by
  refine sCon.of (by decide) ⟨rfl, rfl⟩ (Nat.le_of_ble_eq_true rfl) RX9 rfl _ hf (fun K hK => ?_)
  show sV wMod G K a σ 0 [(0, .ref (gad G 0)), (1, .int a1), (2, .int a2)] [] _
  unfold fX9_ask
  refine r_iload_n (q := 1) hK dX9_ask_0 rfl rfl 1 rfl ?_
  refine callS_b (q := 4) (As := [.int a1]) (rest := []) (f := (fX9_isSlot a1 σ)) hK dX9_ask_1 rfl (fun b hb => c_X9_isSlot a1 σ b hb) ms_X9_isSlot rfl rfl (Nat.le_of_ble_eq_true rfl) tw_1293 mw_X9_isSlot (rmOk (Nat.le_of_ble_eq_true rfl) (Nat.le_of_ble_eq_true rfl)) (fun r1 => ?_)
  refine r_ifb_eq (t := 14) (q := 7) hK dX9_ask_4 rfl rfl (fun c2 => ?_) (fun c2 => ?_)
  · refine r_iload_n (q := 8) hK dX9_ask_7 rfl rfl 2 rfl ?_
    refine callS_b (q := 11) (As := [.int a2]) (rest := []) (f := (fX9_isKind a2 σ)) hK dX9_ask_8 rfl (fun b hb => c_X9_isKind a2 σ b hb) ms_X9_isKind rfl rfl (Nat.le_of_ble_eq_true rfl) tw_897 mw_X9_isKind (rmOk (Nat.le_of_ble_eq_true rfl) (Nat.le_of_ble_eq_true rfl)) (fun r3 => ?_)
    refine r_ifb_ne (t := 17) (q := 14) hK dX9_ask_11 rfl rfl (fun c4 => ?_) (fun c4 => ?_)
    · refine r_aload_n (q := 18) hK dX9_ask_17 rfl rfl 0 rfl ?_
      refine gf_9_25 (q := 21) hK dX9_ask_18 rfl tw_829 ?_
      refine r_iload_n (q := 22) hK dX9_ask_21 rfl rfl 1 rfl ?_
      refine r_iald (q := 23) hK dX9_ask_22 rfl aM15 (fun h5 => ?_)
      refine r_if_ne (t := 29) (q := 26) hK dX9_ask_23 rfl rfl (fun c6 => ?_) (fun c6 => ?_)
      · refine r_bipush (q := 31) (v := 25) hK dX9_ask_29 rfl rfl ?_
        refine r_iload_n (q := 32) hK dX9_ask_31 rfl rfl 1 rfl ?_
        refine r_imul (q := 33) hK dX9_ask_32 rfl ?_
        refine sV.ltI (fun x7 => ?_)
        refine r_istore_n (q := 34) (loc' := [(3, .int x7), (0, .ref (gad G 0)), (1, .int a1), (2, .int a2)]) hK dX9_ask_33 rfl rfl (by decide) rfl ?_
        refine r_aload_n (q := 35) hK dX9_ask_34 rfl rfl 1 rfl ?_
        refine gf_9_25 (q := 38) hK dX9_ask_35 rfl tw_829 ?_
        refine r_iload_n (q := 39) hK dX9_ask_38 rfl rfl 2 rfl ?_
        refine r_iald (q := 40) hK dX9_ask_39 rfl aM15 (fun h8 => ?_)
        refine r_iconst (q := 41) (v := 1) hK dX9_ask_40 rfl rfl ?_
        refine r_icmp_ne (t := 85) (q := 44) hK dX9_ask_41 rfl rfl (fun c9 => ?_) (fun c9 => ?_)
        · refine r_ldc (q := 87) hK dX9_ask_85 rfl tw_961 ?_
          exact e_i hK dX9_ask_87
        · refine r_aload_n (q := 45) hK dX9_ask_44 rfl rfl 1 rfl ?_
          refine gf_9_26 (q := 48) hK dX9_ask_45 rfl tw_830 ?_
          refine r_iload_n (q := 49) hK dX9_ask_48 rfl rfl 0 rfl ?_
          refine r_iald (q := 50) hK dX9_ask_49 rfl aM16 (fun h10 => ?_)
          refine r_iload_n (q := 51) hK dX9_ask_50 rfl rfl 3 rfl ?_
          refine callS_b (q := 54) (As := [.int (σ 16 (snx x7)), .int a2]) (rest := []) (f := (fX9_isUnder (σ 16 (snx x7)) a2 σ)) hK dX9_ask_51 rfl (fun b hb => c_X9_isUnder (σ 16 (snx x7)) a2 σ b hb) ms_X9_isUnder rfl rfl (Nat.le_of_ble_eq_true rfl) tw_955 mw_X9_isUnder (rmOk (Nat.le_of_ble_eq_true rfl) (Nat.le_of_ble_eq_true rfl)) (fun r11 => ?_)
          refine r_ifb_eq (t := 85) (q := 57) hK dX9_ask_54 rfl rfl (fun c12 => ?_) (fun c12 => ?_)
          · refine r_aload_n (q := 58) hK dX9_ask_57 rfl rfl 1 rfl ?_
            refine gf_9_26 (q := 61) hK dX9_ask_58 rfl tw_830 ?_
            refine r_iload_n (q := 62) hK dX9_ask_61 rfl rfl 0 rfl ?_
            refine r_iald (q := 63) hK dX9_ask_62 rfl aM16 (fun h13 => ?_)
            refine r_aload_n (q := 64) hK dX9_ask_63 rfl rfl 1 rfl ?_
            refine gf_9_26 (q := 67) hK dX9_ask_64 rfl tw_830 ?_
            refine r_iload_n (q := 68) hK dX9_ask_67 rfl rfl 0 rfl ?_
            refine r_iconst (q := 69) (v := 1) hK dX9_ask_68 rfl rfl ?_
            refine r_iadd (q := 70) hK dX9_ask_69 rfl ?_
            refine r_iald (q := 71) hK dX9_ask_70 rfl aM16 (fun h14 => ?_)
            refine r_aload_n (q := 72) hK dX9_ask_71 rfl rfl 1 rfl ?_
            refine gf_9_26 (q := 75) hK dX9_ask_72 rfl tw_830 ?_
            refine r_iload_n (q := 76) hK dX9_ask_75 rfl rfl 0 rfl ?_
            refine r_iconst (q := 77) (v := 2) hK dX9_ask_76 rfl rfl ?_
            refine r_iadd (q := 78) hK dX9_ask_77 rfl ?_
            refine r_iald (q := 79) hK dX9_ask_78 rfl aM16 (fun h15 => ?_)
            refine callS_i (q := 82) (As := [.int (σ 16 (snx x7)), .int (σ 16 (snx (x7 + (1 : Int32)))), .int (σ 16 (snx (x7 + (2 : Int32))))]) (rest := []) (f := (fX9_worth (σ 16 (snx x7)) (σ 16 (snx (x7 + (1 : Int32)))) (σ 16 (snx (x7 + (2 : Int32)))) σ)) hK dX9_ask_79 rfl (fun b hb => c_X9_worth (σ 16 (snx x7)) (σ 16 (snx (x7 + (1 : Int32)))) (σ 16 (snx (x7 + (2 : Int32)))) σ b hb) ms_X9_worth rfl rfl (Nat.le_of_ble_eq_true rfl) tw_945 mw_X9_worth (rmOk (Nat.le_of_ble_eq_true rfl) (Nat.le_of_ble_eq_true rfl)) (fun r16 => ?_)
            refine r_goto (q := 87) hK dX9_ask_82 rfl ?_
            exact e_i hK dX9_ask_87
          · refine r_ldc (q := 87) hK dX9_ask_85 rfl tw_961 ?_
            exact e_i hK dX9_ask_87
      · refine r_ldc (q := 28) hK dX9_ask_26 rfl tw_1120 ?_
        exact e_i hK dX9_ask_28
    · refine r_ldc (q := 16) hK dX9_ask_14 rfl tw_906 ?_
      exact e_i hK dX9_ask_16
  · refine r_ldc (q := 16) hK dX9_ask_14 rfl tw_906 ?_
    exact e_i hK dX9_ask_16
def fX9_item  (a1 : Int32) (a2 : Int32) (σ : Store) : Option Int32 := (sbd (fX9_isSlot a1 σ) fun r1 => (if r1 = true then (six 5 a1 (if ¬ (σ 15 (snx a1)) = 0 then (slt ((25 : Int32) * a1) fun x5 => (six 5 a1 (if (σ 15 (snx a1)) = (2 : Int32) then (six 125 x5 (sbd (fX9_within a2 (0 : Int32) ((σ 16 (snx x5)) - (1 : Int32)) σ) fun r9 => (if r9 = true then (six 125 ((x5 + (1 : Int32)) + a2) (if ¬ (σ 16 (snx ((x5 + (1 : Int32)) + a2))) = (-1000000005 : Int32) then (six 125 ((x5 + (1 : Int32)) + a2) (some (σ 16 (snx ((x5 + (1 : Int32)) + a2))))) else (some (-1000000012 : Int32)))) else (some (-1000000013 : Int32))))) else (some (-1000000012 : Int32))))) else (some (-1000000011 : Int32)))) else (some (-1000000001 : Int32))))
theorem c_X9_item {l0 : Launch} {G : Geo} (a1 : Int32) (a2 : Int32) (σ : Store) (a : Int32) (hf : fX9_item  a1 a2 σ = some a) : sCon l0 wMod G yX9_item cX9_item 4 (some .int) (rmL 3 102) [.ref (gad G 0), .int a1, .int a2] σ (some (.int a)) σ := by
  refine sCon.of (by decide) ⟨rfl, rfl⟩ (Nat.le_of_ble_eq_true rfl) RX9 rfl _ hf (fun K hK => ?_)
  show sV wMod G K a σ 0 [(0, .ref (gad G 0)), (1, .int a1), (2, .int a2)] [] _
  unfold fX9_item
  refine r_iload_n (q := 1) hK dX9_item_0 rfl rfl 1 rfl ?_
  refine callS_b (q := 4) (As := [.int a1]) (rest := []) (f := (fX9_isSlot a1 σ)) hK dX9_item_1 rfl (fun b hb => c_X9_isSlot a1 σ b hb) ms_X9_isSlot rfl rfl (Nat.le_of_ble_eq_true rfl) tw_1293 mw_X9_isSlot (rmOk (Nat.le_of_ble_eq_true rfl) (Nat.le_of_ble_eq_true rfl)) (fun r1 => ?_)
  refine r_ifb_ne (t := 10) (q := 7) hK dX9_item_4 rfl rfl (fun c2 => ?_) (fun c2 => ?_)
  · refine r_aload_n (q := 11) hK dX9_item_10 rfl rfl 0 rfl ?_
    refine gf_9_25 (q := 14) hK dX9_item_11 rfl tw_829 ?_
    refine r_iload_n (q := 15) hK dX9_item_14 rfl rfl 1 rfl ?_
    refine r_iald (q := 16) hK dX9_item_15 rfl aM15 (fun h3 => ?_)
    refine r_if_ne (t := 22) (q := 19) hK dX9_item_16 rfl rfl (fun c4 => ?_) (fun c4 => ?_)
    · refine r_bipush (q := 24) (v := 25) hK dX9_item_22 rfl rfl ?_
      refine r_iload_n (q := 25) hK dX9_item_24 rfl rfl 1 rfl ?_
      refine r_imul (q := 26) hK dX9_item_25 rfl ?_
      refine sV.ltI (fun x5 => ?_)
      refine r_istore_n (q := 27) (loc' := [(3, .int x5), (0, .ref (gad G 0)), (1, .int a1), (2, .int a2)]) hK dX9_item_26 rfl rfl (by decide) rfl ?_
      refine r_aload_n (q := 28) hK dX9_item_27 rfl rfl 1 rfl ?_
      refine gf_9_25 (q := 31) hK dX9_item_28 rfl tw_829 ?_
      refine r_iload_n (q := 32) hK dX9_item_31 rfl rfl 2 rfl ?_
      refine r_iald (q := 33) hK dX9_item_32 rfl aM15 (fun h6 => ?_)
      refine r_iconst (q := 34) (v := 2) hK dX9_item_33 rfl rfl ?_
      refine r_icmp_eq (t := 40) (q := 37) hK dX9_item_34 rfl rfl (fun c7 => ?_) (fun c7 => ?_)
      · refine r_iload_n (q := 41) hK dX9_item_40 rfl rfl 3 rfl ?_
        refine r_iconst (q := 42) (v := 0) hK dX9_item_41 rfl rfl ?_
        refine r_aload_n (q := 43) hK dX9_item_42 rfl rfl 1 rfl ?_
        refine gf_9_26 (q := 46) hK dX9_item_43 rfl tw_830 ?_
        refine r_iload_n (q := 47) hK dX9_item_46 rfl rfl 0 rfl ?_
        refine r_iald (q := 48) hK dX9_item_47 rfl aM16 (fun h8 => ?_)
        refine r_iconst (q := 49) (v := 1) hK dX9_item_48 rfl rfl ?_
        refine r_isub (q := 50) hK dX9_item_49 rfl ?_
        refine callS_b (q := 53) (As := [.int a2, .int (0 : Int32), .int ((σ 16 (snx x5)) - (1 : Int32))]) (rest := []) (f := (fX9_within a2 (0 : Int32) ((σ 16 (snx x5)) - (1 : Int32)) σ)) hK dX9_item_50 rfl (fun b hb => c_X9_within a2 (0 : Int32) ((σ 16 (snx x5)) - (1 : Int32)) σ b hb) ms_X9_within rfl rfl (Nat.le_of_ble_eq_true rfl) tw_900 mw_X9_within (rmOk (Nat.le_of_ble_eq_true rfl) (Nat.le_of_ble_eq_true rfl)) (fun r9 => ?_)
        refine r_ifb_ne (t := 60) (q := 56) hK dX9_item_53 rfl rfl (fun c10 => ?_) (fun c10 => ?_)
        · refine r_aload_n (q := 61) hK dX9_item_60 rfl rfl 1 rfl ?_
          refine gf_9_26 (q := 64) hK dX9_item_61 rfl tw_830 ?_
          refine r_iload_n (q := 65) hK dX9_item_64 rfl rfl 0 rfl ?_
          refine r_iconst (q := 66) (v := 1) hK dX9_item_65 rfl rfl ?_
          refine r_iadd (q := 67) hK dX9_item_66 rfl ?_
          refine r_iload_n (q := 68) hK dX9_item_67 rfl rfl 3 rfl ?_
          refine r_iadd (q := 69) hK dX9_item_68 rfl ?_
          refine r_iald (q := 70) hK dX9_item_69 rfl aM16 (fun h11 => ?_)
          refine r_ldc (q := 72) hK dX9_item_70 rfl tw_1077 ?_
          refine r_icmp_ne (t := 80) (q := 75) hK dX9_item_72 rfl rfl (fun c12 => ?_) (fun c12 => ?_)
          · refine r_aload_n (q := 81) hK dX9_item_80 rfl rfl 1 rfl ?_
            refine gf_9_26 (q := 84) hK dX9_item_81 rfl tw_830 ?_
            refine r_iload_n (q := 85) hK dX9_item_84 rfl rfl 0 rfl ?_
            refine r_iconst (q := 86) (v := 1) hK dX9_item_85 rfl rfl ?_
            refine r_iadd (q := 87) hK dX9_item_86 rfl ?_
            refine r_iload_n (q := 88) hK dX9_item_87 rfl rfl 3 rfl ?_
            refine r_iadd (q := 89) hK dX9_item_88 rfl ?_
            refine r_iald (q := 90) hK dX9_item_89 rfl aM16 (fun h13 => ?_)
            exact e_i hK dX9_item_90
          · refine r_ldc (q := 77) hK dX9_item_75 rfl tw_961 ?_
            refine r_goto (q := 90) hK dX9_item_77 rfl ?_
            exact e_i hK dX9_item_90
        · refine r_ldcw (q := 59) hK dX9_item_56 rfl tw_1274 ?_
          exact e_i hK dX9_item_59
      · refine r_ldc (q := 39) hK dX9_item_37 rfl tw_961 ?_
        exact e_i hK dX9_item_39
    · refine r_ldc (q := 21) hK dX9_item_19 rfl tw_1120 ?_
      exact e_i hK dX9_item_21
  · refine r_ldc (q := 9) hK dX9_item_7 rfl tw_906 ?_
    exact e_i hK dX9_item_9
def fX9_rest  (a1 : Int32) (a2 : Int32) (σ : Store) : Option Int32 := (sbd (fX9_isSlot a1 σ) fun r1 => (if r1 = true then (six 5 a1 (if ¬ (σ 15 (snx a1)) = 0 then (six 5 a1 (if (σ 15 (snx a1)) = (3 : Int32) then (if ¬ a2 = 0 then (six 125 ((25 : Int32) * a1) (sdz a2 (some ((σ 16 (snx ((25 : Int32) * a1))) - (σ 16 (snx ((25 : Int32) * a1))) / a2 * a2)))) else (some (-1000000002 : Int32))) else (some (-1000000012 : Int32)))) else (some (-1000000011 : Int32)))) else (some (-1000000001 : Int32))))
theorem c_X9_rest {l0 : Launch} {G : Geo} (a1 : Int32) (a2 : Int32) (σ : Store) (a : Int32) (hf : fX9_rest  a1 a2 σ = some a) : sCon l0 wMod G yX9_rest cX9_rest 3 (some .int) (rmL 3 102) [.ref (gad G 0), .int a1, .int a2] σ (some (.int a)) σ := by
  refine sCon.of (by decide) ⟨rfl, rfl⟩ (Nat.le_of_ble_eq_true rfl) RX9 rfl _ hf (fun K hK => ?_)
  show sV wMod G K a σ 0 [(0, .ref (gad G 0)), (1, .int a1), (2, .int a2)] [] _
  unfold fX9_rest
  refine r_iload_n (q := 1) hK dX9_rest_0 rfl rfl 1 rfl ?_
  refine callS_b (q := 4) (As := [.int a1]) (rest := []) (f := (fX9_isSlot a1 σ)) hK dX9_rest_1 rfl (fun b hb => c_X9_isSlot a1 σ b hb) ms_X9_isSlot rfl rfl (Nat.le_of_ble_eq_true rfl) tw_1293 mw_X9_isSlot (rmOk (Nat.le_of_ble_eq_true rfl) (Nat.le_of_ble_eq_true rfl)) (fun r1 => ?_)
  refine r_ifb_ne (t := 10) (q := 7) hK dX9_rest_4 rfl rfl (fun c2 => ?_) (fun c2 => ?_)
  · refine r_aload_n (q := 11) hK dX9_rest_10 rfl rfl 0 rfl ?_
    refine gf_9_25 (q := 14) hK dX9_rest_11 rfl tw_829 ?_
    refine r_iload_n (q := 15) hK dX9_rest_14 rfl rfl 1 rfl ?_
    refine r_iald (q := 16) hK dX9_rest_15 rfl aM15 (fun h3 => ?_)
    refine r_if_ne (t := 22) (q := 19) hK dX9_rest_16 rfl rfl (fun c4 => ?_) (fun c4 => ?_)
    · refine r_aload_n (q := 23) hK dX9_rest_22 rfl rfl 0 rfl ?_
      refine gf_9_25 (q := 26) hK dX9_rest_23 rfl tw_829 ?_
      refine r_iload_n (q := 27) hK dX9_rest_26 rfl rfl 1 rfl ?_
      refine r_iald (q := 28) hK dX9_rest_27 rfl aM15 (fun h5 => ?_)
      refine r_iconst (q := 29) (v := 3) hK dX9_rest_28 rfl rfl ?_
      refine r_icmp_eq (t := 35) (q := 32) hK dX9_rest_29 rfl rfl (fun c6 => ?_) (fun c6 => ?_)
      · refine r_iload_n (q := 36) hK dX9_rest_35 rfl rfl 2 rfl ?_
        refine r_if_ne (t := 45) (q := 39) hK dX9_rest_36 rfl rfl (fun c7 => ?_) (fun c7 => ?_)
        · refine r_aload_n (q := 46) hK dX9_rest_45 rfl rfl 0 rfl ?_
          refine gf_9_26 (q := 49) hK dX9_rest_46 rfl tw_830 ?_
          refine r_bipush (q := 51) (v := 25) hK dX9_rest_49 rfl rfl ?_
          refine r_iload_n (q := 52) hK dX9_rest_51 rfl rfl 1 rfl ?_
          refine r_imul (q := 53) hK dX9_rest_52 rfl ?_
          refine r_iald (q := 54) hK dX9_rest_53 rfl aM16 (fun h8 => ?_)
          refine r_iload_n (q := 55) hK dX9_rest_54 rfl rfl 2 rfl ?_
          refine r_irem (q := 56) hK dX9_rest_55 rfl ?_
          exact e_i hK dX9_rest_56
        · refine r_ldcw (q := 42) hK dX9_rest_39 rfl tw_1312 ?_
          refine r_goto (q := 56) hK dX9_rest_42 rfl ?_
          exact e_i hK dX9_rest_56
      · refine r_ldc (q := 34) hK dX9_rest_32 rfl tw_961 ?_
        exact e_i hK dX9_rest_34
    · refine r_ldc (q := 21) hK dX9_rest_19 rfl tw_1120 ?_
      exact e_i hK dX9_rest_21
  · refine r_ldc (q := 9) hK dX9_rest_7 rfl tw_906 ?_
    exact e_i hK dX9_rest_9
def fX9_tell  (a1 : Int32) (σ : Store) : Option (Int32 × Store) := (if ¬ (σ 0 28) = (60 : Int32) then (six 60 (σ 0 28) (slt (sup σ 17 (snx (σ 0 28)) a1) fun s3 => (slt (sup s3 0 28 ((s3 0 28) + (1 : Int32))) fun s4 => (some ((s4 0 28), s4))))) else (some ((-1000000003 : Int32), σ)))
theorem c_X9_tell {l0 : Launch} {G : Geo} (a1 : Int32) (σ : Store) (a : (Int32 × Store)) (hf : fX9_tell  a1 σ = some a) : sCon l0 wMod G yX9_tell cX9_tell 2 (some .int) (rmL 1 60) [.ref (gad G 0), .int a1] σ (some (.int a.1)) a.2 := by
  refine sCon.of (by decide) ⟨rfl, rfl⟩ (Nat.le_of_ble_eq_true rfl) RX9 rfl _ hf (fun K hK => ?_)
  show sV wMod G K a σ 0 [(0, .ref (gad G 0)), (1, .int a1)] [] _
  unfold fX9_tell
  refine r_aload_n (q := 1) hK dX9_tell_0 rfl rfl 0 rfl ?_
  refine gf_9_28 (q := 4) hK dX9_tell_1 rfl tw_832 ?_
  refine r_bipush (q := 6) (v := 60) hK dX9_tell_4 rfl rfl ?_
  refine r_icmp_ne (t := 12) (q := 9) hK dX9_tell_6 rfl rfl (fun c1 => ?_) (fun c1 => ?_)
  · refine r_aload_n (q := 13) hK dX9_tell_12 rfl rfl 0 rfl ?_
    refine gf_9_27 (q := 16) hK dX9_tell_13 rfl tw_831 ?_
    refine r_aload_n (q := 17) hK dX9_tell_16 rfl rfl 0 rfl ?_
    refine gf_9_28 (q := 20) hK dX9_tell_17 rfl tw_832 ?_
    refine r_iload_n (q := 21) hK dX9_tell_20 rfl rfl 1 rfl ?_
    refine r_iast (q := 22) hK dX9_tell_21 rfl aM17 (fun h2 => ?_)
    refine sV.ltS (fun s3 => ?_)
    refine r_aload_n (q := 23) hK dX9_tell_22 rfl rfl 0 rfl ?_
    refine r_dup (q := 24) hK dX9_tell_23 rfl rfl ?_
    refine gf_9_28 (q := 27) hK dX9_tell_24 rfl tw_832 ?_
    refine r_iconst (q := 28) (v := 1) hK dX9_tell_27 rfl rfl ?_
    refine r_iadd (q := 29) hK dX9_tell_28 rfl ?_
    refine pf_9_28 (q := 32) hK dX9_tell_29 rfl tw_832 ?_
    refine sV.ltS (fun s4 => ?_)
    refine r_aload_n (q := 33) hK dX9_tell_32 rfl rfl 0 rfl ?_
    refine gf_9_28 (q := 36) hK dX9_tell_33 rfl tw_832 ?_
    exact e_iS hK dX9_tell_36
  · refine r_ldc (q := 11) hK dX9_tell_9 rfl tw_907 ?_
    exact e_iS hK dX9_tell_11
def fX9_check_L36   (k : Int32 → Store → Option (Int32 × Store)) : Nat → Int32 → Store → Option (Int32 × Store)
  | 0, _, _ => none
  | n + 1, i3, τ => (if (1480 : Int32) ≤ i3 then (k i3 τ) else (six 1480 i3 (slt (τ 1 (snx i3)) fun x24 => (six 1480 i3 (six 1480 i3 (slt (sup τ 1 (snx i3) (τ 2 (snx i3))) fun s27 => (six 1480 i3 (slt (sup s27 2 (snx i3) x24) fun s29 => (fX9_check_L36 k n (i3 + (1 : Int32)) s29)))))))))
theorem vX9_check_L36 {G : Geo} {K : KT} {l0 : Launch} (σ : Store) {a : (Int32 × Store)} (v1 : Int32) (v2 : Int32) (hK : sOk wMod G K l0 RX9 cX9_check (rmL 8 221) 8 (some .int) (some (.int a.1)) a.2) (k : Int32 → Store → Option (Int32 × Store)) (hk : ∀ (e3 : Int32) (ε : Store), sV wMod G K a ε 77 [(0, .ref (gad G 0)), (1, .int v1), (2, .int v2), (3, .int e3)] [] (k e3 ε)) : ∀ (n : Nat) (i3 : Int32) (τ : Store), sV wMod G K a τ 36 [(0, .ref (gad G 0)), (1, .int v1), (2, .int v2), (3, .int i3)] [] (fX9_check_L36  k n i3 τ) := by
  intro n
  induction n with
  | zero =>
    intro i3 τ
    exact sV.no
  | succ n ih =>
    intro i3 τ
    rw [fX9_check_L36]
    refine r_iload_n (q := 37) hK dX9_check_36 rfl rfl 3 rfl ?_
    refine r_sipush (q := 40) (v := 1480) hK dX9_check_37 rfl rfl ?_
    refine r_icmp_ge (t := 77) (q := 43) hK dX9_check_40 rfl rfl (fun c22 => ?_) (fun c22 => ?_)
    · exact sV.sub [0, 1, 2, 3] (by rfl) (hk i3 τ)
    · refine r_aload_n (q := 44) hK dX9_check_43 rfl rfl 0 rfl ?_
      refine gf_9_0 (q := 47) hK dX9_check_44 rfl tw_804 ?_
      refine r_iload_n (q := 48) hK dX9_check_47 rfl rfl 3 rfl ?_
      refine r_iald (q := 49) hK dX9_check_48 rfl aM1 (fun h23 => ?_)
      refine sV.ltI (fun x24 => ?_)
      refine r_istore (q := 51) (loc' := [(4, .int x24), (0, .ref (gad G 0)), (1, .int v1), (2, .int v2), (3, .int i3)]) hK dX9_check_49 rfl (by decide) rfl ?_
      refine r_aload_n (q := 52) hK dX9_check_51 rfl rfl 1 rfl ?_
      refine gf_9_0 (q := 55) hK dX9_check_52 rfl tw_804 ?_
      refine r_iload_n (q := 56) hK dX9_check_55 rfl rfl 4 rfl ?_
      refine r_aload_n (q := 57) hK dX9_check_56 rfl rfl 1 rfl ?_
      refine gf_9_1 (q := 60) hK dX9_check_57 rfl tw_805 ?_
      refine r_iload_n (q := 61) hK dX9_check_60 rfl rfl 4 rfl ?_
      refine r_iald (q := 62) hK dX9_check_61 rfl aM2 (fun h25 => ?_)
      refine r_iast (q := 63) hK dX9_check_62 rfl aM1 (fun h26 => ?_)
      refine sV.ltS (fun s27 => ?_)
      refine r_aload_n (q := 64) hK dX9_check_63 rfl rfl 1 rfl ?_
      refine gf_9_1 (q := 67) hK dX9_check_64 rfl tw_805 ?_
      refine r_iload_n (q := 68) hK dX9_check_67 rfl rfl 4 rfl ?_
      refine r_iload (q := 70) hK dX9_check_68 rfl 0 rfl ?_
      refine r_iast (q := 71) hK dX9_check_70 rfl aM2 (fun h28 => ?_)
      refine sV.ltS (fun s29 => ?_)
      refine r_iinc (q := 74) (v := (i3 + (1 : Int32))) (loc' := [(3, .int (i3 + (1 : Int32))), (4, .int x24), (0, .ref (gad G 0)), (1, .int v1), (2, .int v2)]) hK dX9_check_71 rfl 4 rfl rfl (by decide) rfl ?_
      refine r_goto (q := 36) hK dX9_check_74 rfl ?_
      exact sV.sub [2, 3, 4, 0] (by rfl) (ih (i3 + (1 : Int32)) s29)
def fX9_check_L111  (v2 : Int32) (v3 : Int32) (k : Int32 → Int32 → Store → Option (Int32 × Store)) : Nat → Int32 → Int32 → Store → Option (Int32 × Store)
  | 0, _, _, _ => none
  | n + 1, i4, i5, τ => (if v3 ≤ i5 then (k i4 i5 τ) else (if ¬ i4 = ((2 : Int32) * i5) then (k i4 i5 τ) else (sbd (fX9_daysGo (1 : Int32) τ) fun s79 => (sjn (fun k158 : Bool → Option (Int32 × Store) => (if v2 ≤ i4 then (k158 false) else (six 60 i4 (sbd (fX9_paid s79) fun r96 => (if ¬ (s79 17 (snx i4)) = r96 then (k158 false) else (k158 true)))))) (fun (z0_158 : Bool) => (slt (i4 + (b2i z0_158)) fun x84 => (if ¬ x84 = (((2 : Int32) * i5) + (1 : Int32)) then (slt (x84 + (0 : Int32)) fun x86 => (fX9_check_L111 v2 v3 k n x86 (i5 + (1 : Int32)) s79)) else (if v2 ≤ x84 then (slt (x84 + (0 : Int32)) fun x88 => (fX9_check_L111 v2 v3 k n x88 (i5 + (1 : Int32)) s79)) else (six 60 x84 (sbd (fX9_stamps s79) fun r90 => (if ¬ (s79 17 (snx x84)) = r90 then (slt (x84 + (0 : Int32)) fun x92 => (fX9_check_L111 v2 v3 k n x92 (i5 + (1 : Int32)) s79)) else (slt (x84 + (1 : Int32)) fun x93 => (fX9_check_L111 v2 v3 k n x93 (i5 + (1 : Int32)) s79)))))))))))))
theorem vX9_check_L111 {G : Geo} {K : KT} {l0 : Launch} (σ : Store) {a : (Int32 × Store)} (v1 : Int32) (v2 : Int32) (v3 : Int32) (hK : sOk wMod G K l0 RX9 cX9_check (rmL 8 221) 8 (some .int) (some (.int a.1)) a.2) (k : Int32 → Int32 → Store → Option (Int32 × Store)) (hk : ∀ (e4 : Int32) (e5 : Int32) (ε : Store), sV wMod G K a ε 208 [(0, .ref (gad G 0)), (1, .int v1), (2, .int v2), (3, .int v3), (4, .int e4), (5, .int e5)] [] (k e4 e5 ε)) : ∀ (n : Nat) (i4 : Int32) (i5 : Int32) (τ : Store), sV wMod G K a τ 111 [(0, .ref (gad G 0)), (1, .int v1), (2, .int v2), (3, .int v3), (4, .int i4), (5, .int i5)] [] (fX9_check_L111 v2 v3 k n i4 i5 τ) := by
  intro n
  induction n with
  | zero =>
    intro i4 i5 τ
    exact sV.no
  | succ n ih =>
    intro i4 i5 τ
    rw [fX9_check_L111]
    refine r_iload (q := 113) hK dX9_check_111 rfl 5 rfl ?_
    refine r_iload_n (q := 114) hK dX9_check_113 rfl rfl 3 rfl ?_
    refine r_icmp_ge (t := 208) (q := 117) hK dX9_check_114 rfl rfl (fun c77 => ?_) (fun c77 => ?_)
    · exact sV.sub [0, 1, 2, 3, 4, 5] (by rfl) (hk i4 i5 τ)
    · refine r_iload (q := 119) hK dX9_check_117 rfl 4 rfl ?_
      refine r_iconst (q := 120) (v := 2) hK dX9_check_119 rfl rfl ?_
      refine r_iload (q := 122) hK dX9_check_120 rfl 5 rfl ?_
      refine r_imul (q := 123) hK dX9_check_122 rfl ?_
      refine r_icmp_ne (t := 208) (q := 126) hK dX9_check_123 rfl rfl (fun c78 => ?_) (fun c78 => ?_)
      · exact sV.sub [0, 1, 2, 3, 4, 5] (by rfl) (hk i4 i5 τ)
      · refine r_aload_n (q := 127) hK dX9_check_126 rfl rfl 0 rfl ?_
        refine r_iconst (q := 128) (v := 1) hK dX9_check_127 rfl rfl ?_
        refine callV_vS (q := 131) (j := 0) (As := [.int (1 : Int32)]) (rest := []) (f := (fX9_daysGo (1 : Int32) τ)) hK dX9_check_128 rfl (fun b hb => c_X9_daysGo (1 : Int32) τ b hb) ⟨9, _, _, _, by decide, rfl, cM, rfl⟩ mv_X9_daysGo rfl rfl (Nat.le_of_ble_eq_true rfl) tw_1050 mw_X9_daysGo (rmOk (Nat.le_of_ble_eq_true rfl) (Nat.le_of_ble_eq_true rfl)) (fun s79 => ?_)
        refine r_iload (q := 133) hK dX9_check_131 rfl 4 rfl ?_
        refine r_iload (q := 135) hK dX9_check_133 rfl 4 rfl ?_
        refine r_iload_n (q := 136) hK dX9_check_135 rfl rfl 2 rfl ?_
        refine sV.jn (fun k : Bool → Option (Int32 × Store) => ∀ (z0_158 : Bool), sV wMod G K a s79 158 [(0, .ref (gad G 0)), (1, .int v1), (2, .int v2), (3, .int v3), (4, .int i4), (5, .int i5)] [.int (b2i z0_158), .int i4] (k z0_158)) (fun z0_158 => ?_) (fun k158 hk158 => ?_)
        · refine r_iadd (q := 159) hK dX9_check_158 rfl ?_
          refine sV.ltI (fun x84 => ?_)
          refine r_istore (q := 161) (loc' := [(4, .int x84), (0, .ref (gad G 0)), (1, .int v1), (2, .int v2), (3, .int v3), (5, .int i5)]) hK dX9_check_159 rfl (by decide) rfl ?_
          refine r_iload (q := 163) hK dX9_check_161 rfl 0 rfl ?_
          refine r_iload (q := 165) hK dX9_check_163 rfl 0 rfl ?_
          refine r_iconst (q := 166) (v := 2) hK dX9_check_165 rfl rfl ?_
          refine r_iload (q := 168) hK dX9_check_166 rfl 5 rfl ?_
          refine r_imul (q := 169) hK dX9_check_168 rfl ?_
          refine r_iconst (q := 170) (v := 1) hK dX9_check_169 rfl rfl ?_
          refine r_iadd (q := 171) hK dX9_check_170 rfl ?_
          refine r_icmp_ne (t := 198) (q := 174) hK dX9_check_171 rfl rfl (fun c85 => ?_) (fun c85 => ?_)
          · refine r_iconst (q := 199) (v := 0) hK dX9_check_198 rfl rfl ?_
            refine r_iadd (q := 200) hK dX9_check_199 rfl ?_
            refine sV.ltI (fun x86 => ?_)
            refine r_istore (q := 202) (loc' := [(4, .int x86), (0, .ref (gad G 0)), (1, .int v1), (2, .int v2), (3, .int v3), (5, .int i5)]) hK dX9_check_200 rfl (by decide) rfl ?_
            refine r_iinc (q := 205) (v := (i5 + (1 : Int32))) (loc' := [(5, .int (i5 + (1 : Int32))), (4, .int x86), (0, .ref (gad G 0)), (1, .int v1), (2, .int v2), (3, .int v3)]) hK dX9_check_202 rfl 5 rfl rfl (by decide) rfl ?_
            refine r_goto (q := 111) hK dX9_check_205 rfl ?_
            exact sV.sub [2, 3, 4, 5, 1, 0] (by rfl) (ih x86 (i5 + (1 : Int32)) s79)
          · refine r_iload (q := 176) hK dX9_check_174 rfl 0 rfl ?_
            refine r_iload_n (q := 177) hK dX9_check_176 rfl rfl 3 rfl ?_
            refine r_icmp_ge (t := 198) (q := 180) hK dX9_check_177 rfl rfl (fun c87 => ?_) (fun c87 => ?_)
            · refine r_iconst (q := 199) (v := 0) hK dX9_check_198 rfl rfl ?_
              refine r_iadd (q := 200) hK dX9_check_199 rfl ?_
              refine sV.ltI (fun x88 => ?_)
              refine r_istore (q := 202) (loc' := [(4, .int x88), (0, .ref (gad G 0)), (1, .int v1), (2, .int v2), (3, .int v3), (5, .int i5)]) hK dX9_check_200 rfl (by decide) rfl ?_
              refine r_iinc (q := 205) (v := (i5 + (1 : Int32))) (loc' := [(5, .int (i5 + (1 : Int32))), (4, .int x88), (0, .ref (gad G 0)), (1, .int v1), (2, .int v2), (3, .int v3)]) hK dX9_check_202 rfl 5 rfl rfl (by decide) rfl ?_
              refine r_goto (q := 111) hK dX9_check_205 rfl ?_
              exact sV.sub [2, 3, 4, 5, 1, 0] (by rfl) (ih x88 (i5 + (1 : Int32)) s79)
            · refine r_aload_n (q := 181) hK dX9_check_180 rfl rfl 1 rfl ?_
              refine gf_9_27 (q := 184) hK dX9_check_181 rfl tw_831 ?_
              refine r_iload (q := 186) hK dX9_check_184 rfl 0 rfl ?_
              refine r_iald (q := 187) hK dX9_check_186 rfl aM17 (fun h89 => ?_)
              refine r_aload_n (q := 188) hK dX9_check_187 rfl rfl 1 rfl ?_
              refine callV_i (q := 191) (j := 0) (As := []) (rest := [.int (s79 17 (snx x84)), .int x84]) (f := (fX9_stamps s79)) hK dX9_check_188 rfl (fun b hb => c_X9_stamps s79 b hb) ⟨9, _, _, _, by decide, rfl, cM, rfl⟩ mv_X9_stamps rfl rfl (Nat.le_of_ble_eq_true rfl) tw_1046 mw_X9_stamps (rmOk (Nat.le_of_ble_eq_true rfl) (Nat.le_of_ble_eq_true rfl)) (fun r90 => ?_)
              refine r_icmp_ne (t := 198) (q := 194) hK dX9_check_191 rfl rfl (fun c91 => ?_) (fun c91 => ?_)
              · refine r_iconst (q := 199) (v := 0) hK dX9_check_198 rfl rfl ?_
                refine r_iadd (q := 200) hK dX9_check_199 rfl ?_
                refine sV.ltI (fun x92 => ?_)
                refine r_istore (q := 202) (loc' := [(4, .int x92), (0, .ref (gad G 0)), (1, .int v1), (2, .int v2), (3, .int v3), (5, .int i5)]) hK dX9_check_200 rfl (by decide) rfl ?_
                refine r_iinc (q := 205) (v := (i5 + (1 : Int32))) (loc' := [(5, .int (i5 + (1 : Int32))), (4, .int x92), (0, .ref (gad G 0)), (1, .int v1), (2, .int v2), (3, .int v3)]) hK dX9_check_202 rfl 5 rfl rfl (by decide) rfl ?_
                refine r_goto (q := 111) hK dX9_check_205 rfl ?_
                exact sV.sub [2, 3, 4, 5, 1, 0] (by rfl) (ih x92 (i5 + (1 : Int32)) s79)
              · refine r_iconst (q := 195) (v := 1) hK dX9_check_194 rfl rfl ?_
                refine r_goto (q := 199) hK dX9_check_195 rfl ?_
                refine r_iadd (q := 200) hK dX9_check_199 rfl ?_
                refine sV.ltI (fun x93 => ?_)
                refine r_istore (q := 202) (loc' := [(4, .int x93), (0, .ref (gad G 0)), (1, .int v1), (2, .int v2), (3, .int v3), (5, .int i5)]) hK dX9_check_200 rfl (by decide) rfl ?_
                refine r_iinc (q := 205) (v := (i5 + (1 : Int32))) (loc' := [(5, .int (i5 + (1 : Int32))), (4, .int x93), (0, .ref (gad G 0)), (1, .int v1), (2, .int v2), (3, .int v3)]) hK dX9_check_202 rfl 5 rfl rfl (by decide) rfl ?_
                refine r_goto (q := 111) hK dX9_check_205 rfl ?_
                exact sV.sub [2, 3, 4, 5, 1, 0] (by rfl) (ih x93 (i5 + (1 : Int32)) s79)
        · refine r_icmp_ge (t := 157) (q := 139) hK dX9_check_136 rfl rfl (fun c94 => ?_) (fun c94 => ?_)
          · refine r_iconst (q := 158) (v := 0) hK dX9_check_157 rfl rfl ?_
            exact sV.sub [0, 1, 2, 3, 4, 5] (by rfl) (hk158 false)
          · refine r_aload_n (q := 140) hK dX9_check_139 rfl rfl 0 rfl ?_
            refine gf_9_27 (q := 143) hK dX9_check_140 rfl tw_831 ?_
            refine r_iload (q := 145) hK dX9_check_143 rfl 4 rfl ?_
            refine r_iald (q := 146) hK dX9_check_145 rfl aM17 (fun h95 => ?_)
            refine r_aload_n (q := 147) hK dX9_check_146 rfl rfl 0 rfl ?_
            refine callV_i (q := 150) (j := 0) (As := []) (rest := [.int (s79 17 (snx i4)), .int i4]) (f := (fX9_paid s79)) hK dX9_check_147 rfl (fun b hb => c_X9_paid s79 b hb) ⟨9, _, _, _, by decide, rfl, cM, rfl⟩ mv_X9_paid rfl rfl (Nat.le_of_ble_eq_true rfl) tw_1101 mw_X9_paid (rmOk (Nat.le_of_ble_eq_true rfl) (Nat.le_of_ble_eq_true rfl)) (fun r96 => ?_)
            refine r_icmp_ne (t := 157) (q := 153) hK dX9_check_150 rfl rfl (fun c97 => ?_) (fun c97 => ?_)
            · refine r_iconst (q := 158) (v := 0) hK dX9_check_157 rfl rfl ?_
              exact sV.sub [0, 1, 2, 3, 4, 5] (by rfl) (hk158 false)
            · refine r_iconst (q := 154) (v := 1) hK dX9_check_153 rfl rfl ?_
              refine r_goto (q := 158) hK dX9_check_154 rfl ?_
              exact sV.sub [0, 1, 2, 3, 4, 5] (by rfl) (hk158 true)
def fX9_check_L239  (v5 : Int32) : Nat → Int32 → Store → Option (Int32 × Store)
  | 0, _, _ => none
  | n + 1, i6, τ => (if (1480 : Int32) ≤ i6 then (some (v5, τ)) else (six 1480 i6 (slt (τ 1 (snx i6)) fun x123 => (six 1480 i6 (six 1480 i6 (slt (sup τ 1 (snx i6) (τ 2 (snx i6))) fun s126 => (six 1480 i6 (slt (sup s126 2 (snx i6) x123) fun s128 => (fX9_check_L239 v5 n (i6 + (1 : Int32)) s128)))))))))
theorem vX9_check_L239 {G : Geo} {K : KT} {l0 : Launch} (σ : Store) {a : (Int32 × Store)} (v1 : Int32) (v2 : Int32) (v3 : Int32) (v4 : Int32) (v5 : Int32) (hK : sOk wMod G K l0 RX9 cX9_check (rmL 8 221) 8 (some .int) (some (.int a.1)) a.2) : ∀ (n : Nat) (i6 : Int32) (τ : Store), sV wMod G K a τ 239 [(0, .ref (gad G 0)), (1, .int v1), (2, .int v2), (3, .int v3), (4, .int v4), (5, .int v5), (6, .int i6)] [] (fX9_check_L239 v5 n i6 τ) := by
  intro n
  induction n with
  | zero =>
    intro i6 τ
    exact sV.no
  | succ n ih =>
    intro i6 τ
    rw [fX9_check_L239]
    refine r_iload (q := 241) hK dX9_check_239 rfl 6 rfl ?_
    refine r_sipush (q := 244) (v := 1480) hK dX9_check_241 rfl rfl ?_
    refine r_icmp_ge (t := 285) (q := 247) hK dX9_check_244 rfl rfl (fun c121 => ?_) (fun c121 => ?_)
    · refine r_iload (q := 287) hK dX9_check_285 rfl 5 rfl ?_
      exact e_iS hK dX9_check_287
    · refine r_aload_n (q := 248) hK dX9_check_247 rfl rfl 0 rfl ?_
      refine gf_9_0 (q := 251) hK dX9_check_248 rfl tw_804 ?_
      refine r_iload (q := 253) hK dX9_check_251 rfl 6 rfl ?_
      refine r_iald (q := 254) hK dX9_check_253 rfl aM1 (fun h122 => ?_)
      refine sV.ltI (fun x123 => ?_)
      refine r_istore (q := 256) (loc' := [(7, .int x123), (0, .ref (gad G 0)), (1, .int v1), (2, .int v2), (3, .int v3), (4, .int v4), (5, .int v5), (6, .int i6)]) hK dX9_check_254 rfl (by decide) rfl ?_
      refine r_aload_n (q := 257) hK dX9_check_256 rfl rfl 1 rfl ?_
      refine gf_9_0 (q := 260) hK dX9_check_257 rfl tw_804 ?_
      refine r_iload (q := 262) hK dX9_check_260 rfl 7 rfl ?_
      refine r_aload_n (q := 263) hK dX9_check_262 rfl rfl 1 rfl ?_
      refine gf_9_1 (q := 266) hK dX9_check_263 rfl tw_805 ?_
      refine r_iload (q := 268) hK dX9_check_266 rfl 7 rfl ?_
      refine r_iald (q := 269) hK dX9_check_268 rfl aM2 (fun h124 => ?_)
      refine r_iast (q := 270) hK dX9_check_269 rfl aM1 (fun h125 => ?_)
      refine sV.ltS (fun s126 => ?_)
      refine r_aload_n (q := 271) hK dX9_check_270 rfl rfl 1 rfl ?_
      refine gf_9_1 (q := 274) hK dX9_check_271 rfl tw_805 ?_
      refine r_iload (q := 276) hK dX9_check_274 rfl 7 rfl ?_
      refine r_iload (q := 278) hK dX9_check_276 rfl 0 rfl ?_
      refine r_iast (q := 279) hK dX9_check_278 rfl aM2 (fun h127 => ?_)
      refine sV.ltS (fun s128 => ?_)
      refine r_iinc (q := 282) (v := (i6 + (1 : Int32))) (loc' := [(6, .int (i6 + (1 : Int32))), (7, .int x123), (0, .ref (gad G 0)), (1, .int v1), (2, .int v2), (3, .int v3), (4, .int v4), (5, .int v5)]) hK dX9_check_279 rfl 7 rfl rfl (by decide) rfl ?_
      refine r_goto (q := 239) hK dX9_check_282 rfl ?_
      exact sV.sub [2, 3, 4, 5, 6, 7, 0] (by rfl) (ih (i6 + (1 : Int32)) s128)
def fX9_check  (a1 : Int32) (σ : Store) : Option (Int32 × Store) := (slt (σ 0 28) fun x1 => (slt (sup σ 0 28 (0 : Int32)) fun s2 => (sbd (fX9_within a1 (1 : Int32) (30 : Int32) s2) fun r3 => (if r3 = true then (if ¬ (s2 0 2) = 0 then (fX9_check_L36  (fun x30 s31 => (sbd (fX9_copyRow 1 1480 3 80 (80 : Int32) s31) fun s32 => (six 1480 (1 : Int32) (slt (smin a1 ((9999 : Int32) - (s32 1 (snx (1 : Int32))))) fun x34 => (fX9_check_L111 x1 x34 (fun x98 x99 s100 => (sjn (fun k231 : Int32 → Option (Int32 × Store) => (if ¬ x98 = ((2 : Int32) * x34) then (k231 ((1 : Int32) + x98)) else (if ¬ x98 = x1 then (k231 ((1 : Int32) + x98)) else (k231 (0 : Int32))))) (fun (z0_231 : Int32) => (sbd2 (fX9_putBack z0_231 s100) fun r103 s104 => (fX9_check_L239 r103 FU (0 : Int32) s104))))) FU (0 : Int32) (0 : Int32) s32))))) FU (0 : Int32) s2) else (some ((-1000000002 : Int32), s2))) else (some ((-1000000001 : Int32), s2))))))
theorem c_X9_check {l0 : Launch} {G : Geo} (a1 : Int32) (σ : Store) (a : (Int32 × Store)) (hf : fX9_check  a1 σ = some a) : sCon l0 wMod G yX9_check cX9_check 8 (some .int) (rmL 8 221) [.ref (gad G 0), .int a1] σ (some (.int a.1)) a.2 := by
  refine sCon.of (by decide) ⟨rfl, rfl⟩ (Nat.le_of_ble_eq_true rfl) RX9 rfl _ hf (fun K hK => ?_)
  show sV wMod G K a σ 0 [(0, .ref (gad G 0)), (1, .int a1)] [] _
  unfold fX9_check
  refine r_aload_n (q := 1) hK dX9_check_0 rfl rfl 0 rfl ?_
  refine gf_9_28 (q := 4) hK dX9_check_1 rfl tw_832 ?_
  refine sV.ltI (fun x1 => ?_)
  refine r_istore_n (q := 5) (loc' := [(2, .int x1), (0, .ref (gad G 0)), (1, .int a1)]) hK dX9_check_4 rfl rfl (by decide) rfl ?_
  refine r_aload_n (q := 6) hK dX9_check_5 rfl rfl 1 rfl ?_
  refine r_iconst (q := 7) (v := 0) hK dX9_check_6 rfl rfl ?_
  refine pf_9_28 (q := 10) hK dX9_check_7 rfl tw_832 ?_
  refine sV.ltS (fun s2 => ?_)
  refine r_iload_n (q := 11) hK dX9_check_10 rfl rfl 2 rfl ?_
  refine r_iconst (q := 12) (v := 1) hK dX9_check_11 rfl rfl ?_
  refine r_bipush (q := 14) (v := 30) hK dX9_check_12 rfl rfl ?_
  refine callS_b (q := 17) (As := [.int a1, .int (1 : Int32), .int (30 : Int32)]) (rest := []) (f := (fX9_within a1 (1 : Int32) (30 : Int32) s2)) hK dX9_check_14 rfl (fun b hb => c_X9_within a1 (1 : Int32) (30 : Int32) s2 b hb) ms_X9_within rfl rfl (Nat.le_of_ble_eq_true rfl) tw_900 mw_X9_within (rmOk (Nat.le_of_ble_eq_true rfl) (Nat.le_of_ble_eq_true rfl)) (fun r3 => ?_)
  refine r_ifb_ne (t := 23) (q := 20) hK dX9_check_17 rfl rfl (fun c4 => ?_) (fun c4 => ?_)
  · refine r_aload_n (q := 24) hK dX9_check_23 rfl rfl 1 rfl ?_
    refine gf_9_2 (q := 27) hK dX9_check_24 rfl tw_806 ?_
    refine r_if_ne (t := 34) (q := 30) hK dX9_check_27 rfl rfl (fun c5 => ?_) (fun c5 => ?_)
    · refine r_iconst (q := 35) (v := 0) hK dX9_check_34 rfl rfl ?_
      refine r_istore_n (q := 36) (loc' := [(3, .int (0 : Int32)), (2, .int x1), (0, .ref (gad G 0)), (1, .int a1)]) hK dX9_check_35 rfl rfl (by decide) rfl ?_
      refine sV.sub [2, 3, 1, 0] (by rfl) (vX9_check_L36 s2 a1 x1 hK _ (fun x30 s31 => ?_) FU (0 : Int32) s2)
      refine r_aload_n (q := 78) hK dX9_check_77 rfl rfl 0 rfl ?_
      refine gf_9_0 (q := 81) hK dX9_check_78 rfl tw_804 ?_
      refine r_aload_n (q := 82) hK dX9_check_81 rfl rfl 0 rfl ?_
      refine gf_9_3 (q := 85) hK dX9_check_82 rfl tw_807 ?_
      refine r_bipush (q := 87) (v := 80) hK dX9_check_85 rfl rfl ?_
      refine callS_vS (q := 90) (As := [.ref (gad G 1), .ref (gad G 3), .int (80 : Int32)]) (rest := []) (f := (fX9_copyRow 1 1480 3 80 (80 : Int32) s31)) hK dX9_check_87 rfl (fun b hb => c_X9_copyRow 1 1480 aM1 3 80 aM3 (80 : Int32) s31 b hb) ms_X9_copyRow rfl rfl (Nat.le_of_ble_eq_true rfl) tw_1098 mw_X9_copyRow (rmOk (Nat.le_of_ble_eq_true rfl) (Nat.le_of_ble_eq_true rfl)) (fun s32 => ?_)
      refine r_iload_n (q := 91) hK dX9_check_90 rfl rfl 1 rfl ?_
      refine r_sipush (q := 94) (v := 9999) hK dX9_check_91 rfl rfl ?_
      refine r_aload_n (q := 95) hK dX9_check_94 rfl rfl 0 rfl ?_
      refine gf_9_0 (q := 98) hK dX9_check_95 rfl tw_804 ?_
      refine r_iconst (q := 99) (v := 1) hK dX9_check_98 rfl rfl ?_
      refine r_iald (q := 100) hK dX9_check_99 rfl aM1 (fun h33 => ?_)
      refine r_isub (q := 101) hK dX9_check_100 rfl ?_
      refine r_min (q := 104) hK dX9_check_101 rfl tw_943 mt_min (rmM (Nat.le_of_ble_eq_true rfl) (Nat.le_of_ble_eq_true rfl)) ?_
      refine sV.ltI (fun x34 => ?_)
      refine r_istore_n (q := 105) (loc' := [(3, .int x34), (0, .ref (gad G 0)), (1, .int a1), (2, .int x1)]) hK dX9_check_104 rfl rfl (by decide) rfl ?_
      refine r_iconst (q := 106) (v := 0) hK dX9_check_105 rfl rfl ?_
      refine r_istore (q := 108) (loc' := [(4, .int (0 : Int32)), (3, .int x34), (0, .ref (gad G 0)), (1, .int a1), (2, .int x1)]) hK dX9_check_106 rfl (by decide) rfl ?_
      refine r_iconst (q := 109) (v := 0) hK dX9_check_108 rfl rfl ?_
      refine r_istore (q := 111) (loc' := [(5, .int (0 : Int32)), (4, .int (0 : Int32)), (3, .int x34), (0, .ref (gad G 0)), (1, .int a1), (2, .int x1)]) hK dX9_check_109 rfl (by decide) rfl ?_
      refine sV.sub [3, 4, 5, 2, 1, 0] (by rfl) (vX9_check_L111 s32 a1 x1 x34 hK _ (fun x98 x99 s100 => ?_) FU (0 : Int32) (0 : Int32) s32)
      refine r_aload_n (q := 209) hK dX9_check_208 rfl rfl 0 rfl ?_
      refine r_iload (q := 211) hK dX9_check_209 rfl 4 rfl ?_
      refine r_iconst (q := 212) (v := 2) hK dX9_check_211 rfl rfl ?_
      refine r_iload_n (q := 213) hK dX9_check_212 rfl rfl 3 rfl ?_
      refine r_imul (q := 214) hK dX9_check_213 rfl ?_
      refine sV.jn (fun k : Int32 → Option (Int32 × Store) => ∀ (z0_231 : Int32), sV wMod G K a s100 231 [(0, .ref (gad G 0)), (1, .int a1), (2, .int x1), (3, .int x34), (4, .int x98), (5, .int x99)] [.int z0_231, .ref (gad G 0)] (k z0_231)) (fun z0_231 => ?_) (fun k231 hk231 => ?_)
      · refine callV_iS (q := 234) (j := 0) (As := [.int z0_231]) (rest := []) (f := (fX9_putBack z0_231 s100)) hK dX9_check_231 rfl (fun b hb => c_X9_putBack z0_231 s100 b hb) ⟨9, _, _, _, by decide, rfl, cM, rfl⟩ mv_X9_putBack rfl rfl (Nat.le_of_ble_eq_true rfl) tw_1105 mw_X9_putBack (rmOk (Nat.le_of_ble_eq_true rfl) (Nat.le_of_ble_eq_true rfl)) (fun r103 s104 => ?_)
        refine r_istore (q := 236) (loc' := [(5, .int r103), (0, .ref (gad G 0)), (1, .int a1), (2, .int x1), (3, .int x34), (4, .int x98)]) hK dX9_check_234 rfl (by decide) rfl ?_
        refine r_iconst (q := 237) (v := 0) hK dX9_check_236 rfl rfl ?_
        refine r_istore (q := 239) (loc' := [(6, .int (0 : Int32)), (5, .int r103), (0, .ref (gad G 0)), (1, .int a1), (2, .int x1), (3, .int x34), (4, .int x98)]) hK dX9_check_237 rfl (by decide) rfl ?_
        exact sV.sub [2, 3, 4, 5, 6, 1, 0] (by rfl) (vX9_check_L239 s104 a1 x1 x34 x98 r103 hK FU (0 : Int32) s104)
      · refine r_icmp_ne (t := 227) (q := 217) hK dX9_check_214 rfl rfl (fun c129 => ?_) (fun c129 => ?_)
        · refine r_iconst (q := 228) (v := 1) hK dX9_check_227 rfl rfl ?_
          refine r_iload (q := 230) hK dX9_check_228 rfl 4 rfl ?_
          refine r_iadd (q := 231) hK dX9_check_230 rfl ?_
          exact sV.sub [0, 1, 2, 3, 4, 5] (by rfl) (hk231 ((1 : Int32) + x98))
        · refine r_iload (q := 219) hK dX9_check_217 rfl 4 rfl ?_
          refine r_iload_n (q := 220) hK dX9_check_219 rfl rfl 2 rfl ?_
          refine r_icmp_ne (t := 227) (q := 223) hK dX9_check_220 rfl rfl (fun c130 => ?_) (fun c130 => ?_)
          · refine r_iconst (q := 228) (v := 1) hK dX9_check_227 rfl rfl ?_
            refine r_iload (q := 230) hK dX9_check_228 rfl 4 rfl ?_
            refine r_iadd (q := 231) hK dX9_check_230 rfl ?_
            exact sV.sub [0, 1, 2, 3, 4, 5] (by rfl) (hk231 ((1 : Int32) + x98))
          · refine r_iconst (q := 224) (v := 0) hK dX9_check_223 rfl rfl ?_
            refine r_goto (q := 231) hK dX9_check_224 rfl ?_
            exact sV.sub [0, 1, 2, 3, 4, 5] (by rfl) (hk231 (0 : Int32))
    · refine r_ldcw (q := 33) hK dX9_check_30 rfl tw_1312 ?_
      exact e_iS hK dX9_check_33
  · refine r_ldc (q := 22) hK dX9_check_20 rfl tw_906 ?_
    exact e_iS hK dX9_check_22
def fX9_keep   (σ : Store) : Option (Int32 × Store) := (sbd (fX9_copyRow 1 1480 2 1480 (1480 : Int32) σ) fun s1 => (slt (sup s1 0 2 (b2i true)) fun s2 => (six 1480 (5 : Int32) (some ((s2 1 (snx (5 : Int32))), s2)))))
theorem c_X9_keep {l0 : Launch} {G : Geo}  (σ : Store) (a : (Int32 × Store)) (hf : fX9_keep   σ = some a) : sCon l0 wMod G yX9_keep cX9_keep 1 (some .int) (rmL 2 83) [.ref (gad G 0)] σ (some (.int a.1)) a.2 := by
  refine sCon.of (by decide) ⟨rfl, rfl⟩ (Nat.le_of_ble_eq_true rfl) RX9 rfl _ hf (fun K hK => ?_)
  show sV wMod G K a σ 0 [(0, .ref (gad G 0))] [] _
  unfold fX9_keep
  refine r_aload_n (q := 1) hK dX9_keep_0 rfl rfl 0 rfl ?_
  refine gf_9_0 (q := 4) hK dX9_keep_1 rfl tw_804 ?_
  refine r_aload_n (q := 5) hK dX9_keep_4 rfl rfl 0 rfl ?_
  refine gf_9_1 (q := 8) hK dX9_keep_5 rfl tw_805 ?_
  refine r_sipush (q := 11) (v := 1480) hK dX9_keep_8 rfl rfl ?_
  refine callS_vS (q := 14) (As := [.ref (gad G 1), .ref (gad G 2), .int (1480 : Int32)]) (rest := []) (f := (fX9_copyRow 1 1480 2 1480 (1480 : Int32) σ)) hK dX9_keep_11 rfl (fun b hb => c_X9_copyRow 1 1480 aM1 2 1480 aM2 (1480 : Int32) σ b hb) ms_X9_copyRow rfl rfl (Nat.le_of_ble_eq_true rfl) tw_1098 mw_X9_copyRow (rmOk (Nat.le_of_ble_eq_true rfl) (Nat.le_of_ble_eq_true rfl)) (fun s1 => ?_)
  refine r_aload_n (q := 15) hK dX9_keep_14 rfl rfl 0 rfl ?_
  refine r_iconst (q := 16) (v := 1) hK dX9_keep_15 rfl rfl ?_
  refine pf_9_2 (q := 19) (b := true) hK dX9_keep_16 rfl tw_806 ?_
  refine sV.ltS (fun s2 => ?_)
  refine r_aload_n (q := 20) hK dX9_keep_19 rfl rfl 0 rfl ?_
  refine gf_9_0 (q := 23) hK dX9_keep_20 rfl tw_804 ?_
  refine r_iconst (q := 24) (v := 5) hK dX9_keep_23 rfl rfl ?_
  refine r_iald (q := 25) hK dX9_keep_24 rfl aM1 (fun h3 => ?_)
  exact e_iS hK dX9_keep_25
def fX9_back   (σ : Store) : Option (Int32 × Store) := (if ¬ (σ 0 2) = 0 then (sbd (fX9_copyRow 2 1480 1 1480 (1480 : Int32) σ) fun s2 => (six 1480 (5 : Int32) (some ((s2 1 (snx (5 : Int32))), s2)))) else (some ((-1000000002 : Int32), σ)))
theorem c_X9_back {l0 : Launch} {G : Geo}  (σ : Store) (a : (Int32 × Store)) (hf : fX9_back   σ = some a) : sCon l0 wMod G yX9_back cX9_back 1 (some .int) (rmL 2 83) [.ref (gad G 0)] σ (some (.int a.1)) a.2 := by
  refine sCon.of (by decide) ⟨rfl, rfl⟩ (Nat.le_of_ble_eq_true rfl) RX9 rfl _ hf (fun K hK => ?_)
  show sV wMod G K a σ 0 [(0, .ref (gad G 0))] [] _
  unfold fX9_back
  refine r_aload_n (q := 1) hK dX9_back_0 rfl rfl 0 rfl ?_
  refine gf_9_2 (q := 4) hK dX9_back_1 rfl tw_806 ?_
  refine r_if_ne (t := 11) (q := 7) hK dX9_back_4 rfl rfl (fun c1 => ?_) (fun c1 => ?_)
  · refine r_aload_n (q := 12) hK dX9_back_11 rfl rfl 0 rfl ?_
    refine gf_9_1 (q := 15) hK dX9_back_12 rfl tw_805 ?_
    refine r_aload_n (q := 16) hK dX9_back_15 rfl rfl 0 rfl ?_
    refine gf_9_0 (q := 19) hK dX9_back_16 rfl tw_804 ?_
    refine r_sipush (q := 22) (v := 1480) hK dX9_back_19 rfl rfl ?_
    refine callS_vS (q := 25) (As := [.ref (gad G 2), .ref (gad G 1), .int (1480 : Int32)]) (rest := []) (f := (fX9_copyRow 2 1480 1 1480 (1480 : Int32) σ)) hK dX9_back_22 rfl (fun b hb => c_X9_copyRow 2 1480 aM2 1 1480 aM1 (1480 : Int32) σ b hb) ms_X9_copyRow rfl rfl (Nat.le_of_ble_eq_true rfl) tw_1098 mw_X9_copyRow (rmOk (Nat.le_of_ble_eq_true rfl) (Nat.le_of_ble_eq_true rfl)) (fun s2 => ?_)
    refine r_aload_n (q := 26) hK dX9_back_25 rfl rfl 0 rfl ?_
    refine gf_9_0 (q := 29) hK dX9_back_26 rfl tw_804 ?_
    refine r_iconst (q := 30) (v := 5) hK dX9_back_29 rfl rfl ?_
    refine r_iald (q := 31) hK dX9_back_30 rfl aM1 (fun h3 => ?_)
    exact e_iS hK dX9_back_31
  · refine r_ldcw (q := 10) hK dX9_back_7 rfl tw_1312 ?_
    exact e_iS hK dX9_back_10
def fX9_count  (a1 : Int32) (σ : Store) : Option Int32 := (if a1 = (0 : Int32) then (six 1480 (5 : Int32) (some (σ 1 (snx (5 : Int32))))) else (if a1 = (1 : Int32) then (six 1480 (6 : Int32) (some (σ 1 (snx (6 : Int32))))) else (if a1 = (2 : Int32) then (six 1480 (1 : Int32) (some (σ 1 (snx (1 : Int32))))) else (if a1 = (3 : Int32) then (six 1480 (2 : Int32) (some (σ 1 (snx (2 : Int32))))) else (if a1 = (4 : Int32) then (six 1480 (3 : Int32) (some (σ 1 (snx (3 : Int32))))) else (if a1 = (5 : Int32) then (sbd (fX9_paid σ) fun r12 => (some r12)) else (if a1 = (6 : Int32) then (sbd (fX9_stamps σ) fun r14 => (some r14)) else (if a1 = (7 : Int32) then (six 1480 (7 : Int32) (some (σ 1 (snx (7 : Int32))))) else (if a1 = (8 : Int32) then (some (σ 0 28)) else (if a1 = (9 : Int32) then (some (σ 0 6)) else (if a1 = (10 : Int32) then (six 1480 (0 : Int32) (some (σ 1 (snx (0 : Int32))))) else (some (-1000000001 : Int32)))))))))))))
theorem c_X9_count {l0 : Launch} {G : Geo} (a1 : Int32) (σ : Store) (a : Int32) (hf : fX9_count  a1 σ = some a) : sCon l0 wMod G yX9_count cX9_count 2 (some .int) (rmL 3 104) [.ref (gad G 0), .int a1] σ (some (.int a)) σ := by
  refine sCon.of (by decide) ⟨rfl, rfl⟩ (Nat.le_of_ble_eq_true rfl) RX9 rfl _ hf (fun K hK => ?_)
  show sV wMod G K a σ 0 [(0, .ref (gad G 0)), (1, .int a1)] [] _
  unfold fX9_count
  refine r_iload_n (q := 1) hK dX9_count_0 rfl rfl 1 rfl ?_
  refine sV.ite (fun c1 => ?_) (fun c1 => ?_)
  · refine r_tsI (t := 60) (0 : Int32) hK dX9_count_1 c1 (by decide) (by decide) rfl rfl ?_
    refine r_aload_n (q := 61) hK dX9_count_60 rfl rfl 0 rfl ?_
    refine gf_9_0 (q := 64) hK dX9_count_61 rfl tw_804 ?_
    refine r_iconst (q := 65) (v := 5) hK dX9_count_64 rfl rfl ?_
    refine r_iald (q := 66) hK dX9_count_65 rfl aM1 (fun h2 => ?_)
    exact e_i hK dX9_count_66
  · refine sV.ite (fun c3 => ?_) (fun c3 => ?_)
    · refine r_tsI (t := 67) (1 : Int32) hK dX9_count_1 c3 (by decide) (by decide) rfl rfl ?_
      refine r_aload_n (q := 68) hK dX9_count_67 rfl rfl 0 rfl ?_
      refine gf_9_0 (q := 71) hK dX9_count_68 rfl tw_804 ?_
      refine r_bipush (q := 73) (v := 6) hK dX9_count_71 rfl rfl ?_
      refine r_iald (q := 74) hK dX9_count_73 rfl aM1 (fun h4 => ?_)
      exact e_i hK dX9_count_74
    · refine sV.ite (fun c5 => ?_) (fun c5 => ?_)
      · refine r_tsI (t := 75) (2 : Int32) hK dX9_count_1 c5 (by decide) (by decide) rfl rfl ?_
        refine r_aload_n (q := 76) hK dX9_count_75 rfl rfl 0 rfl ?_
        refine gf_9_0 (q := 79) hK dX9_count_76 rfl tw_804 ?_
        refine r_iconst (q := 80) (v := 1) hK dX9_count_79 rfl rfl ?_
        refine r_iald (q := 81) hK dX9_count_80 rfl aM1 (fun h6 => ?_)
        exact e_i hK dX9_count_81
      · refine sV.ite (fun c7 => ?_) (fun c7 => ?_)
        · refine r_tsI (t := 82) (3 : Int32) hK dX9_count_1 c7 (by decide) (by decide) rfl rfl ?_
          refine r_aload_n (q := 83) hK dX9_count_82 rfl rfl 0 rfl ?_
          refine gf_9_0 (q := 86) hK dX9_count_83 rfl tw_804 ?_
          refine r_iconst (q := 87) (v := 2) hK dX9_count_86 rfl rfl ?_
          refine r_iald (q := 88) hK dX9_count_87 rfl aM1 (fun h8 => ?_)
          exact e_i hK dX9_count_88
        · refine sV.ite (fun c9 => ?_) (fun c9 => ?_)
          · refine r_tsI (t := 89) (4 : Int32) hK dX9_count_1 c9 (by decide) (by decide) rfl rfl ?_
            refine r_aload_n (q := 90) hK dX9_count_89 rfl rfl 0 rfl ?_
            refine gf_9_0 (q := 93) hK dX9_count_90 rfl tw_804 ?_
            refine r_iconst (q := 94) (v := 3) hK dX9_count_93 rfl rfl ?_
            refine r_iald (q := 95) hK dX9_count_94 rfl aM1 (fun h10 => ?_)
            exact e_i hK dX9_count_95
          · refine sV.ite (fun c11 => ?_) (fun c11 => ?_)
            · refine r_tsI (t := 96) (5 : Int32) hK dX9_count_1 c11 (by decide) (by decide) rfl rfl ?_
              refine r_aload_n (q := 97) hK dX9_count_96 rfl rfl 0 rfl ?_
              refine callV_i (q := 100) (j := 0) (As := []) (rest := []) (f := (fX9_paid σ)) hK dX9_count_97 rfl (fun b hb => c_X9_paid σ b hb) ⟨9, _, _, _, by decide, rfl, cM, rfl⟩ mv_X9_paid rfl rfl (Nat.le_of_ble_eq_true rfl) tw_1101 mw_X9_paid (rmOk (Nat.le_of_ble_eq_true rfl) (Nat.le_of_ble_eq_true rfl)) (fun r12 => ?_)
              exact e_i hK dX9_count_100
            · refine sV.ite (fun c13 => ?_) (fun c13 => ?_)
              · refine r_tsI (t := 101) (6 : Int32) hK dX9_count_1 c13 (by decide) (by decide) rfl rfl ?_
                refine r_aload_n (q := 102) hK dX9_count_101 rfl rfl 0 rfl ?_
                refine callV_i (q := 105) (j := 0) (As := []) (rest := []) (f := (fX9_stamps σ)) hK dX9_count_102 rfl (fun b hb => c_X9_stamps σ b hb) ⟨9, _, _, _, by decide, rfl, cM, rfl⟩ mv_X9_stamps rfl rfl (Nat.le_of_ble_eq_true rfl) tw_1046 mw_X9_stamps (rmOk (Nat.le_of_ble_eq_true rfl) (Nat.le_of_ble_eq_true rfl)) (fun r14 => ?_)
                exact e_i hK dX9_count_105
              · refine sV.ite (fun c15 => ?_) (fun c15 => ?_)
                · refine r_tsI (t := 106) (7 : Int32) hK dX9_count_1 c15 (by decide) (by decide) rfl rfl ?_
                  refine r_aload_n (q := 107) hK dX9_count_106 rfl rfl 0 rfl ?_
                  refine gf_9_0 (q := 110) hK dX9_count_107 rfl tw_804 ?_
                  refine r_bipush (q := 112) (v := 7) hK dX9_count_110 rfl rfl ?_
                  refine r_iald (q := 113) hK dX9_count_112 rfl aM1 (fun h16 => ?_)
                  exact e_i hK dX9_count_113
                · refine sV.ite (fun c17 => ?_) (fun c17 => ?_)
                  · refine r_tsI (t := 114) (8 : Int32) hK dX9_count_1 c17 (by decide) (by decide) rfl rfl ?_
                    refine r_aload_n (q := 115) hK dX9_count_114 rfl rfl 0 rfl ?_
                    refine gf_9_28 (q := 118) hK dX9_count_115 rfl tw_832 ?_
                    exact e_i hK dX9_count_118
                  · refine sV.ite (fun c18 => ?_) (fun c18 => ?_)
                    · refine r_tsI (t := 119) (9 : Int32) hK dX9_count_1 c18 (by decide) (by decide) rfl rfl ?_
                      refine r_aload_n (q := 120) hK dX9_count_119 rfl rfl 0 rfl ?_
                      refine gf_9_6 (q := 123) hK dX9_count_120 rfl tw_810 ?_
                      exact e_i hK dX9_count_123
                    · refine sV.ite (fun c19 => ?_) (fun c19 => ?_)
                      · refine r_tsI (t := 124) (10 : Int32) hK dX9_count_1 c19 (by decide) (by decide) rfl rfl ?_
                        refine r_aload_n (q := 125) hK dX9_count_124 rfl rfl 0 rfl ?_
                        refine gf_9_0 (q := 128) hK dX9_count_125 rfl tw_804 ?_
                        refine r_iconst (q := 129) (v := 0) hK dX9_count_128 rfl rfl ?_
                        refine r_iald (q := 130) hK dX9_count_129 rfl aM1 (fun h20 => ?_)
                        exact e_i hK dX9_count_130
                      · have ec1 : ¬ (a1).toInt = 0 := ne_ti c1
                        have ec3 : ¬ (a1).toInt = 1 := ne_ti c3
                        have ec5 : ¬ (a1).toInt = 2 := ne_ti c5
                        have ec7 : ¬ (a1).toInt = 3 := ne_ti c7
                        have ec9 : ¬ (a1).toInt = 4 := ne_ti c9
                        have ec11 : ¬ (a1).toInt = 5 := ne_ti c11
                        have ec13 : ¬ (a1).toInt = 6 := ne_ti c13
                        have ec15 : ¬ (a1).toInt = 7 := ne_ti c15
                        have ec17 : ¬ (a1).toInt = 8 := ne_ti c17
                        have ec18 : ¬ (a1).toInt = 9 := ne_ti c18
                        have ec19 : ¬ (a1).toInt = 10 := ne_ti c19
                        refine r_tsO (t := 131) hK dX9_count_1 (by omega) rfl ?_
                        refine r_ldc (q := 133) hK dX9_count_131 rfl tw_906 ?_
                        exact e_i hK dX9_count_133
