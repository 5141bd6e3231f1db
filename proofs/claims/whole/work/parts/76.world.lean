/-! the two worlds out of the pool -/
def pcl : List Nat := [0, 1, 2, 3, 4, 5, 6, 7, 8, 9, 10, 11, 12, 13, 14, 15, 16, 17, 18, 19, 20, 78, 79, 80, 81, 82, 83, 86, 88, 90, 92, 87, 89, 91, 93, 84, 94, 98, 102, 106, 110, 95, 99, 103, 107, 111, 96, 100, 104, 108, 112, 97, 101, 105, 109, 113, 85, 21, 22, 23, 24, 25, 26, 27, 28, 29, 30, 31, 32, 33, 34, 35, 36, 37, 38, 39, 40, 41, 42, 43, 44, 45, 46, 47, 48, 49, 50, 51, 52, 53, 54, 55, 56, 57, 58, 59, 60, 61, 62, 63, 64, 65, 66, 67, 68, 69, 70, 71, 72, 73, 74, 75, 76, 77]
def adC (b : Nat) (j : Nat) : Nat := b + pcl.getD j 0
def adM (b : Nat) (j : Nat) : Nat := b + (114 + j)
def σ0 : Store := fun j k => if j = 57 ∨ j = 76 ∨ j = 95 then (if k = 7 then 6 else if k = 8 then 50 else if k = 10 then 1 else 0) else if (27 ≤ j ∧ j ≤ 30) ∨ (46 ≤ j ∧ j ≤ 50) then (if k = 0 then -1 else 0) else 0
def τ0 : Store := fun j => if j = 1 then upd (upd (upd (fun _ => 0) 0 1) 2 6) 3 50 else if j = 11 then upd (upd (upd (upd (fun _ => 0) 0 (-1)) 1 (-1)) 2 (-1)) 3 (-1) else fun _ => 0
theorem arrV_ext {c : ClassId} {n : Nat} {f g : Nat → Value} (h : ∀ i, i < n → f i = g i) : arrV c n f = arrV c n g := by
  unfold arrV
  congr 2
  funext i
  exact h i.1 i.2
theorem at_i {D : va_G} {a : Nat} {c : ClassId} {n : Nat} {f g : Nat → Int32} {H : Heap} (hP : va_at D vwCl (a, .inl (c, n, .inl f)) H) (h : ∀ i, i < n → f i = g i) : va_at D vwCl (a, .inl (c, n, .inl g)) H := by
  show H[a]? = some (vp_cell _ _)
  have h1 : H[a]? = some (vp_cell c (n, .inl f)) := hP
  rw [h1, vp_cell_i, vp_cell_i, arrV_ext (fun i hi => by rw [h i hi])]
theorem at_q {D : va_G} {a : Nat} {c : ClassId} {n : Nat} {f g : Nat → Option Nat} {H : Heap} (hP : va_at D vwCl (a, .inl (c, n, .inr (.inr (.inr (.inr f))))) H) (h : ∀ i, i < n → f i = g i) : va_at D vwCl (a, .inl (c, n, .inr (.inr (.inr (.inr g))))) H := by
  show H[a]? = some (vp_cell _ _)
  have h1 : H[a]? = some (vp_cell c (n, .inr (.inr (.inr (.inr f))))) := hP
  rw [h1, vp_cell_q, vp_cell_q, arrV_ext (fun i hi => by rw [h i hi])]
theorem adC_inj {b i j : Nat} (hi : i < 114) (hj : j < 114) (h : adC b i = adC b j) : i = j := by
  have e : ∀ i : Nat, i < 114 → ∀ j : Nat, j < 114 → pcl.getD i 0 = pcl.getD j 0 → i = j := by decide +kernel
  refine e i hi j hj ?_
  unfold adC at h
  omega
theorem adC_lt {b i : Nat} (hi : i < 114) : adC b i < b + 114 := by
  have e : ∀ i : Nat, i < 114 → pcl.getD i 0 < 114 := by decide +kernel
  have := e i hi
  unfold adC
  omega
theorem pw_get {D : va_G} {b k : Nat} {E : Pool} {H : Heap} (hP : va_P D vwCl (pw b k E) H) (i : Nat) (hi : i < k) : va_at D vwCl (b + i, E i) H := pw_P.mp hP i hi
def E0 : Pool := fun _ => .inr (0, [])
def E1 : Pool := pu E0 0 (.inr (8, [.null, .null, .null, .null, .null, .null, .null, .null, .null, .null, .int 0, .int 0, .int 0]))
def E2 (G : Geo) (b : Nat) : Pool := eX8_53 G b E1
def E3 (G : Geo) (b : Nat) : Pool := pu (E2 G b) 114 (.inr (9, [.null, .null, .int 0, .null, .null, .null, .int 0, .null, .null, .int 0, .int 0, .int 0, .int 0, .int 0, .int 0, .int 0, .int 0, .int 0, .null, .null, .null, .null, .null, .null, .null, .null, .null, .null, .int 0]))
def E4 (G : Geo) (b : Nat) : Pool := eX9_47 G b (E3 G b)
theorem E1_0 : E1 0 = (.inr (8, [.null, .null, .null, .null, .null, .null, .null, .null, .null, .null, .int 0, .int 0, .int 0])) := pu_y
theorem E3_0 {G : Geo} {b : Nat} : E3 G b 114 = (.inr (9, [.null, .null, .int 0, .null, .null, .null, .int 0, .null, .null, .int 0, .int 0, .int 0, .int 0, .int 0, .int 0, .int 0, .int 0, .int 0, .null, .null, .null, .null, .null, .null, .null, .null, .null, .null, .int 0])) := pu_y
theorem E4_c {G : Geo} {b i : Nat} {e : va_E} (h : i < 114) (he : eX8_53 G b E1 i = e) : E4 G b i = e := (eX9_fr E3_0 (by omega) (by omega)).trans ((pu_n (by omega)).trans he)
set_option maxRecDepth 100000 in
theorem wc_0 {D : va_G} {cy : Nat → ClassId} {sk sv st : Nat → Nat} {b : Nat} {H : Heap} (hP : va_P D vwCl (pw b 132 (E4 (D, cy, adC b, sk, sv, st) b)) H) : va_at D vwCl (adC b 0, cellC (D, cy, adC b, sk, sv, st) (σ0 0) 0) H := by
  have h := pw_get hP 0 (by omega)
  rw [E4_c (by omega) (eX8_at0 E1_0)] at h
  exact h
set_option maxRecDepth 100000 in
theorem wc_1 {D : va_G} {cy : Nat → ClassId} {sk sv st : Nat → Nat} {b : Nat} {H : Heap} (hP : va_P D vwCl (pw b 132 (E4 (D, cy, adC b, sk, sv, st) b)) H) : va_at D vwCl (adC b 1, cellC (D, cy, adC b, sk, sv, st) (σ0 1) 1) H := by
  have h := pw_get hP 1 (by omega)
  rw [E4_c (by omega) (eX8_at1 E1_0)] at h
  exact h
set_option maxRecDepth 100000 in
theorem wc_2 {D : va_G} {cy : Nat → ClassId} {sk sv st : Nat → Nat} {b : Nat} {H : Heap} (hP : va_P D vwCl (pw b 132 (E4 (D, cy, adC b, sk, sv, st) b)) H) : va_at D vwCl (adC b 2, cellC (D, cy, adC b, sk, sv, st) (σ0 2) 2) H := by
  have h := pw_get hP 2 (by omega)
  rw [E4_c (by omega) (eX8_at2 E1_0)] at h
  exact at_q h (fun i hi => by
    match i, hi with
    | 0, _ => rfl
    | 1, _ => rfl
    | 2, _ => rfl
    | 3, _ => rfl
    | 4, _ => rfl
    | 5, _ => rfl
    | 6, _ => rfl
    | 7, _ => rfl
    | 8, _ => rfl
    | 9, _ => rfl
    | 10, _ => rfl
    | 11, _ => rfl
    | 12, _ => rfl
    | 13, _ => rfl
    | n + 14, hi => exact absurd hi (by omega))
set_option maxRecDepth 100000 in
theorem wc_3 {D : va_G} {cy : Nat → ClassId} {sk sv st : Nat → Nat} {b : Nat} {H : Heap} (hP : va_P D vwCl (pw b 132 (E4 (D, cy, adC b, sk, sv, st) b)) H) : va_at D vwCl (adC b 3, cellC (D, cy, adC b, sk, sv, st) (σ0 3) 3) H := by
  have h := pw_get hP 3 (by omega)
  rw [E4_c (by omega) (eX8_at3 E1_0)] at h
  exact at_i h (fun i _ => rfl)
set_option maxRecDepth 100000 in
theorem wc_4 {D : va_G} {cy : Nat → ClassId} {sk sv st : Nat → Nat} {b : Nat} {H : Heap} (hP : va_P D vwCl (pw b 132 (E4 (D, cy, adC b, sk, sv, st) b)) H) : va_at D vwCl (adC b 4, cellC (D, cy, adC b, sk, sv, st) (σ0 4) 4) H := by
  have h := pw_get hP 4 (by omega)
  rw [E4_c (by omega) (eX8_at4 E1_0)] at h
  exact at_i h (fun i _ => rfl)
set_option maxRecDepth 100000 in
theorem wc_5 {D : va_G} {cy : Nat → ClassId} {sk sv st : Nat → Nat} {b : Nat} {H : Heap} (hP : va_P D vwCl (pw b 132 (E4 (D, cy, adC b, sk, sv, st) b)) H) : va_at D vwCl (adC b 5, cellC (D, cy, adC b, sk, sv, st) (σ0 5) 5) H := by
  have h := pw_get hP 5 (by omega)
  rw [E4_c (by omega) (eX8_at5 E1_0)] at h
  exact at_i h (fun i _ => rfl)
set_option maxRecDepth 100000 in
theorem wc_6 {D : va_G} {cy : Nat → ClassId} {sk sv st : Nat → Nat} {b : Nat} {H : Heap} (hP : va_P D vwCl (pw b 132 (E4 (D, cy, adC b, sk, sv, st) b)) H) : va_at D vwCl (adC b 6, cellC (D, cy, adC b, sk, sv, st) (σ0 6) 6) H := by
  have h := pw_get hP 6 (by omega)
  rw [E4_c (by omega) (eX8_at6 E1_0)] at h
  exact at_i h (fun i _ => rfl)
set_option maxRecDepth 100000 in
theorem wc_7 {D : va_G} {cy : Nat → ClassId} {sk sv st : Nat → Nat} {b : Nat} {H : Heap} (hP : va_P D vwCl (pw b 132 (E4 (D, cy, adC b, sk, sv, st) b)) H) : va_at D vwCl (adC b 7, cellC (D, cy, adC b, sk, sv, st) (σ0 7) 7) H := by
  have h := pw_get hP 7 (by omega)
  rw [E4_c (by omega) (eX8_at7 E1_0)] at h
  exact at_i h (fun i _ => rfl)
set_option maxRecDepth 100000 in
theorem wc_8 {D : va_G} {cy : Nat → ClassId} {sk sv st : Nat → Nat} {b : Nat} {H : Heap} (hP : va_P D vwCl (pw b 132 (E4 (D, cy, adC b, sk, sv, st) b)) H) : va_at D vwCl (adC b 8, cellC (D, cy, adC b, sk, sv, st) (σ0 8) 8) H := by
  have h := pw_get hP 8 (by omega)
  rw [E4_c (by omega) (eX8_at8 E1_0)] at h
  exact at_i h (fun i _ => rfl)
set_option maxRecDepth 100000 in
theorem wc_9 {D : va_G} {cy : Nat → ClassId} {sk sv st : Nat → Nat} {b : Nat} {H : Heap} (hP : va_P D vwCl (pw b 132 (E4 (D, cy, adC b, sk, sv, st) b)) H) : va_at D vwCl (adC b 9, cellC (D, cy, adC b, sk, sv, st) (σ0 9) 9) H := by
  have h := pw_get hP 9 (by omega)
  rw [E4_c (by omega) (eX8_at9 E1_0)] at h
  exact at_i h (fun i _ => rfl)
set_option maxRecDepth 100000 in
theorem wc_10 {D : va_G} {cy : Nat → ClassId} {sk sv st : Nat → Nat} {b : Nat} {H : Heap} (hP : va_P D vwCl (pw b 132 (E4 (D, cy, adC b, sk, sv, st) b)) H) : va_at D vwCl (adC b 10, cellC (D, cy, adC b, sk, sv, st) (σ0 10) 10) H := by
  have h := pw_get hP 10 (by omega)
  rw [E4_c (by omega) (eX8_at10 E1_0)] at h
  exact at_i h (fun i _ => rfl)
set_option maxRecDepth 100000 in
theorem wc_11 {D : va_G} {cy : Nat → ClassId} {sk sv st : Nat → Nat} {b : Nat} {H : Heap} (hP : va_P D vwCl (pw b 132 (E4 (D, cy, adC b, sk, sv, st) b)) H) : va_at D vwCl (adC b 11, cellC (D, cy, adC b, sk, sv, st) (σ0 11) 11) H := by
  have h := pw_get hP 11 (by omega)
  rw [E4_c (by omega) (eX8_at11 E1_0)] at h
  exact at_i h (fun i _ => rfl)
set_option maxRecDepth 100000 in
theorem wc_12 {D : va_G} {cy : Nat → ClassId} {sk sv st : Nat → Nat} {b : Nat} {H : Heap} (hP : va_P D vwCl (pw b 132 (E4 (D, cy, adC b, sk, sv, st) b)) H) : va_at D vwCl (adC b 12, cellC (D, cy, adC b, sk, sv, st) (σ0 12) 12) H := by
  have h := pw_get hP 12 (by omega)
  rw [E4_c (by omega) (eX8_at12 E1_0)] at h
  exact at_i h (fun i _ => rfl)
set_option maxRecDepth 100000 in
theorem wc_13 {D : va_G} {cy : Nat → ClassId} {sk sv st : Nat → Nat} {b : Nat} {H : Heap} (hP : va_P D vwCl (pw b 132 (E4 (D, cy, adC b, sk, sv, st) b)) H) : va_at D vwCl (adC b 13, cellC (D, cy, adC b, sk, sv, st) (σ0 13) 13) H := by
  have h := pw_get hP 13 (by omega)
  rw [E4_c (by omega) (eX8_at13 E1_0)] at h
  exact at_i h (fun i _ => rfl)
set_option maxRecDepth 100000 in
theorem wc_14 {D : va_G} {cy : Nat → ClassId} {sk sv st : Nat → Nat} {b : Nat} {H : Heap} (hP : va_P D vwCl (pw b 132 (E4 (D, cy, adC b, sk, sv, st) b)) H) : va_at D vwCl (adC b 14, cellC (D, cy, adC b, sk, sv, st) (σ0 14) 14) H := by
  have h := pw_get hP 14 (by omega)
  rw [E4_c (by omega) (eX8_at14 E1_0)] at h
  exact at_i h (fun i _ => rfl)
set_option maxRecDepth 100000 in
theorem wc_15 {D : va_G} {cy : Nat → ClassId} {sk sv st : Nat → Nat} {b : Nat} {H : Heap} (hP : va_P D vwCl (pw b 132 (E4 (D, cy, adC b, sk, sv, st) b)) H) : va_at D vwCl (adC b 15, cellC (D, cy, adC b, sk, sv, st) (σ0 15) 15) H := by
  have h := pw_get hP 15 (by omega)
  rw [E4_c (by omega) (eX8_at15 E1_0)] at h
  exact at_i h (fun i _ => rfl)
set_option maxRecDepth 100000 in
theorem wc_16 {D : va_G} {cy : Nat → ClassId} {sk sv st : Nat → Nat} {b : Nat} {H : Heap} (hP : va_P D vwCl (pw b 132 (E4 (D, cy, adC b, sk, sv, st) b)) H) : va_at D vwCl (adC b 16, cellC (D, cy, adC b, sk, sv, st) (σ0 16) 16) H := by
  have h := pw_get hP 16 (by omega)
  rw [E4_c (by omega) (eX8_at16 E1_0)] at h
  exact at_i h (fun i _ => rfl)
set_option maxRecDepth 100000 in
theorem wc_17 {D : va_G} {cy : Nat → ClassId} {sk sv st : Nat → Nat} {b : Nat} {H : Heap} (hP : va_P D vwCl (pw b 132 (E4 (D, cy, adC b, sk, sv, st) b)) H) : va_at D vwCl (adC b 17, cellC (D, cy, adC b, sk, sv, st) (σ0 17) 17) H := by
  have h := pw_get hP 17 (by omega)
  rw [E4_c (by omega) (eX8_at17 E1_0)] at h
  exact at_i h (fun i _ => rfl)
set_option maxRecDepth 100000 in
theorem wc_18 {D : va_G} {cy : Nat → ClassId} {sk sv st : Nat → Nat} {b : Nat} {H : Heap} (hP : va_P D vwCl (pw b 132 (E4 (D, cy, adC b, sk, sv, st) b)) H) : va_at D vwCl (adC b 18, cellC (D, cy, adC b, sk, sv, st) (σ0 18) 18) H := by
  have h := pw_get hP 18 (by omega)
  rw [E4_c (by omega) (eX8_at18 E1_0)] at h
  exact at_i h (fun i _ => rfl)
set_option maxRecDepth 100000 in
theorem wc_19 {D : va_G} {cy : Nat → ClassId} {sk sv st : Nat → Nat} {b : Nat} {H : Heap} (hP : va_P D vwCl (pw b 132 (E4 (D, cy, adC b, sk, sv, st) b)) H) : va_at D vwCl (adC b 19, cellC (D, cy, adC b, sk, sv, st) (σ0 19) 19) H := by
  have h := pw_get hP 19 (by omega)
  rw [E4_c (by omega) (eX8_at19 E1_0)] at h
  exact at_i h (fun i _ => rfl)
set_option maxRecDepth 100000 in
theorem wc_20 {D : va_G} {cy : Nat → ClassId} {sk sv st : Nat → Nat} {b : Nat} {H : Heap} (hP : va_P D vwCl (pw b 132 (E4 (D, cy, adC b, sk, sv, st) b)) H) : va_at D vwCl (adC b 20, cellC (D, cy, adC b, sk, sv, st) (σ0 20) 20) H := by
  have h := pw_get hP 20 (by omega)
  rw [E4_c (by omega) (eX8_at20 E1_0)] at h
  exact at_i h (fun i _ => rfl)
set_option maxRecDepth 100000 in
theorem wc_21 {D : va_G} {cy : Nat → ClassId} {sk sv st : Nat → Nat} {b : Nat} {H : Heap} (hP : va_P D vwCl (pw b 132 (E4 (D, cy, adC b, sk, sv, st) b)) H) : va_at D vwCl (adC b 21, cellC (D, cy, adC b, sk, sv, st) (σ0 21) 21) H := by
  have h := pw_get hP 78 (by omega)
  rw [E4_c (by omega) (eX8_at78 E1_0)] at h
  exact h
set_option maxRecDepth 100000 in
theorem wc_22 {D : va_G} {cy : Nat → ClassId} {sk sv st : Nat → Nat} {b : Nat} {H : Heap} (hP : va_P D vwCl (pw b 132 (E4 (D, cy, adC b, sk, sv, st) b)) H) : va_at D vwCl (adC b 22, cellC (D, cy, adC b, sk, sv, st) (σ0 22) 22) H := by
  have h := pw_get hP 79 (by omega)
  rw [E4_c (by omega) (eX8_at79 E1_0)] at h
  exact at_i h (fun i _ => rfl)
set_option maxRecDepth 100000 in
theorem wc_23 {D : va_G} {cy : Nat → ClassId} {sk sv st : Nat → Nat} {b : Nat} {H : Heap} (hP : va_P D vwCl (pw b 132 (E4 (D, cy, adC b, sk, sv, st) b)) H) : va_at D vwCl (adC b 23, cellC (D, cy, adC b, sk, sv, st) (σ0 23) 23) H := by
  have h := pw_get hP 80 (by omega)
  rw [E4_c (by omega) (eX8_at80 E1_0)] at h
  exact at_i h (fun i _ => rfl)
set_option maxRecDepth 100000 in
theorem wc_24 {D : va_G} {cy : Nat → ClassId} {sk sv st : Nat → Nat} {b : Nat} {H : Heap} (hP : va_P D vwCl (pw b 132 (E4 (D, cy, adC b, sk, sv, st) b)) H) : va_at D vwCl (adC b 24, cellC (D, cy, adC b, sk, sv, st) (σ0 24) 24) H := by
  have h := pw_get hP 81 (by omega)
  rw [E4_c (by omega) (eX8_at81 E1_0)] at h
  exact h
set_option maxRecDepth 100000 in
theorem wc_25 {D : va_G} {cy : Nat → ClassId} {sk sv st : Nat → Nat} {b : Nat} {H : Heap} (hP : va_P D vwCl (pw b 132 (E4 (D, cy, adC b, sk, sv, st) b)) H) : va_at D vwCl (adC b 25, cellC (D, cy, adC b, sk, sv, st) (σ0 25) 25) H := by
  have h := pw_get hP 82 (by omega)
  rw [E4_c (by omega) (eX8_at82 E1_0)] at h
  exact at_i h (fun i _ => rfl)
set_option maxRecDepth 100000 in
theorem wc_26 {D : va_G} {cy : Nat → ClassId} {sk sv st : Nat → Nat} {b : Nat} {H : Heap} (hP : va_P D vwCl (pw b 132 (E4 (D, cy, adC b, sk, sv, st) b)) H) : va_at D vwCl (adC b 26, cellC (D, cy, adC b, sk, sv, st) (σ0 26) 26) H := by
  have h := pw_get hP 83 (by omega)
  rw [E4_c (by omega) (eX8_at83 E1_0)] at h
  exact at_q h (fun i hi => by
    match i, hi with
    | 0, _ => rfl
    | 1, _ => rfl
    | 2, _ => rfl
    | 3, _ => rfl
    | n + 4, hi => exact absurd hi (by omega))
set_option maxRecDepth 100000 in
theorem wc_27 {D : va_G} {cy : Nat → ClassId} {sk sv st : Nat → Nat} {b : Nat} {H : Heap} (hP : va_P D vwCl (pw b 132 (E4 (D, cy, adC b, sk, sv, st) b)) H) : va_at D vwCl (adC b 27, cellC (D, cy, adC b, sk, sv, st) (σ0 27) 27) H := by
  have h := pw_get hP 86 (by omega)
  rw [E4_c (by omega) (eX8_at86 E1_0)] at h
  exact h
set_option maxRecDepth 100000 in
theorem wc_28 {D : va_G} {cy : Nat → ClassId} {sk sv st : Nat → Nat} {b : Nat} {H : Heap} (hP : va_P D vwCl (pw b 132 (E4 (D, cy, adC b, sk, sv, st) b)) H) : va_at D vwCl (adC b 28, cellC (D, cy, adC b, sk, sv, st) (σ0 28) 28) H := by
  have h := pw_get hP 88 (by omega)
  rw [E4_c (by omega) (eX8_at88 E1_0)] at h
  exact h
set_option maxRecDepth 100000 in
theorem wc_29 {D : va_G} {cy : Nat → ClassId} {sk sv st : Nat → Nat} {b : Nat} {H : Heap} (hP : va_P D vwCl (pw b 132 (E4 (D, cy, adC b, sk, sv, st) b)) H) : va_at D vwCl (adC b 29, cellC (D, cy, adC b, sk, sv, st) (σ0 29) 29) H := by
  have h := pw_get hP 90 (by omega)
  rw [E4_c (by omega) (eX8_at90 E1_0)] at h
  exact h
set_option maxRecDepth 100000 in
theorem wc_30 {D : va_G} {cy : Nat → ClassId} {sk sv st : Nat → Nat} {b : Nat} {H : Heap} (hP : va_P D vwCl (pw b 132 (E4 (D, cy, adC b, sk, sv, st) b)) H) : va_at D vwCl (adC b 30, cellC (D, cy, adC b, sk, sv, st) (σ0 30) 30) H := by
  have h := pw_get hP 92 (by omega)
  rw [E4_c (by omega) (eX8_at92 E1_0)] at h
  exact h
set_option maxRecDepth 100000 in
theorem wc_31 {D : va_G} {cy : Nat → ClassId} {sk sv st : Nat → Nat} {b : Nat} {H : Heap} (hP : va_P D vwCl (pw b 132 (E4 (D, cy, adC b, sk, sv, st) b)) H) : va_at D vwCl (adC b 31, cellC (D, cy, adC b, sk, sv, st) (σ0 31) 31) H := by
  have h := pw_get hP 87 (by omega)
  rw [E4_c (by omega) (eX8_at87 E1_0)] at h
  exact at_i h (fun i _ => rfl)
set_option maxRecDepth 100000 in
theorem wc_32 {D : va_G} {cy : Nat → ClassId} {sk sv st : Nat → Nat} {b : Nat} {H : Heap} (hP : va_P D vwCl (pw b 132 (E4 (D, cy, adC b, sk, sv, st) b)) H) : va_at D vwCl (adC b 32, cellC (D, cy, adC b, sk, sv, st) (σ0 32) 32) H := by
  have h := pw_get hP 89 (by omega)
  rw [E4_c (by omega) (eX8_at89 E1_0)] at h
  exact at_i h (fun i _ => rfl)
set_option maxRecDepth 100000 in
theorem wc_33 {D : va_G} {cy : Nat → ClassId} {sk sv st : Nat → Nat} {b : Nat} {H : Heap} (hP : va_P D vwCl (pw b 132 (E4 (D, cy, adC b, sk, sv, st) b)) H) : va_at D vwCl (adC b 33, cellC (D, cy, adC b, sk, sv, st) (σ0 33) 33) H := by
  have h := pw_get hP 91 (by omega)
  rw [E4_c (by omega) (eX8_at91 E1_0)] at h
  exact at_i h (fun i _ => rfl)
set_option maxRecDepth 100000 in
theorem wc_34 {D : va_G} {cy : Nat → ClassId} {sk sv st : Nat → Nat} {b : Nat} {H : Heap} (hP : va_P D vwCl (pw b 132 (E4 (D, cy, adC b, sk, sv, st) b)) H) : va_at D vwCl (adC b 34, cellC (D, cy, adC b, sk, sv, st) (σ0 34) 34) H := by
  have h := pw_get hP 93 (by omega)
  rw [E4_c (by omega) (eX8_at93 E1_0)] at h
  exact at_i h (fun i _ => rfl)
set_option maxRecDepth 100000 in
theorem wc_35 {D : va_G} {cy : Nat → ClassId} {sk sv st : Nat → Nat} {b : Nat} {H : Heap} (hP : va_P D vwCl (pw b 132 (E4 (D, cy, adC b, sk, sv, st) b)) H) : va_at D vwCl (adC b 35, cellC (D, cy, adC b, sk, sv, st) (σ0 35) 35) H := by
  have h := pw_get hP 84 (by omega)
  rw [E4_c (by omega) (eX8_at84 E1_0)] at h
  exact at_q h (fun i hi => by
    match i, hi with
    | 0, _ => rfl
    | 1, _ => rfl
    | 2, _ => rfl
    | 3, _ => rfl
    | 4, _ => rfl
    | n + 5, hi => exact absurd hi (by omega))
set_option maxRecDepth 100000 in
theorem wc_36 {D : va_G} {cy : Nat → ClassId} {sk sv st : Nat → Nat} {b : Nat} {H : Heap} (hP : va_P D vwCl (pw b 132 (E4 (D, cy, adC b, sk, sv, st) b)) H) : va_at D vwCl (adC b 36, cellC (D, cy, adC b, sk, sv, st) (σ0 36) 36) H := by
  have h := pw_get hP 94 (by omega)
  rw [E4_c (by omega) (eX8_at94 E1_0)] at h
  exact h
set_option maxRecDepth 100000 in
theorem wc_37 {D : va_G} {cy : Nat → ClassId} {sk sv st : Nat → Nat} {b : Nat} {H : Heap} (hP : va_P D vwCl (pw b 132 (E4 (D, cy, adC b, sk, sv, st) b)) H) : va_at D vwCl (adC b 37, cellC (D, cy, adC b, sk, sv, st) (σ0 37) 37) H := by
  have h := pw_get hP 98 (by omega)
  rw [E4_c (by omega) (eX8_at98 E1_0)] at h
  exact h
set_option maxRecDepth 100000 in
theorem wc_38 {D : va_G} {cy : Nat → ClassId} {sk sv st : Nat → Nat} {b : Nat} {H : Heap} (hP : va_P D vwCl (pw b 132 (E4 (D, cy, adC b, sk, sv, st) b)) H) : va_at D vwCl (adC b 38, cellC (D, cy, adC b, sk, sv, st) (σ0 38) 38) H := by
  have h := pw_get hP 102 (by omega)
  rw [E4_c (by omega) (eX8_at102 E1_0)] at h
  exact h
set_option maxRecDepth 100000 in
theorem wc_39 {D : va_G} {cy : Nat → ClassId} {sk sv st : Nat → Nat} {b : Nat} {H : Heap} (hP : va_P D vwCl (pw b 132 (E4 (D, cy, adC b, sk, sv, st) b)) H) : va_at D vwCl (adC b 39, cellC (D, cy, adC b, sk, sv, st) (σ0 39) 39) H := by
  have h := pw_get hP 106 (by omega)
  rw [E4_c (by omega) (eX8_at106 E1_0)] at h
  exact h
set_option maxRecDepth 100000 in
theorem wc_40 {D : va_G} {cy : Nat → ClassId} {sk sv st : Nat → Nat} {b : Nat} {H : Heap} (hP : va_P D vwCl (pw b 132 (E4 (D, cy, adC b, sk, sv, st) b)) H) : va_at D vwCl (adC b 40, cellC (D, cy, adC b, sk, sv, st) (σ0 40) 40) H := by
  have h := pw_get hP 110 (by omega)
  rw [E4_c (by omega) (eX8_at110 E1_0)] at h
  exact h
set_option maxRecDepth 100000 in
theorem wc_41 {D : va_G} {cy : Nat → ClassId} {sk sv st : Nat → Nat} {b : Nat} {H : Heap} (hP : va_P D vwCl (pw b 132 (E4 (D, cy, adC b, sk, sv, st) b)) H) : va_at D vwCl (adC b 41, cellC (D, cy, adC b, sk, sv, st) (σ0 41) 41) H := by
  have h := pw_get hP 95 (by omega)
  rw [E4_c (by omega) (eX8_at95 E1_0)] at h
  exact h
set_option maxRecDepth 100000 in
theorem wc_42 {D : va_G} {cy : Nat → ClassId} {sk sv st : Nat → Nat} {b : Nat} {H : Heap} (hP : va_P D vwCl (pw b 132 (E4 (D, cy, adC b, sk, sv, st) b)) H) : va_at D vwCl (adC b 42, cellC (D, cy, adC b, sk, sv, st) (σ0 42) 42) H := by
  have h := pw_get hP 99 (by omega)
  rw [E4_c (by omega) (eX8_at99 E1_0)] at h
  exact h
set_option maxRecDepth 100000 in
theorem wc_43 {D : va_G} {cy : Nat → ClassId} {sk sv st : Nat → Nat} {b : Nat} {H : Heap} (hP : va_P D vwCl (pw b 132 (E4 (D, cy, adC b, sk, sv, st) b)) H) : va_at D vwCl (adC b 43, cellC (D, cy, adC b, sk, sv, st) (σ0 43) 43) H := by
  have h := pw_get hP 103 (by omega)
  rw [E4_c (by omega) (eX8_at103 E1_0)] at h
  exact h
set_option maxRecDepth 100000 in
theorem wc_44 {D : va_G} {cy : Nat → ClassId} {sk sv st : Nat → Nat} {b : Nat} {H : Heap} (hP : va_P D vwCl (pw b 132 (E4 (D, cy, adC b, sk, sv, st) b)) H) : va_at D vwCl (adC b 44, cellC (D, cy, adC b, sk, sv, st) (σ0 44) 44) H := by
  have h := pw_get hP 107 (by omega)
  rw [E4_c (by omega) (eX8_at107 E1_0)] at h
  exact h
set_option maxRecDepth 100000 in
theorem wc_45 {D : va_G} {cy : Nat → ClassId} {sk sv st : Nat → Nat} {b : Nat} {H : Heap} (hP : va_P D vwCl (pw b 132 (E4 (D, cy, adC b, sk, sv, st) b)) H) : va_at D vwCl (adC b 45, cellC (D, cy, adC b, sk, sv, st) (σ0 45) 45) H := by
  have h := pw_get hP 111 (by omega)
  rw [E4_c (by omega) (eX8_at111 E1_0)] at h
  exact h
set_option maxRecDepth 100000 in
theorem wc_46 {D : va_G} {cy : Nat → ClassId} {sk sv st : Nat → Nat} {b : Nat} {H : Heap} (hP : va_P D vwCl (pw b 132 (E4 (D, cy, adC b, sk, sv, st) b)) H) : va_at D vwCl (adC b 46, cellC (D, cy, adC b, sk, sv, st) (σ0 46) 46) H := by
  have h := pw_get hP 96 (by omega)
  rw [E4_c (by omega) (eX8_at96 E1_0)] at h
  exact h
set_option maxRecDepth 100000 in
theorem wc_47 {D : va_G} {cy : Nat → ClassId} {sk sv st : Nat → Nat} {b : Nat} {H : Heap} (hP : va_P D vwCl (pw b 132 (E4 (D, cy, adC b, sk, sv, st) b)) H) : va_at D vwCl (adC b 47, cellC (D, cy, adC b, sk, sv, st) (σ0 47) 47) H := by
  have h := pw_get hP 100 (by omega)
  rw [E4_c (by omega) (eX8_at100 E1_0)] at h
  exact h
set_option maxRecDepth 100000 in
theorem wc_48 {D : va_G} {cy : Nat → ClassId} {sk sv st : Nat → Nat} {b : Nat} {H : Heap} (hP : va_P D vwCl (pw b 132 (E4 (D, cy, adC b, sk, sv, st) b)) H) : va_at D vwCl (adC b 48, cellC (D, cy, adC b, sk, sv, st) (σ0 48) 48) H := by
  have h := pw_get hP 104 (by omega)
  rw [E4_c (by omega) (eX8_at104 E1_0)] at h
  exact h
set_option maxRecDepth 100000 in
theorem wc_49 {D : va_G} {cy : Nat → ClassId} {sk sv st : Nat → Nat} {b : Nat} {H : Heap} (hP : va_P D vwCl (pw b 132 (E4 (D, cy, adC b, sk, sv, st) b)) H) : va_at D vwCl (adC b 49, cellC (D, cy, adC b, sk, sv, st) (σ0 49) 49) H := by
  have h := pw_get hP 108 (by omega)
  rw [E4_c (by omega) (eX8_at108 E1_0)] at h
  exact h
set_option maxRecDepth 100000 in
theorem wc_50 {D : va_G} {cy : Nat → ClassId} {sk sv st : Nat → Nat} {b : Nat} {H : Heap} (hP : va_P D vwCl (pw b 132 (E4 (D, cy, adC b, sk, sv, st) b)) H) : va_at D vwCl (adC b 50, cellC (D, cy, adC b, sk, sv, st) (σ0 50) 50) H := by
  have h := pw_get hP 112 (by omega)
  rw [E4_c (by omega) (eX8_at112 E1_0)] at h
  exact h
set_option maxRecDepth 100000 in
theorem wc_51 {D : va_G} {cy : Nat → ClassId} {sk sv st : Nat → Nat} {b : Nat} {H : Heap} (hP : va_P D vwCl (pw b 132 (E4 (D, cy, adC b, sk, sv, st) b)) H) : va_at D vwCl (adC b 51, cellC (D, cy, adC b, sk, sv, st) (σ0 51) 51) H := by
  have h := pw_get hP 97 (by omega)
  rw [E4_c (by omega) (eX8_at97 E1_0)] at h
  exact at_i h (fun i _ => rfl)
set_option maxRecDepth 100000 in
theorem wc_52 {D : va_G} {cy : Nat → ClassId} {sk sv st : Nat → Nat} {b : Nat} {H : Heap} (hP : va_P D vwCl (pw b 132 (E4 (D, cy, adC b, sk, sv, st) b)) H) : va_at D vwCl (adC b 52, cellC (D, cy, adC b, sk, sv, st) (σ0 52) 52) H := by
  have h := pw_get hP 101 (by omega)
  rw [E4_c (by omega) (eX8_at101 E1_0)] at h
  exact at_i h (fun i _ => rfl)
set_option maxRecDepth 100000 in
theorem wc_53 {D : va_G} {cy : Nat → ClassId} {sk sv st : Nat → Nat} {b : Nat} {H : Heap} (hP : va_P D vwCl (pw b 132 (E4 (D, cy, adC b, sk, sv, st) b)) H) : va_at D vwCl (adC b 53, cellC (D, cy, adC b, sk, sv, st) (σ0 53) 53) H := by
  have h := pw_get hP 105 (by omega)
  rw [E4_c (by omega) (eX8_at105 E1_0)] at h
  exact at_i h (fun i _ => rfl)
set_option maxRecDepth 100000 in
theorem wc_54 {D : va_G} {cy : Nat → ClassId} {sk sv st : Nat → Nat} {b : Nat} {H : Heap} (hP : va_P D vwCl (pw b 132 (E4 (D, cy, adC b, sk, sv, st) b)) H) : va_at D vwCl (adC b 54, cellC (D, cy, adC b, sk, sv, st) (σ0 54) 54) H := by
  have h := pw_get hP 109 (by omega)
  rw [E4_c (by omega) (eX8_at109 E1_0)] at h
  exact at_i h (fun i _ => rfl)
set_option maxRecDepth 100000 in
theorem wc_55 {D : va_G} {cy : Nat → ClassId} {sk sv st : Nat → Nat} {b : Nat} {H : Heap} (hP : va_P D vwCl (pw b 132 (E4 (D, cy, adC b, sk, sv, st) b)) H) : va_at D vwCl (adC b 55, cellC (D, cy, adC b, sk, sv, st) (σ0 55) 55) H := by
  have h := pw_get hP 113 (by omega)
  rw [E4_c (by omega) (eX8_at113 E1_0)] at h
  exact at_i h (fun i _ => rfl)
set_option maxRecDepth 100000 in
theorem wc_56 {D : va_G} {cy : Nat → ClassId} {sk sv st : Nat → Nat} {b : Nat} {H : Heap} (hP : va_P D vwCl (pw b 132 (E4 (D, cy, adC b, sk, sv, st) b)) H) : va_at D vwCl (adC b 56, cellC (D, cy, adC b, sk, sv, st) (σ0 56) 56) H := by
  have h := pw_get hP 85 (by omega)
  rw [E4_c (by omega) (eX8_at85 E1_0)] at h
  exact at_i h (fun i _ => rfl)
set_option maxRecDepth 100000 in
theorem wc_57 {D : va_G} {cy : Nat → ClassId} {sk sv st : Nat → Nat} {b : Nat} {H : Heap} (hP : va_P D vwCl (pw b 132 (E4 (D, cy, adC b, sk, sv, st) b)) H) : va_at D vwCl (adC b 57, cellC (D, cy, adC b, sk, sv, st) (σ0 57) 57) H := by
  have h := pw_get hP 21 (by omega)
  rw [E4_c (by omega) (eX8_at21 E1_0)] at h
  exact h
set_option maxRecDepth 100000 in
theorem wc_58 {D : va_G} {cy : Nat → ClassId} {sk sv st : Nat → Nat} {b : Nat} {H : Heap} (hP : va_P D vwCl (pw b 132 (E4 (D, cy, adC b, sk, sv, st) b)) H) : va_at D vwCl (adC b 58, cellC (D, cy, adC b, sk, sv, st) (σ0 58) 58) H := by
  have h := pw_get hP 22 (by omega)
  rw [E4_c (by omega) (eX8_at22 E1_0)] at h
  exact at_q h (fun i hi => by
    match i, hi with
    | 0, _ => rfl
    | 1, _ => rfl
    | 2, _ => rfl
    | 3, _ => rfl
    | 4, _ => rfl
    | 5, _ => rfl
    | 6, _ => rfl
    | 7, _ => rfl
    | 8, _ => rfl
    | 9, _ => rfl
    | n + 10, hi => exact absurd hi (by omega))
set_option maxRecDepth 100000 in
theorem wc_59 {D : va_G} {cy : Nat → ClassId} {sk sv st : Nat → Nat} {b : Nat} {H : Heap} (hP : va_P D vwCl (pw b 132 (E4 (D, cy, adC b, sk, sv, st) b)) H) : va_at D vwCl (adC b 59, cellC (D, cy, adC b, sk, sv, st) (σ0 59) 59) H := by
  have h := pw_get hP 23 (by omega)
  rw [E4_c (by omega) (eX8_at23 E1_0)] at h
  exact at_q h (fun i hi => by
    match i, hi with
    | 0, _ => rfl
    | 1, _ => rfl
    | 2, _ => rfl
    | 3, _ => rfl
    | 4, _ => rfl
    | 5, _ => rfl
    | n + 6, hi => exact absurd hi (by omega))
set_option maxRecDepth 100000 in
theorem wc_60 {D : va_G} {cy : Nat → ClassId} {sk sv st : Nat → Nat} {b : Nat} {H : Heap} (hP : va_P D vwCl (pw b 132 (E4 (D, cy, adC b, sk, sv, st) b)) H) : va_at D vwCl (adC b 60, cellC (D, cy, adC b, sk, sv, st) (σ0 60) 60) H := by
  have h := pw_get hP 24 (by omega)
  rw [E4_c (by omega) (eX8_at24 E1_0)] at h
  exact h
set_option maxRecDepth 100000 in
theorem wc_61 {D : va_G} {cy : Nat → ClassId} {sk sv st : Nat → Nat} {b : Nat} {H : Heap} (hP : va_P D vwCl (pw b 132 (E4 (D, cy, adC b, sk, sv, st) b)) H) : va_at D vwCl (adC b 61, cellC (D, cy, adC b, sk, sv, st) (σ0 61) 61) H := by
  have h := pw_get hP 25 (by omega)
  rw [E4_c (by omega) (eX8_at25 E1_0)] at h
  exact h
set_option maxRecDepth 100000 in
theorem wc_62 {D : va_G} {cy : Nat → ClassId} {sk sv st : Nat → Nat} {b : Nat} {H : Heap} (hP : va_P D vwCl (pw b 132 (E4 (D, cy, adC b, sk, sv, st) b)) H) : va_at D vwCl (adC b 62, cellC (D, cy, adC b, sk, sv, st) (σ0 62) 62) H := by
  have h := pw_get hP 26 (by omega)
  rw [E4_c (by omega) (eX8_at26 E1_0)] at h
  exact h
set_option maxRecDepth 100000 in
theorem wc_63 {D : va_G} {cy : Nat → ClassId} {sk sv st : Nat → Nat} {b : Nat} {H : Heap} (hP : va_P D vwCl (pw b 132 (E4 (D, cy, adC b, sk, sv, st) b)) H) : va_at D vwCl (adC b 63, cellC (D, cy, adC b, sk, sv, st) (σ0 63) 63) H := by
  have h := pw_get hP 27 (by omega)
  rw [E4_c (by omega) (eX8_at27 E1_0)] at h
  exact h
set_option maxRecDepth 100000 in
theorem wc_64 {D : va_G} {cy : Nat → ClassId} {sk sv st : Nat → Nat} {b : Nat} {H : Heap} (hP : va_P D vwCl (pw b 132 (E4 (D, cy, adC b, sk, sv, st) b)) H) : va_at D vwCl (adC b 64, cellC (D, cy, adC b, sk, sv, st) (σ0 64) 64) H := by
  have h := pw_get hP 28 (by omega)
  rw [E4_c (by omega) (eX8_at28 E1_0)] at h
  exact h
set_option maxRecDepth 100000 in
theorem wc_65 {D : va_G} {cy : Nat → ClassId} {sk sv st : Nat → Nat} {b : Nat} {H : Heap} (hP : va_P D vwCl (pw b 132 (E4 (D, cy, adC b, sk, sv, st) b)) H) : va_at D vwCl (adC b 65, cellC (D, cy, adC b, sk, sv, st) (σ0 65) 65) H := by
  have h := pw_get hP 29 (by omega)
  rw [E4_c (by omega) (eX8_at29 E1_0)] at h
  exact h
set_option maxRecDepth 100000 in
theorem wc_66 {D : va_G} {cy : Nat → ClassId} {sk sv st : Nat → Nat} {b : Nat} {H : Heap} (hP : va_P D vwCl (pw b 132 (E4 (D, cy, adC b, sk, sv, st) b)) H) : va_at D vwCl (adC b 66, cellC (D, cy, adC b, sk, sv, st) (σ0 66) 66) H := by
  have h := pw_get hP 30 (by omega)
  rw [E4_c (by omega) (eX8_at30 E1_0)] at h
  exact h
set_option maxRecDepth 100000 in
theorem wc_67 {D : va_G} {cy : Nat → ClassId} {sk sv st : Nat → Nat} {b : Nat} {H : Heap} (hP : va_P D vwCl (pw b 132 (E4 (D, cy, adC b, sk, sv, st) b)) H) : va_at D vwCl (adC b 67, cellC (D, cy, adC b, sk, sv, st) (σ0 67) 67) H := by
  have h := pw_get hP 31 (by omega)
  rw [E4_c (by omega) (eX8_at31 E1_0)] at h
  exact h
set_option maxRecDepth 100000 in
theorem wc_68 {D : va_G} {cy : Nat → ClassId} {sk sv st : Nat → Nat} {b : Nat} {H : Heap} (hP : va_P D vwCl (pw b 132 (E4 (D, cy, adC b, sk, sv, st) b)) H) : va_at D vwCl (adC b 68, cellC (D, cy, adC b, sk, sv, st) (σ0 68) 68) H := by
  have h := pw_get hP 32 (by omega)
  rw [E4_c (by omega) (eX8_at32 E1_0)] at h
  exact h
set_option maxRecDepth 100000 in
theorem wc_69 {D : va_G} {cy : Nat → ClassId} {sk sv st : Nat → Nat} {b : Nat} {H : Heap} (hP : va_P D vwCl (pw b 132 (E4 (D, cy, adC b, sk, sv, st) b)) H) : va_at D vwCl (adC b 69, cellC (D, cy, adC b, sk, sv, st) (σ0 69) 69) H := by
  have h := pw_get hP 33 (by omega)
  rw [E4_c (by omega) (eX8_at33 E1_0)] at h
  exact h
set_option maxRecDepth 100000 in
theorem wc_70 {D : va_G} {cy : Nat → ClassId} {sk sv st : Nat → Nat} {b : Nat} {H : Heap} (hP : va_P D vwCl (pw b 132 (E4 (D, cy, adC b, sk, sv, st) b)) H) : va_at D vwCl (adC b 70, cellC (D, cy, adC b, sk, sv, st) (σ0 70) 70) H := by
  have h := pw_get hP 34 (by omega)
  rw [E4_c (by omega) (eX8_at34 E1_0)] at h
  exact h
set_option maxRecDepth 100000 in
theorem wc_71 {D : va_G} {cy : Nat → ClassId} {sk sv st : Nat → Nat} {b : Nat} {H : Heap} (hP : va_P D vwCl (pw b 132 (E4 (D, cy, adC b, sk, sv, st) b)) H) : va_at D vwCl (adC b 71, cellC (D, cy, adC b, sk, sv, st) (σ0 71) 71) H := by
  have h := pw_get hP 35 (by omega)
  rw [E4_c (by omega) (eX8_at35 E1_0)] at h
  exact h
set_option maxRecDepth 100000 in
theorem wc_72 {D : va_G} {cy : Nat → ClassId} {sk sv st : Nat → Nat} {b : Nat} {H : Heap} (hP : va_P D vwCl (pw b 132 (E4 (D, cy, adC b, sk, sv, st) b)) H) : va_at D vwCl (adC b 72, cellC (D, cy, adC b, sk, sv, st) (σ0 72) 72) H := by
  have h := pw_get hP 36 (by omega)
  rw [E4_c (by omega) (eX8_at36 E1_0)] at h
  exact h
set_option maxRecDepth 100000 in
theorem wc_73 {D : va_G} {cy : Nat → ClassId} {sk sv st : Nat → Nat} {b : Nat} {H : Heap} (hP : va_P D vwCl (pw b 132 (E4 (D, cy, adC b, sk, sv, st) b)) H) : va_at D vwCl (adC b 73, cellC (D, cy, adC b, sk, sv, st) (σ0 73) 73) H := by
  have h := pw_get hP 37 (by omega)
  rw [E4_c (by omega) (eX8_at37 E1_0)] at h
  exact h
set_option maxRecDepth 100000 in
theorem wc_74 {D : va_G} {cy : Nat → ClassId} {sk sv st : Nat → Nat} {b : Nat} {H : Heap} (hP : va_P D vwCl (pw b 132 (E4 (D, cy, adC b, sk, sv, st) b)) H) : va_at D vwCl (adC b 74, cellC (D, cy, adC b, sk, sv, st) (σ0 74) 74) H := by
  have h := pw_get hP 38 (by omega)
  rw [E4_c (by omega) (eX8_at38 E1_0)] at h
  exact h
set_option maxRecDepth 100000 in
theorem wc_75 {D : va_G} {cy : Nat → ClassId} {sk sv st : Nat → Nat} {b : Nat} {H : Heap} (hP : va_P D vwCl (pw b 132 (E4 (D, cy, adC b, sk, sv, st) b)) H) : va_at D vwCl (adC b 75, cellC (D, cy, adC b, sk, sv, st) (σ0 75) 75) H := by
  have h := pw_get hP 39 (by omega)
  rw [E4_c (by omega) (eX8_at39 E1_0)] at h
  exact h
set_option maxRecDepth 100000 in
theorem wc_76 {D : va_G} {cy : Nat → ClassId} {sk sv st : Nat → Nat} {b : Nat} {H : Heap} (hP : va_P D vwCl (pw b 132 (E4 (D, cy, adC b, sk, sv, st) b)) H) : va_at D vwCl (adC b 76, cellC (D, cy, adC b, sk, sv, st) (σ0 76) 76) H := by
  have h := pw_get hP 40 (by omega)
  rw [E4_c (by omega) (eX8_at40 E1_0)] at h
  exact h
set_option maxRecDepth 100000 in
theorem wc_77 {D : va_G} {cy : Nat → ClassId} {sk sv st : Nat → Nat} {b : Nat} {H : Heap} (hP : va_P D vwCl (pw b 132 (E4 (D, cy, adC b, sk, sv, st) b)) H) : va_at D vwCl (adC b 77, cellC (D, cy, adC b, sk, sv, st) (σ0 77) 77) H := by
  have h := pw_get hP 41 (by omega)
  rw [E4_c (by omega) (eX8_at41 E1_0)] at h
  exact at_q h (fun i hi => by
    match i, hi with
    | 0, _ => rfl
    | 1, _ => rfl
    | 2, _ => rfl
    | 3, _ => rfl
    | 4, _ => rfl
    | 5, _ => rfl
    | 6, _ => rfl
    | 7, _ => rfl
    | 8, _ => rfl
    | 9, _ => rfl
    | n + 10, hi => exact absurd hi (by omega))
set_option maxRecDepth 100000 in
theorem wc_78 {D : va_G} {cy : Nat → ClassId} {sk sv st : Nat → Nat} {b : Nat} {H : Heap} (hP : va_P D vwCl (pw b 132 (E4 (D, cy, adC b, sk, sv, st) b)) H) : va_at D vwCl (adC b 78, cellC (D, cy, adC b, sk, sv, st) (σ0 78) 78) H := by
  have h := pw_get hP 42 (by omega)
  rw [E4_c (by omega) (eX8_at42 E1_0)] at h
  exact at_q h (fun i hi => by
    match i, hi with
    | 0, _ => rfl
    | 1, _ => rfl
    | 2, _ => rfl
    | 3, _ => rfl
    | 4, _ => rfl
    | 5, _ => rfl
    | n + 6, hi => exact absurd hi (by omega))
set_option maxRecDepth 100000 in
theorem wc_79 {D : va_G} {cy : Nat → ClassId} {sk sv st : Nat → Nat} {b : Nat} {H : Heap} (hP : va_P D vwCl (pw b 132 (E4 (D, cy, adC b, sk, sv, st) b)) H) : va_at D vwCl (adC b 79, cellC (D, cy, adC b, sk, sv, st) (σ0 79) 79) H := by
  have h := pw_get hP 43 (by omega)
  rw [E4_c (by omega) (eX8_at43 E1_0)] at h
  exact h
set_option maxRecDepth 100000 in
theorem wc_80 {D : va_G} {cy : Nat → ClassId} {sk sv st : Nat → Nat} {b : Nat} {H : Heap} (hP : va_P D vwCl (pw b 132 (E4 (D, cy, adC b, sk, sv, st) b)) H) : va_at D vwCl (adC b 80, cellC (D, cy, adC b, sk, sv, st) (σ0 80) 80) H := by
  have h := pw_get hP 44 (by omega)
  rw [E4_c (by omega) (eX8_at44 E1_0)] at h
  exact h
set_option maxRecDepth 100000 in
theorem wc_81 {D : va_G} {cy : Nat → ClassId} {sk sv st : Nat → Nat} {b : Nat} {H : Heap} (hP : va_P D vwCl (pw b 132 (E4 (D, cy, adC b, sk, sv, st) b)) H) : va_at D vwCl (adC b 81, cellC (D, cy, adC b, sk, sv, st) (σ0 81) 81) H := by
  have h := pw_get hP 45 (by omega)
  rw [E4_c (by omega) (eX8_at45 E1_0)] at h
  exact h
set_option maxRecDepth 100000 in
theorem wc_82 {D : va_G} {cy : Nat → ClassId} {sk sv st : Nat → Nat} {b : Nat} {H : Heap} (hP : va_P D vwCl (pw b 132 (E4 (D, cy, adC b, sk, sv, st) b)) H) : va_at D vwCl (adC b 82, cellC (D, cy, adC b, sk, sv, st) (σ0 82) 82) H := by
  have h := pw_get hP 46 (by omega)
  rw [E4_c (by omega) (eX8_at46 E1_0)] at h
  exact h
set_option maxRecDepth 100000 in
theorem wc_83 {D : va_G} {cy : Nat → ClassId} {sk sv st : Nat → Nat} {b : Nat} {H : Heap} (hP : va_P D vwCl (pw b 132 (E4 (D, cy, adC b, sk, sv, st) b)) H) : va_at D vwCl (adC b 83, cellC (D, cy, adC b, sk, sv, st) (σ0 83) 83) H := by
  have h := pw_get hP 47 (by omega)
  rw [E4_c (by omega) (eX8_at47 E1_0)] at h
  exact h
set_option maxRecDepth 100000 in
theorem wc_84 {D : va_G} {cy : Nat → ClassId} {sk sv st : Nat → Nat} {b : Nat} {H : Heap} (hP : va_P D vwCl (pw b 132 (E4 (D, cy, adC b, sk, sv, st) b)) H) : va_at D vwCl (adC b 84, cellC (D, cy, adC b, sk, sv, st) (σ0 84) 84) H := by
  have h := pw_get hP 48 (by omega)
  rw [E4_c (by omega) (eX8_at48 E1_0)] at h
  exact h
set_option maxRecDepth 100000 in
theorem wc_85 {D : va_G} {cy : Nat → ClassId} {sk sv st : Nat → Nat} {b : Nat} {H : Heap} (hP : va_P D vwCl (pw b 132 (E4 (D, cy, adC b, sk, sv, st) b)) H) : va_at D vwCl (adC b 85, cellC (D, cy, adC b, sk, sv, st) (σ0 85) 85) H := by
  have h := pw_get hP 49 (by omega)
  rw [E4_c (by omega) (eX8_at49 E1_0)] at h
  exact h
set_option maxRecDepth 100000 in
theorem wc_86 {D : va_G} {cy : Nat → ClassId} {sk sv st : Nat → Nat} {b : Nat} {H : Heap} (hP : va_P D vwCl (pw b 132 (E4 (D, cy, adC b, sk, sv, st) b)) H) : va_at D vwCl (adC b 86, cellC (D, cy, adC b, sk, sv, st) (σ0 86) 86) H := by
  have h := pw_get hP 50 (by omega)
  rw [E4_c (by omega) (eX8_at50 E1_0)] at h
  exact h
set_option maxRecDepth 100000 in
theorem wc_87 {D : va_G} {cy : Nat → ClassId} {sk sv st : Nat → Nat} {b : Nat} {H : Heap} (hP : va_P D vwCl (pw b 132 (E4 (D, cy, adC b, sk, sv, st) b)) H) : va_at D vwCl (adC b 87, cellC (D, cy, adC b, sk, sv, st) (σ0 87) 87) H := by
  have h := pw_get hP 51 (by omega)
  rw [E4_c (by omega) (eX8_at51 E1_0)] at h
  exact h
set_option maxRecDepth 100000 in
theorem wc_88 {D : va_G} {cy : Nat → ClassId} {sk sv st : Nat → Nat} {b : Nat} {H : Heap} (hP : va_P D vwCl (pw b 132 (E4 (D, cy, adC b, sk, sv, st) b)) H) : va_at D vwCl (adC b 88, cellC (D, cy, adC b, sk, sv, st) (σ0 88) 88) H := by
  have h := pw_get hP 52 (by omega)
  rw [E4_c (by omega) (eX8_at52 E1_0)] at h
  exact h
set_option maxRecDepth 100000 in
theorem wc_89 {D : va_G} {cy : Nat → ClassId} {sk sv st : Nat → Nat} {b : Nat} {H : Heap} (hP : va_P D vwCl (pw b 132 (E4 (D, cy, adC b, sk, sv, st) b)) H) : va_at D vwCl (adC b 89, cellC (D, cy, adC b, sk, sv, st) (σ0 89) 89) H := by
  have h := pw_get hP 53 (by omega)
  rw [E4_c (by omega) (eX8_at53 E1_0)] at h
  exact h
set_option maxRecDepth 100000 in
theorem wc_90 {D : va_G} {cy : Nat → ClassId} {sk sv st : Nat → Nat} {b : Nat} {H : Heap} (hP : va_P D vwCl (pw b 132 (E4 (D, cy, adC b, sk, sv, st) b)) H) : va_at D vwCl (adC b 90, cellC (D, cy, adC b, sk, sv, st) (σ0 90) 90) H := by
  have h := pw_get hP 54 (by omega)
  rw [E4_c (by omega) (eX8_at54 E1_0)] at h
  exact h
set_option maxRecDepth 100000 in
theorem wc_91 {D : va_G} {cy : Nat → ClassId} {sk sv st : Nat → Nat} {b : Nat} {H : Heap} (hP : va_P D vwCl (pw b 132 (E4 (D, cy, adC b, sk, sv, st) b)) H) : va_at D vwCl (adC b 91, cellC (D, cy, adC b, sk, sv, st) (σ0 91) 91) H := by
  have h := pw_get hP 55 (by omega)
  rw [E4_c (by omega) (eX8_at55 E1_0)] at h
  exact h
set_option maxRecDepth 100000 in
theorem wc_92 {D : va_G} {cy : Nat → ClassId} {sk sv st : Nat → Nat} {b : Nat} {H : Heap} (hP : va_P D vwCl (pw b 132 (E4 (D, cy, adC b, sk, sv, st) b)) H) : va_at D vwCl (adC b 92, cellC (D, cy, adC b, sk, sv, st) (σ0 92) 92) H := by
  have h := pw_get hP 56 (by omega)
  rw [E4_c (by omega) (eX8_at56 E1_0)] at h
  exact h
set_option maxRecDepth 100000 in
theorem wc_93 {D : va_G} {cy : Nat → ClassId} {sk sv st : Nat → Nat} {b : Nat} {H : Heap} (hP : va_P D vwCl (pw b 132 (E4 (D, cy, adC b, sk, sv, st) b)) H) : va_at D vwCl (adC b 93, cellC (D, cy, adC b, sk, sv, st) (σ0 93) 93) H := by
  have h := pw_get hP 57 (by omega)
  rw [E4_c (by omega) (eX8_at57 E1_0)] at h
  exact h
set_option maxRecDepth 100000 in
theorem wc_94 {D : va_G} {cy : Nat → ClassId} {sk sv st : Nat → Nat} {b : Nat} {H : Heap} (hP : va_P D vwCl (pw b 132 (E4 (D, cy, adC b, sk, sv, st) b)) H) : va_at D vwCl (adC b 94, cellC (D, cy, adC b, sk, sv, st) (σ0 94) 94) H := by
  have h := pw_get hP 58 (by omega)
  rw [E4_c (by omega) (eX8_at58 E1_0)] at h
  exact h
set_option maxRecDepth 100000 in
theorem wc_95 {D : va_G} {cy : Nat → ClassId} {sk sv st : Nat → Nat} {b : Nat} {H : Heap} (hP : va_P D vwCl (pw b 132 (E4 (D, cy, adC b, sk, sv, st) b)) H) : va_at D vwCl (adC b 95, cellC (D, cy, adC b, sk, sv, st) (σ0 95) 95) H := by
  have h := pw_get hP 59 (by omega)
  rw [E4_c (by omega) (eX8_at59 E1_0)] at h
  exact h
set_option maxRecDepth 100000 in
theorem wc_96 {D : va_G} {cy : Nat → ClassId} {sk sv st : Nat → Nat} {b : Nat} {H : Heap} (hP : va_P D vwCl (pw b 132 (E4 (D, cy, adC b, sk, sv, st) b)) H) : va_at D vwCl (adC b 96, cellC (D, cy, adC b, sk, sv, st) (σ0 96) 96) H := by
  have h := pw_get hP 60 (by omega)
  rw [E4_c (by omega) (eX8_at60 E1_0)] at h
  exact at_q h (fun i hi => by
    match i, hi with
    | 0, _ => rfl
    | 1, _ => rfl
    | 2, _ => rfl
    | 3, _ => rfl
    | 4, _ => rfl
    | 5, _ => rfl
    | 6, _ => rfl
    | 7, _ => rfl
    | 8, _ => rfl
    | 9, _ => rfl
    | n + 10, hi => exact absurd hi (by omega))
set_option maxRecDepth 100000 in
theorem wc_97 {D : va_G} {cy : Nat → ClassId} {sk sv st : Nat → Nat} {b : Nat} {H : Heap} (hP : va_P D vwCl (pw b 132 (E4 (D, cy, adC b, sk, sv, st) b)) H) : va_at D vwCl (adC b 97, cellC (D, cy, adC b, sk, sv, st) (σ0 97) 97) H := by
  have h := pw_get hP 61 (by omega)
  rw [E4_c (by omega) (eX8_at61 E1_0)] at h
  exact at_q h (fun i hi => by
    match i, hi with
    | 0, _ => rfl
    | 1, _ => rfl
    | 2, _ => rfl
    | 3, _ => rfl
    | 4, _ => rfl
    | 5, _ => rfl
    | n + 6, hi => exact absurd hi (by omega))
set_option maxRecDepth 100000 in
theorem wc_98 {D : va_G} {cy : Nat → ClassId} {sk sv st : Nat → Nat} {b : Nat} {H : Heap} (hP : va_P D vwCl (pw b 132 (E4 (D, cy, adC b, sk, sv, st) b)) H) : va_at D vwCl (adC b 98, cellC (D, cy, adC b, sk, sv, st) (σ0 98) 98) H := by
  have h := pw_get hP 62 (by omega)
  rw [E4_c (by omega) (eX8_at62 E1_0)] at h
  exact h
set_option maxRecDepth 100000 in
theorem wc_99 {D : va_G} {cy : Nat → ClassId} {sk sv st : Nat → Nat} {b : Nat} {H : Heap} (hP : va_P D vwCl (pw b 132 (E4 (D, cy, adC b, sk, sv, st) b)) H) : va_at D vwCl (adC b 99, cellC (D, cy, adC b, sk, sv, st) (σ0 99) 99) H := by
  have h := pw_get hP 63 (by omega)
  rw [E4_c (by omega) (eX8_at63 E1_0)] at h
  exact h
set_option maxRecDepth 100000 in
theorem wc_100 {D : va_G} {cy : Nat → ClassId} {sk sv st : Nat → Nat} {b : Nat} {H : Heap} (hP : va_P D vwCl (pw b 132 (E4 (D, cy, adC b, sk, sv, st) b)) H) : va_at D vwCl (adC b 100, cellC (D, cy, adC b, sk, sv, st) (σ0 100) 100) H := by
  have h := pw_get hP 64 (by omega)
  rw [E4_c (by omega) (eX8_at64 E1_0)] at h
  exact h
set_option maxRecDepth 100000 in
theorem wc_101 {D : va_G} {cy : Nat → ClassId} {sk sv st : Nat → Nat} {b : Nat} {H : Heap} (hP : va_P D vwCl (pw b 132 (E4 (D, cy, adC b, sk, sv, st) b)) H) : va_at D vwCl (adC b 101, cellC (D, cy, adC b, sk, sv, st) (σ0 101) 101) H := by
  have h := pw_get hP 65 (by omega)
  rw [E4_c (by omega) (eX8_at65 E1_0)] at h
  exact h
set_option maxRecDepth 100000 in
theorem wc_102 {D : va_G} {cy : Nat → ClassId} {sk sv st : Nat → Nat} {b : Nat} {H : Heap} (hP : va_P D vwCl (pw b 132 (E4 (D, cy, adC b, sk, sv, st) b)) H) : va_at D vwCl (adC b 102, cellC (D, cy, adC b, sk, sv, st) (σ0 102) 102) H := by
  have h := pw_get hP 66 (by omega)
  rw [E4_c (by omega) (eX8_at66 E1_0)] at h
  exact h
set_option maxRecDepth 100000 in
theorem wc_103 {D : va_G} {cy : Nat → ClassId} {sk sv st : Nat → Nat} {b : Nat} {H : Heap} (hP : va_P D vwCl (pw b 132 (E4 (D, cy, adC b, sk, sv, st) b)) H) : va_at D vwCl (adC b 103, cellC (D, cy, adC b, sk, sv, st) (σ0 103) 103) H := by
  have h := pw_get hP 67 (by omega)
  rw [E4_c (by omega) (eX8_at67 E1_0)] at h
  exact h
set_option maxRecDepth 100000 in
theorem wc_104 {D : va_G} {cy : Nat → ClassId} {sk sv st : Nat → Nat} {b : Nat} {H : Heap} (hP : va_P D vwCl (pw b 132 (E4 (D, cy, adC b, sk, sv, st) b)) H) : va_at D vwCl (adC b 104, cellC (D, cy, adC b, sk, sv, st) (σ0 104) 104) H := by
  have h := pw_get hP 68 (by omega)
  rw [E4_c (by omega) (eX8_at68 E1_0)] at h
  exact h
set_option maxRecDepth 100000 in
theorem wc_105 {D : va_G} {cy : Nat → ClassId} {sk sv st : Nat → Nat} {b : Nat} {H : Heap} (hP : va_P D vwCl (pw b 132 (E4 (D, cy, adC b, sk, sv, st) b)) H) : va_at D vwCl (adC b 105, cellC (D, cy, adC b, sk, sv, st) (σ0 105) 105) H := by
  have h := pw_get hP 69 (by omega)
  rw [E4_c (by omega) (eX8_at69 E1_0)] at h
  exact h
set_option maxRecDepth 100000 in
theorem wc_106 {D : va_G} {cy : Nat → ClassId} {sk sv st : Nat → Nat} {b : Nat} {H : Heap} (hP : va_P D vwCl (pw b 132 (E4 (D, cy, adC b, sk, sv, st) b)) H) : va_at D vwCl (adC b 106, cellC (D, cy, adC b, sk, sv, st) (σ0 106) 106) H := by
  have h := pw_get hP 70 (by omega)
  rw [E4_c (by omega) (eX8_at70 E1_0)] at h
  exact h
set_option maxRecDepth 100000 in
theorem wc_107 {D : va_G} {cy : Nat → ClassId} {sk sv st : Nat → Nat} {b : Nat} {H : Heap} (hP : va_P D vwCl (pw b 132 (E4 (D, cy, adC b, sk, sv, st) b)) H) : va_at D vwCl (adC b 107, cellC (D, cy, adC b, sk, sv, st) (σ0 107) 107) H := by
  have h := pw_get hP 71 (by omega)
  rw [E4_c (by omega) (eX8_at71 E1_0)] at h
  exact h
set_option maxRecDepth 100000 in
theorem wc_108 {D : va_G} {cy : Nat → ClassId} {sk sv st : Nat → Nat} {b : Nat} {H : Heap} (hP : va_P D vwCl (pw b 132 (E4 (D, cy, adC b, sk, sv, st) b)) H) : va_at D vwCl (adC b 108, cellC (D, cy, adC b, sk, sv, st) (σ0 108) 108) H := by
  have h := pw_get hP 72 (by omega)
  rw [E4_c (by omega) (eX8_at72 E1_0)] at h
  exact h
set_option maxRecDepth 100000 in
theorem wc_109 {D : va_G} {cy : Nat → ClassId} {sk sv st : Nat → Nat} {b : Nat} {H : Heap} (hP : va_P D vwCl (pw b 132 (E4 (D, cy, adC b, sk, sv, st) b)) H) : va_at D vwCl (adC b 109, cellC (D, cy, adC b, sk, sv, st) (σ0 109) 109) H := by
  have h := pw_get hP 73 (by omega)
  rw [E4_c (by omega) (eX8_at73 E1_0)] at h
  exact h
set_option maxRecDepth 100000 in
theorem wc_110 {D : va_G} {cy : Nat → ClassId} {sk sv st : Nat → Nat} {b : Nat} {H : Heap} (hP : va_P D vwCl (pw b 132 (E4 (D, cy, adC b, sk, sv, st) b)) H) : va_at D vwCl (adC b 110, cellC (D, cy, adC b, sk, sv, st) (σ0 110) 110) H := by
  have h := pw_get hP 74 (by omega)
  rw [E4_c (by omega) (eX8_at74 E1_0)] at h
  exact h
set_option maxRecDepth 100000 in
theorem wc_111 {D : va_G} {cy : Nat → ClassId} {sk sv st : Nat → Nat} {b : Nat} {H : Heap} (hP : va_P D vwCl (pw b 132 (E4 (D, cy, adC b, sk, sv, st) b)) H) : va_at D vwCl (adC b 111, cellC (D, cy, adC b, sk, sv, st) (σ0 111) 111) H := by
  have h := pw_get hP 75 (by omega)
  rw [E4_c (by omega) (eX8_at75 E1_0)] at h
  exact h
set_option maxRecDepth 100000 in
theorem wc_112 {D : va_G} {cy : Nat → ClassId} {sk sv st : Nat → Nat} {b : Nat} {H : Heap} (hP : va_P D vwCl (pw b 132 (E4 (D, cy, adC b, sk, sv, st) b)) H) : va_at D vwCl (adC b 112, cellC (D, cy, adC b, sk, sv, st) (σ0 112) 112) H := by
  have h := pw_get hP 76 (by omega)
  rw [E4_c (by omega) (eX8_at76 E1_0)] at h
  exact h
set_option maxRecDepth 100000 in
theorem wc_113 {D : va_G} {cy : Nat → ClassId} {sk sv st : Nat → Nat} {b : Nat} {H : Heap} (hP : va_P D vwCl (pw b 132 (E4 (D, cy, adC b, sk, sv, st) b)) H) : va_at D vwCl (adC b 113, cellC (D, cy, adC b, sk, sv, st) (σ0 113) 113) H := by
  have h := pw_get hP 77 (by omega)
  rw [E4_c (by omega) (eX8_at77 E1_0)] at h
  exact h
set_option maxRecDepth 100000 in
theorem wm_0 {D : va_G} {cy : Nat → ClassId} {sk sv st : Nat → Nat} {b : Nat} {H : Heap} (hP : va_P D vwCl (pw b 132 (E4 (D, cy, adC b, sk, sv, st) b)) H) : va_at D vwCl (adM b 0, cellM (D, cy, adM b, sk, sv, st) (τ0 0) 0) H := by
  have h := pw_get hP 114 (by omega)
  rw [show E4 (D, cy, adC b, sk, sv, st) b 114 = _ from eX9_at114 E3_0] at h
  exact h
set_option maxRecDepth 100000 in
theorem wm_1 {D : va_G} {cy : Nat → ClassId} {sk sv st : Nat → Nat} {b : Nat} {H : Heap} (hP : va_P D vwCl (pw b 132 (E4 (D, cy, adC b, sk, sv, st) b)) H) : va_at D vwCl (adM b 1, cellM (D, cy, adM b, sk, sv, st) (τ0 1) 1) H := by
  have h := pw_get hP 115 (by omega)
  rw [show E4 (D, cy, adC b, sk, sv, st) b 115 = _ from eX9_at115 E3_0] at h
  exact at_i h (fun i _ => rfl)
set_option maxRecDepth 100000 in
theorem wm_2 {D : va_G} {cy : Nat → ClassId} {sk sv st : Nat → Nat} {b : Nat} {H : Heap} (hP : va_P D vwCl (pw b 132 (E4 (D, cy, adC b, sk, sv, st) b)) H) : va_at D vwCl (adM b 2, cellM (D, cy, adM b, sk, sv, st) (τ0 2) 2) H := by
  have h := pw_get hP 116 (by omega)
  rw [show E4 (D, cy, adC b, sk, sv, st) b 116 = _ from eX9_at116 E3_0] at h
  exact at_i h (fun i _ => rfl)
set_option maxRecDepth 100000 in
theorem wm_3 {D : va_G} {cy : Nat → ClassId} {sk sv st : Nat → Nat} {b : Nat} {H : Heap} (hP : va_P D vwCl (pw b 132 (E4 (D, cy, adC b, sk, sv, st) b)) H) : va_at D vwCl (adM b 3, cellM (D, cy, adM b, sk, sv, st) (τ0 3) 3) H := by
  have h := pw_get hP 117 (by omega)
  rw [show E4 (D, cy, adC b, sk, sv, st) b 117 = _ from eX9_at117 E3_0] at h
  exact at_i h (fun i _ => rfl)
set_option maxRecDepth 100000 in
theorem wm_4 {D : va_G} {cy : Nat → ClassId} {sk sv st : Nat → Nat} {b : Nat} {H : Heap} (hP : va_P D vwCl (pw b 132 (E4 (D, cy, adC b, sk, sv, st) b)) H) : va_at D vwCl (adM b 4, cellM (D, cy, adM b, sk, sv, st) (τ0 4) 4) H := by
  have h := pw_get hP 118 (by omega)
  rw [show E4 (D, cy, adC b, sk, sv, st) b 118 = _ from eX9_at118 E3_0] at h
  exact at_i h (fun i _ => rfl)
set_option maxRecDepth 100000 in
theorem wm_5 {D : va_G} {cy : Nat → ClassId} {sk sv st : Nat → Nat} {b : Nat} {H : Heap} (hP : va_P D vwCl (pw b 132 (E4 (D, cy, adC b, sk, sv, st) b)) H) : va_at D vwCl (adM b 5, cellM (D, cy, adM b, sk, sv, st) (τ0 5) 5) H := by
  have h := pw_get hP 119 (by omega)
  rw [show E4 (D, cy, adC b, sk, sv, st) b 119 = _ from eX9_at119 E3_0] at h
  exact at_i h (fun i _ => rfl)
set_option maxRecDepth 100000 in
theorem wm_6 {D : va_G} {cy : Nat → ClassId} {sk sv st : Nat → Nat} {b : Nat} {H : Heap} (hP : va_P D vwCl (pw b 132 (E4 (D, cy, adC b, sk, sv, st) b)) H) : va_at D vwCl (adM b 6, cellM (D, cy, adM b, sk, sv, st) (τ0 6) 6) H := by
  have h := pw_get hP 120 (by omega)
  rw [show E4 (D, cy, adC b, sk, sv, st) b 120 = _ from eX9_at120 E3_0] at h
  exact at_q h (fun i hi => by
    match i, hi with
    | 0, _ => rfl
    | 1, _ => rfl
    | 2, _ => rfl
    | n + 3, hi => exact absurd hi (by omega))
set_option maxRecDepth 100000 in
theorem wm_7 {D : va_G} {cy : Nat → ClassId} {sk sv st : Nat → Nat} {b : Nat} {H : Heap} (hP : va_P D vwCl (pw b 132 (E4 (D, cy, adC b, sk, sv, st) b)) H) : va_at D vwCl (adM b 7, cellM (D, cy, adM b, sk, sv, st) (τ0 7) 7) H := by
  have h := pw_get hP 121 (by omega)
  rw [show E4 (D, cy, adC b, sk, sv, st) b 121 = _ from eX9_at121 E3_0] at h
  exact at_q h (fun i hi => by
    match i, hi with
    | 0, _ => rfl
    | 1, _ => rfl
    | 2, _ => rfl
    | n + 3, hi => exact absurd hi (by omega))
set_option maxRecDepth 100000 in
theorem wm_8 {D : va_G} {cy : Nat → ClassId} {sk sv st : Nat → Nat} {b : Nat} {H : Heap} (hP : va_P D vwCl (pw b 132 (E4 (D, cy, adC b, sk, sv, st) b)) H) : va_at D vwCl (adM b 8, cellM (D, cy, adM b, sk, sv, st) (τ0 8) 8) H := by
  have h := pw_get hP 122 (by omega)
  rw [show E4 (D, cy, adC b, sk, sv, st) b 122 = _ from eX9_at122 E3_0] at h
  exact at_i h (fun i _ => rfl)
set_option maxRecDepth 100000 in
theorem wm_9 {D : va_G} {cy : Nat → ClassId} {sk sv st : Nat → Nat} {b : Nat} {H : Heap} (hP : va_P D vwCl (pw b 132 (E4 (D, cy, adC b, sk, sv, st) b)) H) : va_at D vwCl (adM b 9, cellM (D, cy, adM b, sk, sv, st) (τ0 9) 9) H := by
  have h := pw_get hP 123 (by omega)
  rw [show E4 (D, cy, adC b, sk, sv, st) b 123 = _ from eX9_at123 E3_0] at h
  exact at_i h (fun i _ => rfl)
set_option maxRecDepth 100000 in
theorem wm_10 {D : va_G} {cy : Nat → ClassId} {sk sv st : Nat → Nat} {b : Nat} {H : Heap} (hP : va_P D vwCl (pw b 132 (E4 (D, cy, adC b, sk, sv, st) b)) H) : va_at D vwCl (adM b 10, cellM (D, cy, adM b, sk, sv, st) (τ0 10) 10) H := by
  have h := pw_get hP 124 (by omega)
  rw [show E4 (D, cy, adC b, sk, sv, st) b 124 = _ from eX9_at124 E3_0] at h
  exact at_i h (fun i _ => rfl)
set_option maxRecDepth 100000 in
theorem wm_11 {D : va_G} {cy : Nat → ClassId} {sk sv st : Nat → Nat} {b : Nat} {H : Heap} (hP : va_P D vwCl (pw b 132 (E4 (D, cy, adC b, sk, sv, st) b)) H) : va_at D vwCl (adM b 11, cellM (D, cy, adM b, sk, sv, st) (τ0 11) 11) H := by
  have h := pw_get hP 125 (by omega)
  rw [show E4 (D, cy, adC b, sk, sv, st) b 125 = _ from eX9_at125 E3_0] at h
  exact at_i h (fun i _ => rfl)
set_option maxRecDepth 100000 in
theorem wm_12 {D : va_G} {cy : Nat → ClassId} {sk sv st : Nat → Nat} {b : Nat} {H : Heap} (hP : va_P D vwCl (pw b 132 (E4 (D, cy, adC b, sk, sv, st) b)) H) : va_at D vwCl (adM b 12, cellM (D, cy, adM b, sk, sv, st) (τ0 12) 12) H := by
  have h := pw_get hP 126 (by omega)
  rw [show E4 (D, cy, adC b, sk, sv, st) b 126 = _ from eX9_at126 E3_0] at h
  exact at_i h (fun i _ => rfl)
set_option maxRecDepth 100000 in
theorem wm_13 {D : va_G} {cy : Nat → ClassId} {sk sv st : Nat → Nat} {b : Nat} {H : Heap} (hP : va_P D vwCl (pw b 132 (E4 (D, cy, adC b, sk, sv, st) b)) H) : va_at D vwCl (adM b 13, cellM (D, cy, adM b, sk, sv, st) (τ0 13) 13) H := by
  have h := pw_get hP 127 (by omega)
  rw [show E4 (D, cy, adC b, sk, sv, st) b 127 = _ from eX9_at127 E3_0] at h
  exact at_i h (fun i _ => rfl)
set_option maxRecDepth 100000 in
theorem wm_14 {D : va_G} {cy : Nat → ClassId} {sk sv st : Nat → Nat} {b : Nat} {H : Heap} (hP : va_P D vwCl (pw b 132 (E4 (D, cy, adC b, sk, sv, st) b)) H) : va_at D vwCl (adM b 14, cellM (D, cy, adM b, sk, sv, st) (τ0 14) 14) H := by
  have h := pw_get hP 128 (by omega)
  rw [show E4 (D, cy, adC b, sk, sv, st) b 128 = _ from eX9_at128 E3_0] at h
  exact at_i h (fun i _ => rfl)
set_option maxRecDepth 100000 in
theorem wm_15 {D : va_G} {cy : Nat → ClassId} {sk sv st : Nat → Nat} {b : Nat} {H : Heap} (hP : va_P D vwCl (pw b 132 (E4 (D, cy, adC b, sk, sv, st) b)) H) : va_at D vwCl (adM b 15, cellM (D, cy, adM b, sk, sv, st) (τ0 15) 15) H := by
  have h := pw_get hP 129 (by omega)
  rw [show E4 (D, cy, adC b, sk, sv, st) b 129 = _ from eX9_at129 E3_0] at h
  exact at_i h (fun i _ => rfl)
set_option maxRecDepth 100000 in
theorem wm_16 {D : va_G} {cy : Nat → ClassId} {sk sv st : Nat → Nat} {b : Nat} {H : Heap} (hP : va_P D vwCl (pw b 132 (E4 (D, cy, adC b, sk, sv, st) b)) H) : va_at D vwCl (adM b 16, cellM (D, cy, adM b, sk, sv, st) (τ0 16) 16) H := by
  have h := pw_get hP 130 (by omega)
  rw [show E4 (D, cy, adC b, sk, sv, st) b 130 = _ from eX9_at130 E3_0] at h
  exact at_i h (fun i _ => rfl)
set_option maxRecDepth 100000 in
theorem wm_17 {D : va_G} {cy : Nat → ClassId} {sk sv st : Nat → Nat} {b : Nat} {H : Heap} (hP : va_P D vwCl (pw b 132 (E4 (D, cy, adC b, sk, sv, st) b)) H) : va_at D vwCl (adM b 17, cellM (D, cy, adM b, sk, sv, st) (τ0 17) 17) H := by
  have h := pw_get hP 131 (by omega)
  rw [show E4 (D, cy, adC b, sk, sv, st) b 131 = _ from eX9_at131 E3_0] at h
  exact at_i h (fun i _ => rfl)
theorem w_cls {D : va_G} {cy : Nat → ClassId} {sk sv st : Nat → Nat} {b : Nat} {H : Heap} (hP : va_P D vwCl (pw b 132 (E4 (D, cy, adC b, sk, sv, st) b)) H) : va_P D vwCl (wd wCls (D, cy, adC b, sk, sv, st) σ0) H := by
  intro k q hq
  obtain ⟨hj, rfl⟩ := wd_inv hq
  generalize k = j at hj
  have hj : j < 114 := hj
  show va_at D vwCl (adC b j, cellC (D, cy, adC b, sk, sv, st) (σ0 j) j) H
  rcases Nat.lt_or_ge j 57 with h57 | h57
  · rcases Nat.lt_or_ge j 28 with h28 | h28
    · rcases Nat.lt_or_ge j 14 with h14 | h14
      · rcases Nat.lt_or_ge j 7 with h7 | h7
        · rcases Nat.lt_or_ge j 3 with h3 | h3
          · rcases Nat.lt_or_ge j 1 with h1 | h1
            · obtain rfl : j = 0 := by omega
              exact wc_0 hP
            · rcases Nat.lt_or_ge j 2 with h2 | h2
              · obtain rfl : j = 1 := by omega
                exact wc_1 hP
              · obtain rfl : j = 2 := by omega
                exact wc_2 hP
          · rcases Nat.lt_or_ge j 5 with h5 | h5
            · rcases Nat.lt_or_ge j 4 with h4 | h4
              · obtain rfl : j = 3 := by omega
                exact wc_3 hP
              · obtain rfl : j = 4 := by omega
                exact wc_4 hP
            · rcases Nat.lt_or_ge j 6 with h6 | h6
              · obtain rfl : j = 5 := by omega
                exact wc_5 hP
              · obtain rfl : j = 6 := by omega
                exact wc_6 hP
        · rcases Nat.lt_or_ge j 10 with h10 | h10
          · rcases Nat.lt_or_ge j 8 with h8 | h8
            · obtain rfl : j = 7 := by omega
              exact wc_7 hP
            · rcases Nat.lt_or_ge j 9 with h9 | h9
              · obtain rfl : j = 8 := by omega
                exact wc_8 hP
              · obtain rfl : j = 9 := by omega
                exact wc_9 hP
          · rcases Nat.lt_or_ge j 12 with h12 | h12
            · rcases Nat.lt_or_ge j 11 with h11 | h11
              · obtain rfl : j = 10 := by omega
                exact wc_10 hP
              · obtain rfl : j = 11 := by omega
                exact wc_11 hP
            · rcases Nat.lt_or_ge j 13 with h13 | h13
              · obtain rfl : j = 12 := by omega
                exact wc_12 hP
              · obtain rfl : j = 13 := by omega
                exact wc_13 hP
      · rcases Nat.lt_or_ge j 21 with h21 | h21
        · rcases Nat.lt_or_ge j 17 with h17 | h17
          · rcases Nat.lt_or_ge j 15 with h15 | h15
            · obtain rfl : j = 14 := by omega
              exact wc_14 hP
            · rcases Nat.lt_or_ge j 16 with h16 | h16
              · obtain rfl : j = 15 := by omega
                exact wc_15 hP
              · obtain rfl : j = 16 := by omega
                exact wc_16 hP
          · rcases Nat.lt_or_ge j 19 with h19 | h19
            · rcases Nat.lt_or_ge j 18 with h18 | h18
              · obtain rfl : j = 17 := by omega
                exact wc_17 hP
              · obtain rfl : j = 18 := by omega
                exact wc_18 hP
            · rcases Nat.lt_or_ge j 20 with h20 | h20
              · obtain rfl : j = 19 := by omega
                exact wc_19 hP
              · obtain rfl : j = 20 := by omega
                exact wc_20 hP
        · rcases Nat.lt_or_ge j 24 with h24 | h24
          · rcases Nat.lt_or_ge j 22 with h22 | h22
            · obtain rfl : j = 21 := by omega
              exact wc_21 hP
            · rcases Nat.lt_or_ge j 23 with h23 | h23
              · obtain rfl : j = 22 := by omega
                exact wc_22 hP
              · obtain rfl : j = 23 := by omega
                exact wc_23 hP
          · rcases Nat.lt_or_ge j 26 with h26 | h26
            · rcases Nat.lt_or_ge j 25 with h25 | h25
              · obtain rfl : j = 24 := by omega
                exact wc_24 hP
              · obtain rfl : j = 25 := by omega
                exact wc_25 hP
            · rcases Nat.lt_or_ge j 27 with h27 | h27
              · obtain rfl : j = 26 := by omega
                exact wc_26 hP
              · obtain rfl : j = 27 := by omega
                exact wc_27 hP
    · rcases Nat.lt_or_ge j 42 with h42 | h42
      · rcases Nat.lt_or_ge j 35 with h35 | h35
        · rcases Nat.lt_or_ge j 31 with h31 | h31
          · rcases Nat.lt_or_ge j 29 with h29 | h29
            · obtain rfl : j = 28 := by omega
              exact wc_28 hP
            · rcases Nat.lt_or_ge j 30 with h30 | h30
              · obtain rfl : j = 29 := by omega
                exact wc_29 hP
              · obtain rfl : j = 30 := by omega
                exact wc_30 hP
          · rcases Nat.lt_or_ge j 33 with h33 | h33
            · rcases Nat.lt_or_ge j 32 with h32 | h32
              · obtain rfl : j = 31 := by omega
                exact wc_31 hP
              · obtain rfl : j = 32 := by omega
                exact wc_32 hP
            · rcases Nat.lt_or_ge j 34 with h34 | h34
              · obtain rfl : j = 33 := by omega
                exact wc_33 hP
              · obtain rfl : j = 34 := by omega
                exact wc_34 hP
        · rcases Nat.lt_or_ge j 38 with h38 | h38
          · rcases Nat.lt_or_ge j 36 with h36 | h36
            · obtain rfl : j = 35 := by omega
              exact wc_35 hP
            · rcases Nat.lt_or_ge j 37 with h37 | h37
              · obtain rfl : j = 36 := by omega
                exact wc_36 hP
              · obtain rfl : j = 37 := by omega
                exact wc_37 hP
          · rcases Nat.lt_or_ge j 40 with h40 | h40
            · rcases Nat.lt_or_ge j 39 with h39 | h39
              · obtain rfl : j = 38 := by omega
                exact wc_38 hP
              · obtain rfl : j = 39 := by omega
                exact wc_39 hP
            · rcases Nat.lt_or_ge j 41 with h41 | h41
              · obtain rfl : j = 40 := by omega
                exact wc_40 hP
              · obtain rfl : j = 41 := by omega
                exact wc_41 hP
      · rcases Nat.lt_or_ge j 49 with h49 | h49
        · rcases Nat.lt_or_ge j 45 with h45 | h45
          · rcases Nat.lt_or_ge j 43 with h43 | h43
            · obtain rfl : j = 42 := by omega
              exact wc_42 hP
            · rcases Nat.lt_or_ge j 44 with h44 | h44
              · obtain rfl : j = 43 := by omega
                exact wc_43 hP
              · obtain rfl : j = 44 := by omega
                exact wc_44 hP
          · rcases Nat.lt_or_ge j 47 with h47 | h47
            · rcases Nat.lt_or_ge j 46 with h46 | h46
              · obtain rfl : j = 45 := by omega
                exact wc_45 hP
              · obtain rfl : j = 46 := by omega
                exact wc_46 hP
            · rcases Nat.lt_or_ge j 48 with h48 | h48
              · obtain rfl : j = 47 := by omega
                exact wc_47 hP
              · obtain rfl : j = 48 := by omega
                exact wc_48 hP
        · rcases Nat.lt_or_ge j 53 with h53 | h53
          · rcases Nat.lt_or_ge j 51 with h51 | h51
            · rcases Nat.lt_or_ge j 50 with h50 | h50
              · obtain rfl : j = 49 := by omega
                exact wc_49 hP
              · obtain rfl : j = 50 := by omega
                exact wc_50 hP
            · rcases Nat.lt_or_ge j 52 with h52 | h52
              · obtain rfl : j = 51 := by omega
                exact wc_51 hP
              · obtain rfl : j = 52 := by omega
                exact wc_52 hP
          · rcases Nat.lt_or_ge j 55 with h55 | h55
            · rcases Nat.lt_or_ge j 54 with h54 | h54
              · obtain rfl : j = 53 := by omega
                exact wc_53 hP
              · obtain rfl : j = 54 := by omega
                exact wc_54 hP
            · rcases Nat.lt_or_ge j 56 with h56 | h56
              · obtain rfl : j = 55 := by omega
                exact wc_55 hP
              · obtain rfl : j = 56 := by omega
                exact wc_56 hP
  · rcases Nat.lt_or_ge j 85 with h85 | h85
    · rcases Nat.lt_or_ge j 71 with h71 | h71
      · rcases Nat.lt_or_ge j 64 with h64 | h64
        · rcases Nat.lt_or_ge j 60 with h60 | h60
          · rcases Nat.lt_or_ge j 58 with h58 | h58
            · obtain rfl : j = 57 := by omega
              exact wc_57 hP
            · rcases Nat.lt_or_ge j 59 with h59 | h59
              · obtain rfl : j = 58 := by omega
                exact wc_58 hP
              · obtain rfl : j = 59 := by omega
                exact wc_59 hP
          · rcases Nat.lt_or_ge j 62 with h62 | h62
            · rcases Nat.lt_or_ge j 61 with h61 | h61
              · obtain rfl : j = 60 := by omega
                exact wc_60 hP
              · obtain rfl : j = 61 := by omega
                exact wc_61 hP
            · rcases Nat.lt_or_ge j 63 with h63 | h63
              · obtain rfl : j = 62 := by omega
                exact wc_62 hP
              · obtain rfl : j = 63 := by omega
                exact wc_63 hP
        · rcases Nat.lt_or_ge j 67 with h67 | h67
          · rcases Nat.lt_or_ge j 65 with h65 | h65
            · obtain rfl : j = 64 := by omega
              exact wc_64 hP
            · rcases Nat.lt_or_ge j 66 with h66 | h66
              · obtain rfl : j = 65 := by omega
                exact wc_65 hP
              · obtain rfl : j = 66 := by omega
                exact wc_66 hP
          · rcases Nat.lt_or_ge j 69 with h69 | h69
            · rcases Nat.lt_or_ge j 68 with h68 | h68
              · obtain rfl : j = 67 := by omega
                exact wc_67 hP
              · obtain rfl : j = 68 := by omega
                exact wc_68 hP
            · rcases Nat.lt_or_ge j 70 with h70 | h70
              · obtain rfl : j = 69 := by omega
                exact wc_69 hP
              · obtain rfl : j = 70 := by omega
                exact wc_70 hP
      · rcases Nat.lt_or_ge j 78 with h78 | h78
        · rcases Nat.lt_or_ge j 74 with h74 | h74
          · rcases Nat.lt_or_ge j 72 with h72 | h72
            · obtain rfl : j = 71 := by omega
              exact wc_71 hP
            · rcases Nat.lt_or_ge j 73 with h73 | h73
              · obtain rfl : j = 72 := by omega
                exact wc_72 hP
              · obtain rfl : j = 73 := by omega
                exact wc_73 hP
          · rcases Nat.lt_or_ge j 76 with h76 | h76
            · rcases Nat.lt_or_ge j 75 with h75 | h75
              · obtain rfl : j = 74 := by omega
                exact wc_74 hP
              · obtain rfl : j = 75 := by omega
                exact wc_75 hP
            · rcases Nat.lt_or_ge j 77 with h77 | h77
              · obtain rfl : j = 76 := by omega
                exact wc_76 hP
              · obtain rfl : j = 77 := by omega
                exact wc_77 hP
        · rcases Nat.lt_or_ge j 81 with h81 | h81
          · rcases Nat.lt_or_ge j 79 with h79 | h79
            · obtain rfl : j = 78 := by omega
              exact wc_78 hP
            · rcases Nat.lt_or_ge j 80 with h80 | h80
              · obtain rfl : j = 79 := by omega
                exact wc_79 hP
              · obtain rfl : j = 80 := by omega
                exact wc_80 hP
          · rcases Nat.lt_or_ge j 83 with h83 | h83
            · rcases Nat.lt_or_ge j 82 with h82 | h82
              · obtain rfl : j = 81 := by omega
                exact wc_81 hP
              · obtain rfl : j = 82 := by omega
                exact wc_82 hP
            · rcases Nat.lt_or_ge j 84 with h84 | h84
              · obtain rfl : j = 83 := by omega
                exact wc_83 hP
              · obtain rfl : j = 84 := by omega
                exact wc_84 hP
    · rcases Nat.lt_or_ge j 99 with h99 | h99
      · rcases Nat.lt_or_ge j 92 with h92 | h92
        · rcases Nat.lt_or_ge j 88 with h88 | h88
          · rcases Nat.lt_or_ge j 86 with h86 | h86
            · obtain rfl : j = 85 := by omega
              exact wc_85 hP
            · rcases Nat.lt_or_ge j 87 with h87 | h87
              · obtain rfl : j = 86 := by omega
                exact wc_86 hP
              · obtain rfl : j = 87 := by omega
                exact wc_87 hP
          · rcases Nat.lt_or_ge j 90 with h90 | h90
            · rcases Nat.lt_or_ge j 89 with h89 | h89
              · obtain rfl : j = 88 := by omega
                exact wc_88 hP
              · obtain rfl : j = 89 := by omega
                exact wc_89 hP
            · rcases Nat.lt_or_ge j 91 with h91 | h91
              · obtain rfl : j = 90 := by omega
                exact wc_90 hP
              · obtain rfl : j = 91 := by omega
                exact wc_91 hP
        · rcases Nat.lt_or_ge j 95 with h95 | h95
          · rcases Nat.lt_or_ge j 93 with h93 | h93
            · obtain rfl : j = 92 := by omega
              exact wc_92 hP
            · rcases Nat.lt_or_ge j 94 with h94 | h94
              · obtain rfl : j = 93 := by omega
                exact wc_93 hP
              · obtain rfl : j = 94 := by omega
                exact wc_94 hP
          · rcases Nat.lt_or_ge j 97 with h97 | h97
            · rcases Nat.lt_or_ge j 96 with h96 | h96
              · obtain rfl : j = 95 := by omega
                exact wc_95 hP
              · obtain rfl : j = 96 := by omega
                exact wc_96 hP
            · rcases Nat.lt_or_ge j 98 with h98 | h98
              · obtain rfl : j = 97 := by omega
                exact wc_97 hP
              · obtain rfl : j = 98 := by omega
                exact wc_98 hP
      · rcases Nat.lt_or_ge j 106 with h106 | h106
        · rcases Nat.lt_or_ge j 102 with h102 | h102
          · rcases Nat.lt_or_ge j 100 with h100 | h100
            · obtain rfl : j = 99 := by omega
              exact wc_99 hP
            · rcases Nat.lt_or_ge j 101 with h101 | h101
              · obtain rfl : j = 100 := by omega
                exact wc_100 hP
              · obtain rfl : j = 101 := by omega
                exact wc_101 hP
          · rcases Nat.lt_or_ge j 104 with h104 | h104
            · rcases Nat.lt_or_ge j 103 with h103 | h103
              · obtain rfl : j = 102 := by omega
                exact wc_102 hP
              · obtain rfl : j = 103 := by omega
                exact wc_103 hP
            · rcases Nat.lt_or_ge j 105 with h105 | h105
              · obtain rfl : j = 104 := by omega
                exact wc_104 hP
              · obtain rfl : j = 105 := by omega
                exact wc_105 hP
        · rcases Nat.lt_or_ge j 110 with h110 | h110
          · rcases Nat.lt_or_ge j 108 with h108 | h108
            · rcases Nat.lt_or_ge j 107 with h107 | h107
              · obtain rfl : j = 106 := by omega
                exact wc_106 hP
              · obtain rfl : j = 107 := by omega
                exact wc_107 hP
            · rcases Nat.lt_or_ge j 109 with h109 | h109
              · obtain rfl : j = 108 := by omega
                exact wc_108 hP
              · obtain rfl : j = 109 := by omega
                exact wc_109 hP
          · rcases Nat.lt_or_ge j 112 with h112 | h112
            · rcases Nat.lt_or_ge j 111 with h111 | h111
              · obtain rfl : j = 110 := by omega
                exact wc_110 hP
              · obtain rfl : j = 111 := by omega
                exact wc_111 hP
            · rcases Nat.lt_or_ge j 113 with h113 | h113
              · obtain rfl : j = 112 := by omega
                exact wc_112 hP
              · obtain rfl : j = 113 := by omega
                exact wc_113 hP
theorem w_mod {D : va_G} {cy : Nat → ClassId} {sk sv st : Nat → Nat} {b : Nat} {H : Heap} (hP : va_P D vwCl (pw b 132 (E4 (D, cy, adC b, sk, sv, st) b)) H) : va_P D vwCl (wd wMod (D, cy, adM b, sk, sv, st) τ0) H := by
  intro k q hq
  obtain ⟨hj, rfl⟩ := wd_inv hq
  generalize k = j at hj
  have hj : j < 18 := hj
  show va_at D vwCl (adM b j, cellM (D, cy, adM b, sk, sv, st) (τ0 j) j) H
  rcases Nat.lt_or_ge j 9 with h9 | h9
  · rcases Nat.lt_or_ge j 4 with h4 | h4
    · rcases Nat.lt_or_ge j 2 with h2 | h2
      · rcases Nat.lt_or_ge j 1 with h1 | h1
        · obtain rfl : j = 0 := by omega
          exact wm_0 hP
        · obtain rfl : j = 1 := by omega
          exact wm_1 hP
      · rcases Nat.lt_or_ge j 3 with h3 | h3
        · obtain rfl : j = 2 := by omega
          exact wm_2 hP
        · obtain rfl : j = 3 := by omega
          exact wm_3 hP
    · rcases Nat.lt_or_ge j 6 with h6 | h6
      · rcases Nat.lt_or_ge j 5 with h5 | h5
        · obtain rfl : j = 4 := by omega
          exact wm_4 hP
        · obtain rfl : j = 5 := by omega
          exact wm_5 hP
      · rcases Nat.lt_or_ge j 7 with h7 | h7
        · obtain rfl : j = 6 := by omega
          exact wm_6 hP
        · rcases Nat.lt_or_ge j 8 with h8 | h8
          · obtain rfl : j = 7 := by omega
            exact wm_7 hP
          · obtain rfl : j = 8 := by omega
            exact wm_8 hP
  · rcases Nat.lt_or_ge j 13 with h13 | h13
    · rcases Nat.lt_or_ge j 11 with h11 | h11
      · rcases Nat.lt_or_ge j 10 with h10 | h10
        · obtain rfl : j = 9 := by omega
          exact wm_9 hP
        · obtain rfl : j = 10 := by omega
          exact wm_10 hP
      · rcases Nat.lt_or_ge j 12 with h12 | h12
        · obtain rfl : j = 11 := by omega
          exact wm_11 hP
        · obtain rfl : j = 12 := by omega
          exact wm_12 hP
    · rcases Nat.lt_or_ge j 15 with h15 | h15
      · rcases Nat.lt_or_ge j 14 with h14 | h14
        · obtain rfl : j = 13 := by omega
          exact wm_13 hP
        · obtain rfl : j = 14 := by omega
          exact wm_14 hP
      · rcases Nat.lt_or_ge j 16 with h16 | h16
        · obtain rfl : j = 15 := by omega
          exact wm_15 hP
        · rcases Nat.lt_or_ge j 17 with h17 | h17
          · obtain rfl : j = 16 := by omega
            exact wm_16 hP
          · obtain rfl : j = 17 := by omega
            exact wm_17 hP
