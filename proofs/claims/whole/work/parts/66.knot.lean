/-! the whole expression -/
theorem cls_lev (N l : Nat) (hl : l < 5) (b n : Int32) : (fX2_knot (N + 1)).1 (nI l) b n = fun σ => sbd ((fX2_knot N).1 (nI l + 1) b n σ) fun s2 => fX2_expression_L37 (fX2_knot N).1 (nI l) b n (if l = 2 then 1 else 96) FU 0 s2 := by
  funext σ
  show fX2_expression_B (fX2_knot N).1 (fX2_knot N).2 (nI l) b n σ = _
  unfold fX2_expression_B
  rw [if_pos (show nI l < (5 : Int32) from (nI_lt hl (by omega) : nI l < nI 5))]
  by_cases h2 : l = 2
  · subst h2
    rw [if_pos rfl]
    cases (fX2_knot N).1 (nI 2 + 1) b n σ with
    | none => rfl
    | some s2 => rw [sbd_e, sbd_e, sjn_e, if_neg (show ¬ ¬ nI 2 = 2 by decide)]
  · rw [if_neg h2]
    cases (fX2_knot N).1 (nI l + 1) b n σ with
    | none => rfl
    | some s2 => rw [sbd_e, sbd_e, sjn_e, if_pos (show ¬ nI l = 2 from fun z => h2 (nI_inj (b := 2) (by omega) (by omega) z))]
theorem cls_5 (N : Nat) (b n : Int32) : (fX2_knot (N + 1)).1 (nI 5) b n = (fX2_knot N).2 b n := by
  funext σ
  show fX2_expression_B (fX2_knot N).1 (fX2_knot N).2 (nI 5) b n σ = _
  unfold fX2_expression_B
  rw [if_neg (by decide), some_e]
theorem knot_sim {L ky : Nat} {c : Nat → Nat} : ∀ N : Nat,
    (∀ l b n M, l ≤ 5 → b ≤ 8 → n ≤ 8 → 7 * (8 - b) + (8 - n) + 7 - l ≤ N → 6 * (9 - b) + (8 - n) + 6 - l ≤ M → Lev L ky c b n ((fX2_knot N).1 (nI l) (nI b) (nI n)) (rdK M l)) ∧
    (∀ b n M, b ≤ 8 → n ≤ 8 → 7 * (8 - b) + (8 - n) + 1 ≤ N → 6 * (9 - b) + (8 - n) + 1 ≤ M → Lev L ky c b n ((fX2_knot N).2 (nI b) (nI n)) (rdK M 5)) := by
  intro N
  induction N with
  | zero => exact ⟨fun l b n M h1 h2 h3 h4 h5 => by omega, fun b n M h2 h3 h4 h5 => by omega⟩
  | succ N ih =>
    obtain ⟨iE, iP⟩ := ih
    refine ⟨fun l b n M h1 h2 h3 h4 h5 => ?_, fun b n M h2 h3 h4 h5 => ?_⟩
    · by_cases hl5 : l = 5
      · subst hl5
        rw [cls_5]
        exact iP b n M h2 h3 (by omega) (by omega)
      · obtain ⟨M, rfl⟩ : ∃ k, M = k + 1 := ⟨M - 1, by omega⟩
        have ih := iE (l + 1) b n M (by omega) h2 h3 (by omega) (by omega)
        rw [cls_lev N l (by omega)]
        rw [← nI_1] at ih
        have : l = 0 ∨ l = 1 ∨ l = 2 ∨ l = 3 ∨ l = 4 := by omega
        rcases this with rfl | rfl | rfl | rfl | rfl
        · exact lev_up (by omega) ml_0 ih
        · exact lev_up (by omega) ml_1 ih
        · exact lev_2 ih
        · exact lev_up (by omega) ml_3 ih
        · exact lev_up (by omega) ml_4 ih
    · obtain ⟨M, rfl⟩ : ∃ k, M = k + 1 := ⟨M - 1, by omega⟩
      exact piece_sim h2 h3 (fun hn => iP b (n + 1) M h2 (by omega) (by omega) (by omega)) (fun hb => iE 0 (b + 1) n M (by omega) (by omega) h3 (by omega) (by omega)) (fun _ => by omega) (fun _ => by omega)
theorem expr_sim {L ky : Nat} {c : Nat → Nat} : Lev L ky c 0 0 (fX2_expression 0 0 0) fX9_readOr := (knot_sim 100).1 0 0 0 100 (by omega) (by omega) (by omega) (by omega) (by omega)
