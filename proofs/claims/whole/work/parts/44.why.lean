/-! ===== who is a task; places; why ===== -/
theorem zR_small {z : Int} (h1 : -1000000 ≤ z) (h2 : z ≤ 1000000) : zR z := by unfold zR; omega
theorem in01 {x : Int32} : (x < 0 ∨ 1 < x) ↔ ¬ (x = 0 ∨ x = 1) := by
  obtain ⟨z, rfl, hz⟩ := zI_x x
  have r0 : zR 0 := zR_small (by omega) (by omega)
  have r1 : zR 1 := zR_small (by omega) (by omega)
  rw [z_0, z_1, zI_lt hz r0, zI_lt r1 hz, zI_eq hz r0, zI_eq hz r1]
  omega
theorem is01 {x : Int32} (h : x = 0 ∨ x = 1) : ∃ s : Nat, s < 2 ∧ x = zI s := by
  rcases h with rfl | rfl
  · exact ⟨0, by omega, z_0⟩
  · exact ⟨1, by omega, z_1⟩
theorem has_0 {μ : wd_Mem} {h n : Nat} (hn : n ≤ 5) (e : μ h 1 = zI n) {z : Int} (hz : zR z) : X4_has h μ (zI z) = 0 ↔ ¬ (0 ≤ z ∧ z < n) := by
  unfold X4_has X4_has_b0 X4_has_b16
  have r0 : zR 0 := zR_small (by omega) (by omega)
  have rn : zR (n : Int) := zR_small (by omega) (by omega)
  rw [e, z_0]
  simp only [zI_lt hz r0, zI_le rn hz]
  by_cases h1 : z < 0
  · simp only [h1, if_true, true_iff]; omega
  · by_cases h2 : (n : Int) ≤ z
    · simp only [h1, h2, if_false, if_true, true_iff]; omega
    · simp only [h1, h2, if_false]
      constructor
      · intro h; exact absurd h (by decide)
      · intro h; omega
theorem isTask_eq {μ : wd_Mem} {n : Nat} (hn : n ≤ 5) (e : μ 31 0 = zI n) {z : Int} (hz : zR z) : X8_isTask μ (zI z) = some (if 0 ≤ z ∧ z < n then 1 else 0) := by
  unfold X8_isTask X8_isTask_b0
  have r0 : zR 0 := zR_small (by omega) (by omega)
  have rn : zR ((n : Int) - 1) := zR_small (by omega) (by omega)
  have e1 : X8_in μ (zI z) 0 (μ 31 0 - 1) = if 0 ≤ z ∧ z < n then 1 else 0 := by
    rw [X8_in_eq, e, z_0, z_1, zI_sub]
    simp only [zI_lt hz r0, zI_lt rn hz]
    by_cases h1 : 0 ≤ z ∧ z < n
    · rw [if_pos h1, if_neg (by omega)]
    · rw [if_neg h1, if_pos (by omega)]
  rw [e1]
  refine wd_chk_t ?_ _
  by_cases h1 : 0 ≤ z ∧ z < n
  · rw [if_pos h1]; decide
  · rw [if_neg h1]; decide
theorem placeOf_eq (μ : wd_Mem) (i s : Int) : X6_placeOf μ (zI i) (zI s) = zI (s * 5 + i) := by
  unfold X6_placeOf X6_placeOf_b0
  rw [z_5, zI_mul, zI_add]
theorem edge_eq {μ : wd_Mem} {h i s : Nat} (hi : i < 5) (hs : s < 2) : X6_edge h μ (zI i) (zI s) = some (μ (h + 1) (5 * s + i)) := by
  unfold X6_edge X6_edge_b0
  rw [placeOf_eq, wd_chk_in (by omega) (by omega) (by omega), zI_cl (by omega) (by omega)]
  congr 2
  omega
theorem ruleOf_eq {μ : wd_Mem} {h i s : Nat} (hi : i < 5) (hs : s < 2) : X6_ruleOf h μ (zI i) (zI s) = some (μ (h + 2) (5 * s + i)) := by
  unfold X6_ruleOf X6_ruleOf_b0
  rw [placeOf_eq, wd_chk_in (by omega) (by omega) (by omega), zI_cl (by omega) (by omega)]
  congr 2
  omega
theorem causeOf_eq {μ : wd_Mem} {h i s : Nat} (hi : i < 5) (hs : s < 2) : X6_causeOf h μ (zI i) (zI s) = some (μ (h + 3) (5 * s + i)) := by
  unfold X6_causeOf X6_causeOf_b0
  rw [placeOf_eq, wd_chk_in (by omega) (by omega) (by omega), zI_cl (by omega) (by omega)]
  congr 2
  omega
theorem wdW_rule {μ : wd_Mem} {n h hm off i s : Nat} (w : wdW μ n h hm off) (hi : i < n) (hs : s < 2) : μ (h + 2) (5 * s + i) = μ hm (off + 10 + (5 * s + i)) ∧ μ (h + 3) (5 * s + i) = μ hm (off + 20 + (5 * s + i)) := by
  obtain ⟨-, a, b, c, d⟩ := w i hi
  rcases (show s = 0 ∨ s = 1 by omega) with rfl | rfl
  · exact ⟨by simpa using a, by simpa using c⟩
  · refine ⟨b.trans ?_, d.trans ?_⟩
    · congr 1; omega
    · congr 1; omega
theorem op_why (μ : wd_Mem) (x1 x2 x3 : Int32) (h : wd_rel μ) : ∃ r : Int32, X7_why μ x1 x2 x3 = some r ∧ X8_why μ x1 x2 x3 = some r := by
  obtain ⟨-, -, -, n, ⟨hn, e1, e2, -⟩, hW, -, -⟩ := h
  obtain ⟨z, rfl, hz⟩ := zI_x x1
  unfold X7_why X7_why_b0 X7_why_b25 X8_why X8_why_b0 X8_why_b26
  rw [isTask_eq hn e2 hz]
  simp only [Option.bind_some, has_0 hn e1 hz, X7_z01_0, X8_in_0, in01]
  by_cases hi : 0 ≤ z ∧ z < n
  · have k10 : ¬ ((1 : Int32) = 0) := by decide
    simp only [hi, and_self, not_true, if_false, if_true, k10]
    by_cases h2 : x2 = 0 ∨ x2 = 1
    · simp only [h2, not_true, if_false]
      by_cases h3 : x3 = 0 ∨ x3 = 1
      · simp only [h3, not_true, if_false]
        obtain ⟨s, hs, rfl⟩ := is01 h2
        obtain ⟨i, rfl⟩ := Int.eq_ofNat_of_zero_le hi.1
        have w := wdW_rule hW (i := i) (s := s) (by omega) hs
        by_cases h30 : x3 = 0
        · simp only [h30, if_true]
          rw [ruleOf_eq (by omega) hs]
          refine ⟨_, rfl, ?_⟩
          unfold X8_why_b43
          rw [z_10, z_5, zI_mul, zI_add, zI_add, wd_chk_in (by omega) (by omega) (by omega), zI_cl (by omega) (by omega), w.1]
          congr 2
          omega
        · simp only [h30, if_false]
          rw [causeOf_eq (by omega) hs]
          refine ⟨_, rfl, ?_⟩
          unfold X8_why_b43
          rw [z_20, z_5, zI_mul, zI_add, zI_add, wd_chk_in (by omega) (by omega) (by omega), zI_cl (by omega) (by omega), w.2]
          congr 2
          omega
      · simp only [h3, not_false_eq_true, if_true]
        exact ⟨_, rfl, rfl⟩
    · simp only [h2, not_false_eq_true, if_true]
      exact ⟨_, rfl, rfl⟩
  · simp only [hi, not_false_eq_true, if_true, if_false]
    exact ⟨_, rfl, rfl⟩
