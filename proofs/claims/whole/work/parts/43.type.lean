/-! ===== numerals ===== -/
theorem z_0 : (0 : Int32) = zI 0 := zI_lit 0
theorem z_1 : (1 : Int32) = zI 1 := zI_lit 1
theorem z_2 : (2 : Int32) = zI 2 := zI_lit 2
theorem z_3 : (3 : Int32) = zI 3 := zI_lit 3
theorem z_4 : (4 : Int32) = zI 4 := zI_lit 4
theorem z_5 : (5 : Int32) = zI 5 := zI_lit 5
theorem z_9 : (9 : Int32) = zI 9 := zI_lit 9
theorem z_10 : (10 : Int32) = zI 10 := zI_lit 10
theorem z_15 : (15 : Int32) = zI 15 := zI_lit 15
theorem z_16 : (16 : Int32) = zI 16 := zI_lit 16
theorem z_20 : (20 : Int32) = zI 20 := zI_lit 20
theorem z_30 : (30 : Int32) = zI 30 := zI_lit 30
theorem z_31 : (31 : Int32) = zI 31 := zI_lit 31
theorem z_32 : (32 : Int32) = zI 32 := zI_lit 32
theorem z_48 : (48 : Int32) = zI 48 := zI_lit 48
theorem z_57 : (57 : Int32) = zI 57 := zI_lit 57
theorem z_59 : (59 : Int32) = zI 59 := zI_lit 59
theorem z_99 : (99 : Int32) = zI 99 := zI_lit 99
theorem z_100 : (100 : Int32) = zI 100 := zI_lit 100
theorem z_116 : (116 : Int32) = zI 116 := zI_lit 116
theorem z_255 : (255 : Int32) = zI 255 := zI_lit 255
theorem z_300 : (300 : Int32) = zI 300 := zI_lit 300
theorem z_1000 : (1000 : Int32) = zI 1000 := zI_lit 1000
theorem z_9999 : (9999 : Int32) = zI 9999 := zI_lit 9999
theorem z_m1 : (-1 : Int32) = zI (-1) := by decide
theorem z_m2 : (-2 : Int32) = zI (-2) := by decide
theorem z_m3 : (-3 : Int32) = zI (-3) := by decide
theorem z_m9 : (-9 : Int32) = zI (-9) := by decide
theorem z_m10 : (-10 : Int32) = zI (-10) := by decide
theorem z_m99 : (-99 : Int32) = zI (-99) := by decide
theorem rel_text {μ ν : wd_Mem} (h : wd_rel μ) (hT : rText ν) (e : ∀ a, a ≠ 1 → a ≠ 2 → a ≠ 31 → a ≠ 38 → ν a = μ a) (e31 : ∀ j, j ≠ 10 → ν 31 j = μ 31 j) : wd_rel ν := by
  obtain ⟨-, hS, hL, n, hK, hW, hH, hI⟩ := h
  have f : ∀ a, a ≠ 1 ∧ a ≠ 2 ∧ a ≠ 31 ∧ a ≠ 38 → ν a = μ a := fun a ⟨p, q, r, s⟩ => e a p q r s
  exact ⟨hT, rSight_congr (f 14 (by decide)) (f 15 (by decide)) (f 16 (by decide)) (f 17 (by decide)) hS, rLoad_congr (f 26 (by decide)) hL, n, rTask_congr (f 3 (by decide)) (f 4 (by decide)) (f 5 (by decide)) (f 32 (by decide)) (f 33 (by decide)) (e31 0 (by decide)) (e31 1 (by decide)) hK, wdW_congr (f 49 (by decide)) (f 50 (by decide)) (f 51 (by decide)) (f 34 (by decide)) hW, rHist_congr (f 27 (by decide)) (e31 5 (by decide)) (e31 6 (by decide)) (fun a _ _ => f a (by omega)) (f 35 (by decide)) hH, rImg_congr (f 30 (by decide)) (f 36 (by decide)) (f 37 (by decide)) (fun a _ _ => f a (by omega)) hI⟩
theorem zI_x (x : Int32) : ∃ z : Int, x = zI z ∧ zR z := ⟨x.toInt, (zI_of x).symm, zI_rng x⟩
theorem op_type (μ : wd_Mem) (x : Int32) (h : wd_rel μ) : ∃ (r : Int32) (μ1 μ2 : wd_Mem), X7_type μ x = some (r, μ1) ∧ X8_type μ1 x = some (r, μ2) ∧ wd_rel μ2 := by
  obtain ⟨len, hl, h1, h2, h3⟩ := h.1
  obtain ⟨z, rfl, hz⟩ := zI_x x
  have hr := hz
  unfold zR at hr
  have r0 : zR 0 := by unfold zR; omega
  have r255 : zR 255 := by unfold zR; omega
  have r100 : zR 100 := by unfold zR; omega
  have rl : zR (len : Int) := by unfold zR; omega
  by_cases ha : z < 0
  · refine ⟨-1, μ, μ, ?_, ?_, h⟩
    · unfold X7_type X7_type_b0 X7_type_b11
      rw [if_pos (by rw [z_0, zI_lt hz r0]; exact ha)]
    · unfold X8_type X8_type_b0
      rw [if_pos (X8_in_0.mpr (Or.inl (by rw [z_0, zI_lt hz r0]; exact ha)))]
  · have na : ¬ zI z < 0 := by rw [z_0, zI_lt hz r0]; exact ha
    by_cases hb : z ≤ 255
    · have pb : zI z ≤ 255 := by rw [z_255, zI_le hz r255]; exact hb
      have nb : ¬ X8_in (mset (mset μ 2 len (zI z)) 1 1 (zI (len + 1))) (zI z) 0 255 = 0 := by
        rw [X8_in_0, z_0, z_255, zI_lt hz r0, zI_lt r255 hz]; omega
      have nb2 : ¬ X8_in μ (zI z) 0 255 = 0 := by
        rw [X8_in_0, z_0, z_255, zI_lt hz r0, zI_lt r255 hz]; omega
      by_cases hf : len < 100
      · refine ⟨zI (len + 1), mset (mset μ 2 len (zI z)) 1 1 (zI (len + 1)), mset (mset (mset (mset μ 2 len (zI z)) 1 1 (zI (len + 1))) 38 len (zI z)) 31 10 (zI (len + 1)), ?_, ?_, ?_⟩
        · unfold X7_type X7_type_b0 X5_add X5_add_b0
          rw [if_neg na, if_pos pb, h1, if_pos (by rw [z_100, zI_lt rl r100]; omega), wd_chk_in (by omega) (by omega) (by omega), zI_clN (by omega), z_1, zI_add]
          rfl
        · unfold X8_type X8_type_b0
          have e : mset (mset μ 2 len (zI z)) 1 1 (zI (len + 1)) 31 10 = zI len := by
            rw [mset_h _ _ _ _ (by decide), mset_h _ _ _ _ (by decide), h2]
          rw [if_neg nb, e, if_neg (by rw [z_100, zI_eq rl r100]; omega), wd_chk_in (by omega) (by omega) (by omega), zI_clN (by omega), z_1, zI_add]
        · refine rel_text h ⟨len + 1, by omega, ?_, ?_, fun i hi => ?_⟩ (fun a p q r s => ?_) (fun j hj => ?_)
          · rw [mset_h _ _ _ _ (by decide), mset_h _ _ _ _ (by decide), mset_eq]; rfl
          · rw [mset_eq]; rfl
          · rw [mset_h _ _ _ _ (by decide), mset_h _ _ _ _ (by decide), mset_h _ _ _ _ (by decide), mset_h _ _ _ _ (by decide : (38 : Nat) ≠ 31)]
            by_cases hi2 : i = len
            · subst hi2
              exact ⟨z, by omega, hb, mset_eq _ _ _ _, mset_eq _ _ _ _⟩
            · obtain ⟨c, c1, c2, c3, c4⟩ := h3 i (by omega)
              refine ⟨c, c1, c2, ?_, ?_⟩
              · rw [mset_j _ _ _ _ hi2, c3]
              · rw [mset_j _ _ _ _ hi2, mset_h _ _ _ _ (by decide), mset_h _ _ _ _ (by decide), c4]
          · rw [mset_ne r, mset_ne s, mset_ne p, mset_ne q]
          · rw [mset_j _ _ _ _ hj, mset_h _ _ _ _ (by decide), mset_h _ _ _ _ (by decide), mset_h _ _ _ _ (by decide)]
      · have hlen : len = 100 := by omega
        subst hlen
        refine ⟨-3, μ, μ, ?_, ?_, h⟩
        · unfold X7_type X7_type_b0 X5_add X5_add_b0
          rw [if_neg na, if_pos pb, h1, if_neg (by rw [z_100, zI_lt rl r100]; omega)]
          rfl
        · unfold X8_type X8_type_b0
          rw [if_neg nb2, h2, if_pos (by rw [z_100]; rfl)]
    · have nb : ¬ zI z ≤ 255 := by rw [z_255, zI_le hz r255]; exact hb
      refine ⟨-1, μ, μ, ?_, ?_, h⟩
      · unfold X7_type X7_type_b0 X7_type_b11
        rw [if_neg na, if_neg nb]
      · unfold X8_type X8_type_b0
        rw [if_pos (X8_in_0.mpr (Or.inr (by rw [z_255, zI_lt r255 hz]; omega)))]
