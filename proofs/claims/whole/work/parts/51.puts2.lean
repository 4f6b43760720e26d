theorem datM_congr {μ ν : wd_Mem} {n : Nat} {R : Int} {E L D C : Nat → Int} (e1 : ν 31 = μ 31) (e2 : ν 34 = μ 34) (e3 : ν 32 = μ 32) (e4 : ν 33 = μ 33) (h : datM μ n R E L D C) : datM ν n R E L D C := by
  unfold datM
  rw [e1, e2, e3, e4]
  exact h
theorem datX_congr {μ ν : wd_Mem} {n : Nat} {R : Int} {E L D C : Nat → Int} (e1 : ν 3 = μ 3) (e2 : ν 49 = μ 49) (e3 : ν 4 = μ 4) (e4 : ν 5 = μ 5) (h : datX μ n R E L D C) : datX ν n R E L D C := by
  unfold datX
  rw [e1, e2, e3, e4]
  exact h
theorem mset_if (μ : wd_Mem) (k j b : Nat) (x : Int32) : mset μ k j x k b = if b = j then x else μ k b := by
  unfold mset
  by_cases h : b = j
  · simp [h]
  · simp [h]
theorem op_puts (μ : wd_Mem) (x1 x2 x3 : Int32) (h : wd_rel μ) : ∃ (r : Int32) (μ1 μ2 : wd_Mem), X7_puts μ x1 x2 x3 = some (r, μ1) ∧ X8_puts μ1 x1 x2 x3 = some (r, μ2) ∧ wd_rel μ2 := by
  have h' := h
  obtain ⟨hT, hS, hL, n, hK, hW, ⟨u, p, w1, w2, w3, w4, w5, w6, w7⟩, hI⟩ := h
  obtain ⟨R, E, L, D, C, hb, hx, hm⟩ := rel_dat hK hW
  have hn := hK.1
  have e1 := hK.2.1
  have e2 := hK.2.2.1
  obtain ⟨z, rfl, hz⟩ := zI_x x1
  obtain ⟨v, rfl, hv⟩ := zI_x x3
  have r0 : zR 0 := zR_small (by omega) (by omega)
  have r16 : zR 16 := zR_small (by omega) (by omega)
  have kx : X7_puts μ (zI z) x2 (zI v) = if ¬ (0 ≤ z ∧ z < n) then some (-1, μ) else if ¬ (x2 = 0 ∨ x2 = 1) then some (-1, μ) else if ¬ (0 ≤ v ∧ v ≤ 16) then some (-1, μ) else (X6_isBroken 48 3 μ).bind (fun r5 => (if r5 = 0 then (X7_mayPut μ (zI z) x2 (zI v)).bind (fun r7 => (if r7 = 0 then X7_puts_b54 μ else (X0_add 48 μ).bind (fun r9 => (X6_edge 48 r9 (zI z) x2).bind (fun r10 => (X6_move 48 r9 (zI z) x2 (zI v) (-9 : Int32) (-9 : Int32)).bind (fun r11 => some (r10, r11)))))) else X7_puts_b54 μ)) := by
    unfold X7_puts X7_puts_b0 X7_puts_b28
    simp only [has_0 hn e1 hz, X7_z01_0, show (zI v < 0) ↔ v < 0 from by rw [z_0, zI_lt hv r0], show (zI v ≤ 16) ↔ v ≤ 16 from by rw [z_16, zI_le hv r16]]
    by_cases q1 : 0 ≤ z ∧ z < n
    · simp only [q1, and_self, not_true, if_false]
      by_cases q2 : x2 = 0 ∨ x2 = 1
      · simp only [q2, not_true, if_false]
        by_cases q3 : v < 0
        · rw [if_pos q3, if_pos (by omega)]
        · by_cases q4 : v ≤ 16
          · rw [if_neg q3, if_pos q4, if_neg (by omega)]
          · rw [if_neg q3, if_neg q4, if_pos (by omega)]
      · simp only [q2, not_false_eq_true, if_true]
    · simp only [q1, not_false_eq_true, if_true]
  have km : ∀ ν : wd_Mem, ν 31 = μ 31 → X8_puts ν (zI z) x2 (zI v) = if ¬ (0 ≤ z ∧ z < n) then some (-1, ν) else if ¬ (x2 = 0 ∨ x2 = 1) then some (-1, ν) else if ¬ (0 ≤ v ∧ v ≤ 16) then some (-1, ν) else (if x2 = 0 then X8_puts_b42 ν (zI z) x2 (zI v) ((0 : Int32) + (zI z)) else X8_puts_b42 ν (zI z) x2 (zI v) ((5 : Int32) + (zI z))) := by
    intro ν hν
    unfold X8_puts X8_puts_b0 X8_puts_b27
    rw [isTask_eq hn (by rw [hν]; exact e2) hz]
    simp only [Option.bind_some, X8_in_0, in01]
    simp only [show (16 < zI v) ↔ 16 < v from by rw [z_16, zI_lt r16 hv], show (zI v < 0) ↔ v < 0 from by rw [z_0, zI_lt hv r0]]
    by_cases q1 : 0 ≤ z ∧ z < n
    · have k10 : ¬ ((1 : Int32) = 0) := by decide
      simp only [q1, and_self, not_true, if_false, if_true, k10]
      by_cases q2 : x2 = 0 ∨ x2 = 1
      · simp only [q2, not_true, if_false]
        by_cases q3 : v < 0 ∨ 16 < v
        · rw [if_pos q3, if_pos (by omega)]
        · rw [if_neg q3, if_neg (show ¬ ¬ (0 ≤ v ∧ v ≤ 16) from by omega)]
      · simp only [q2, not_false_eq_true, if_true]
    · simp only [q1, if_false, if_true, not_false_eq_true]
  by_cases q1 : 0 ≤ z ∧ z < n
  · by_cases q2 : x2 = 0 ∨ x2 = 1
    · by_cases q3 : 0 ≤ v ∧ v ≤ 16
      · obtain ⟨s, hs, rfl⟩ := is01 q2
        obtain ⟨i, rfl⟩ := Int.eq_ofNat_of_zero_le q1.1
        have hi : i < n := by omega
        have kM : ∀ ν : wd_Mem, ν 31 = μ 31 → datM ν n R E L D C → X8_puts ν (zI i) (zI s) (zI v) = X8_puts_b120 ν (zI i) (zI s) (zI v) (zI (5 * s + i)) (ν 34 (5 * s + i)) (bI (mayB s v (E i) (L i) (D i))) := by
          intro ν hν hd
          have hp := putM hb hd hi hs q3.1 q3.2
          have km' := km ν hν
          rw [if_neg (not_not_intro q1), if_neg (not_not_intro q2), if_neg (not_not_intro q3)] at km'
          rw [km', ← hp]
          rcases (show s = 0 ∨ s = 1 by omega) with rfl | rfl
          · rw [if_pos (by decide : zI ((0 : Nat) : Int) = 0), show (0 : Int32) + zI ((i : Nat) : Int) = zI (5 * ((0 : Nat) : Int) + i) from by rw [z_0, zI_add]; congr 1]
          · rw [if_neg (by decide : ¬ zI ((1 : Nat) : Int) = 0), show (5 : Int32) + zI ((i : Nat) : Int) = zI (5 * ((1 : Nat) : Int) + i) from by rw [z_5, zI_add]; congr 1]
        have kx' := kx
        rw [if_neg (not_not_intro q1), if_neg (not_not_intro q2), if_neg (not_not_intro q3), broX hb hx, mayX hb hx hi hs q3.1 q3.2] at kx'
        simp only [Option.bind_some, bI_0] at kx'
        cases hbr : brk n E L D with
        | true =>
          refine ⟨-2, μ, μ, ?_, ?_, h'⟩
          · rw [kx', hbr]; rfl
          · rw [kM μ rfl hm]
            unfold X8_puts_b120
            rw [broM hb hm, hbr]
            rfl
        | false =>
          cases hmb : mayB s v (E i) (L i) (D i) with
          | false =>
            refine ⟨-2, μ, μ, ?_, ?_, h'⟩
            · rw [kx', hbr, hmb]; rfl
            · rw [kM μ rfl hm]
              unfold X8_puts_b120
              rw [broM hb hm, hbr, hmb]
              rfl
          | true =>
            obtain ⟨ν, t1, t2, t3, t4, t5⟩ := addX w1 w2 w5 w3
            obtain ⟨μ1, hμ1⟩ : ∃ m, m = mset (mset (mset ν 49 (5 * s + i) (zI v)) 50 (5 * s + i) (-9)) 51 (5 * s + i) (-9) := ⟨_, rfl⟩
            have hq : (p + 1) % 10 < 10 := Nat.mod_lt _ (by omega)
            have g : ∀ a, a ≠ 49 → a ≠ 50 → a ≠ 51 → μ1 a = ν a := fun a x y w => by rw [hμ1, mset_ne w, mset_ne y, mset_ne x]
            have f : ∀ a, a ≠ 27 → a ≠ 49 → a ≠ 50 → a ≠ 51 → a < 64 → μ1 a = μ a := fun a x y w k l => by rw [g a y w k, t5 a x (by omega) (by omega) (by omega)]
            have hm1 : datM μ1 n R E L D C := datM_congr (f 31 (by decide) (by decide) (by decide) (by decide) (by decide)) (f 34 (by decide) (by decide) (by decide) (by decide) (by decide)) (f 32 (by decide) (by decide) (by decide) (by decide) (by decide)) (f 33 (by decide) (by decide) (by decide) (by decide) (by decide)) hm
            obtain ⟨ρ, s1, s2, s3, s4, s5, s6, s7⟩ := remM (s0 := μ1) w1 w2 (by rw [f 31 (by decide) (by decide) (by decide) (by decide) (by decide)]; exact w6) (by rw [f 31 (by decide) (by decide) (by decide) (by decide) (by decide)]; exact w4)
            obtain ⟨τ, hτ⟩ : ∃ m, m = mset (mset (mset ρ 34 (5 * s + i) (zI v)) 34 (10 + (5 * s + i)) (-9)) 34 (20 + (5 * s + i)) (-9) := ⟨_, rfl⟩
            have fτ : ∀ a, a ≠ 34 → τ a = ρ a := fun a x => by rw [hτ, mset_ne x, mset_ne x, mset_ne x]
            have F : ∀ a, a ≠ 27 → a ≠ 31 → a ≠ 34 → a ≠ 35 → a ≠ 49 → a ≠ 50 → a ≠ 51 → a < 64 → τ a = μ a := fun a x1 x2 x3 x4 x5 x6 x7 x8 => by rw [fτ a x3, s7 a x2 x4, f a x1 x5 x6 x7 x8]
            have F31 : ∀ j, j ≠ 5 → j ≠ 6 → τ 31 j = μ 31 j := fun j x y => by rw [fτ 31 (by decide), s6 j x y, f 31 (by decide) (by decide) (by decide) (by decide) (by decide)]
            refine ⟨μ 49 (5 * s + i), μ1, τ, ?_, ?_, ?_⟩
            · rw [kx', hbr, hmb, t1]
              simp only [Option.bind_some, if_true]
              rw [if_neg (by decide), edge_eq (by omega) hs, move_eq (by omega) hs]
              simp only [Option.bind_some, Nat.reduceAdd]
              rw [← hμ1, t5 49 (by decide) (by omega) (by omega) (by omega)]
            · rw [kM μ1 (f 31 (by decide) (by decide) (by decide) (by decide) (by decide)) hm1]
              unfold X8_puts_b120
              rw [broM hb hm1, hbr, hmb, s1]
              simp only [Option.bind_some]
              rw [if_pos (by decide), if_neg (by decide), z_5, zI_mul, z_10, zI_add, zI_add, z_20, zI_add, zI_add, wd_chk_in (by omega) (by omega) (by omega), wd_chk_in (by omega) (by omega) (by omega), wd_chk_in (by omega) (by omega) (by omega), zI_cl (by omega) (by omega), zI_cl (by omega) (by omega), zI_cl (by omega) (by omega), show (5 * (s : Int) + (i : Int)).toNat = 5 * s + i by omega, show (10 + 5 * (s : Int) + (i : Int)).toNat = 10 + (5 * s + i) by omega, show (20 + 5 * (s : Int) + (i : Int)).toNat = 20 + (5 * s + i) by omega, ← hτ, f 34 (by decide) (by decide) (by decide) (by decide) (by decide)]
              obtain ⟨⟨x, -, -, x3, x4⟩, -⟩ := wdW_iff.mp hW i hi s hs
              simp only [Nat.zero_add, Nat.reduceAdd] at x3 x4
              rw [x3, x4]
            · obtain ⟨c1, c2, c3, c4⟩ := base_congr (ν := τ) (fun a ha => F a (by omega) (by omega) (by omega) (by omega) (by omega) (by omega) (by omega) (by omega)) (F31 10 (by decide) (by decide)) (F31 0 (by decide) (by decide)) (F31 1 (by decide) (by decide)) hT hS hL hK
              have b27 : ∀ j, τ 27 j = ν 27 j := fun j => by rw [fτ 27 (by decide), s7 27 (by decide) (by decide), g 27 (by decide) (by decide) (by decide)]
              have bR : ∀ a, 64 ≤ a → τ a = ν a := fun a ha => by rw [fτ a (by omega), s7 a (by omega) (by omega), g a (by omega) (by omega) (by omega)]
              have b4x : ∀ a, a = 49 ∨ a = 50 ∨ a = 51 → τ a = μ1 a := fun a ha => by rw [fτ a (by omega), s7 a (by omega) (by omega)]
              have n4x : ∀ a, a = 49 ∨ a = 50 ∨ a = 51 → ν a = μ a := fun a ha => t5 a (by omega) (by omega) (by omega) (by omega)
              refine ⟨c1, c2, c3, n, c4, ?_, ?_, rImg_congr (F 30 (by decide) (by decide) (by decide) (by decide) (by decide) (by decide) (by decide) (by decide)) (F 36 (by decide) (by decide) (by decide) (by decide) (by decide) (by decide) (by decide) (by decide)) (F 37 (by decide) (by decide) (by decide) (by decide) (by decide) (by decide) (by decide) (by decide)) (fun a _ _ => F a (by omega) (by omega) (by omega) (by omega) (by omega) (by omega) (by omega) (by omega)) hI⟩
              · refine wdW_put hn hi hs q3.1 q3.2 (-9) (-9) (fun k _ => ?_) (fun k _ => ?_) (fun k _ => ?_) (fun k _ => ?_) hW
                · rw [b4x 49 (by omega), hμ1, mset_h _ _ _ _ (by decide), mset_h _ _ _ _ (by decide), mset_if, n4x 49 (by omega)]
                · rw [b4x 50 (by omega), hμ1, mset_h _ _ _ _ (by decide), mset_if, mset_h _ _ _ _ (by decide), n4x 50 (by omega)]
                · rw [b4x 51 (by omega), hμ1, mset_if, mset_h _ _ _ _ (by decide), mset_h _ _ _ _ (by decide), n4x 51 (by omega)]
                · rw [hτ, mset_if, mset_if, mset_if, s7 34 (by decide) (by decide), f 34 (by decide) (by decide) (by decide) (by decide) (by decide)]
                  by_cases y1 : k = 5 * s + i
                  · rw [if_neg (by omega), if_neg (by omega), if_pos y1, if_pos y1]
                  · by_cases y2 : k = 10 + (5 * s + i)
                    · rw [if_neg (by omega), if_pos y2, if_neg y1, if_pos y2]
                    · by_cases y3 : k = 20 + (5 * s + i)
                      · rw [if_pos y3, if_neg y1, if_neg y2, if_pos y3]
                      · rw [if_neg y3, if_neg y2, if_neg y1, if_neg y1, if_neg y2, if_neg y3]
              · refine hist_push (μ := μ) hn w1 w2 w7 hW (by rw [b27, t2]) (by rw [b27, t3]) (by rw [fτ 31 (by decide), s2]) (by rw [fτ 31 (by decide), s3]) (fun b hb => ?_) (fun a x1 x2 x3 x4 x5 => ?_) (fun k hk => ?_) (fun j hj => ?_)
                · rw [bR _ (by omega), bR _ (by omega), bR _ (by omega)]
                  exact t4 b hb
                · rw [bR a x1, t5 a (by omega) x3 x4 x5]
                · rw [fτ 35 (by decide), s4 k hk, f 34 (by decide) (by decide) (by decide) (by decide) (by decide)]
                · rw [fτ 35 (by decide), s5 j hj, f 35 (by decide) (by decide) (by decide) (by decide) (by decide)]
      · refine ⟨-1, μ, μ, ?_, ?_, h'⟩
        · rw [kx, if_neg (not_not_intro q1), if_neg (not_not_intro q2), if_pos q3]
        · rw [km μ rfl, if_neg (not_not_intro q1), if_neg (not_not_intro q2), if_pos q3]
    · refine ⟨-1, μ, μ, ?_, ?_, h'⟩
      · rw [kx, if_neg (not_not_intro q1), if_pos q2]
      · rw [km μ rfl, if_neg (not_not_intro q1), if_pos q2]
  · refine ⟨-1, μ, μ, ?_, ?_, h'⟩
    · rw [kx, if_pos q1]
    · rw [km μ rfl, if_pos q1]
