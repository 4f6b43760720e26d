/-! ===== GREY ===== -/
def gyF (w : Nat → Int) (T : Nat) (a : Int) : Nat → Int × Int
  | 0 => (a, -1)
  | k + 1 => if T.testBit k = true ∧ (gyF w T a k).2 < w k then ((k : Int), w k) else gyF w T a k
theorem gy_cases {w : Nat → Int} {T : Nat} : ∀ k, (∀ j, j < k → 0 ≤ w j) → ((∀ j, j < k → T.testBit j = false) ∧ ∀ a, gyF w T a k = (a, -1)) ∨ ∃ j : Nat, j < k ∧ ∀ a, gyF w T a k = ((j : Int), w j)
  | 0, _ => Or.inl ⟨fun j hj => by omega, fun a => rfl⟩
  | k + 1, h => by
    have hk := h k (by omega)
    rcases gy_cases (w := w) (T := T) k (fun j hj => h j (by omega)) with ⟨h1, h2⟩ | ⟨j, hj, h2⟩
    · cases hb : T.testBit k with
      | false =>
        refine Or.inl ⟨fun j hj => ?_, fun a => ?_⟩
        · rcases (show j < k ∨ j = k by omega) with q | rfl
          · exact h1 j q
          · exact hb
        · simp only [gyF, hb]
          rw [if_neg (by simp)]
          exact h2 a
      | true =>
        refine Or.inr ⟨k, by omega, fun a => ?_⟩
        simp only [gyF, hb, h2]
        rw [if_pos (by refine ⟨trivial, ?_⟩; show (-1 : Int) < w k; omega)]
    · by_cases hc : T.testBit k = true ∧ w j < w k
      · refine Or.inr ⟨k, by omega, fun a => ?_⟩
        simp only [gyF, h2]
        rw [if_pos hc]
      · refine Or.inr ⟨j, by omega, fun a => ?_⟩
        simp only [gyF, h2]
        rw [if_neg hc]
theorem gy_bd {w : Nat → Int} {T : Nat} {a : Int} (ha : -9 ≤ a ∧ a ≤ 0) {k : Nat} (hk : k ≤ 5) (h : ∀ j, j < k → 0 ≤ w j ∧ w j ≤ 30000) : -9 ≤ (gyF w T a k).1 ∧ (gyF w T a k).1 ≤ 5 ∧ -1 ≤ (gyF w T a k).2 ∧ (gyF w T a k).2 ≤ 30000 := by
  rcases gy_cases (w := w) (T := T) k (fun j hj => (h j hj).1) with ⟨-, h2⟩ | ⟨j, hj, h2⟩
  · rw [h2]; show -9 ≤ a ∧ a ≤ 5 ∧ (-1 : Int) ≤ -1 ∧ (-1 : Int) ≤ 30000; omega
  · have := h j hj
    rw [h2]; show -9 ≤ (j : Int) ∧ (j : Int) ≤ 5 ∧ -1 ≤ w j ∧ w j ≤ 30000; omega
theorem wrF_bd {g : Nat → Int} {S : Nat} (h : ∀ p, 0 ≤ g p ∧ g p ≤ 30000) : ∀ (f : Nat) (b : Int) (p : Nat), b ≤ 30000 → b ≤ wrF g S f b p ∧ wrF g S f b p ≤ 30000
  | 0, b, _, hb => ⟨Int.le_refl _, hb⟩
  | f + 1, b, p, hb => by
    simp only [wrF]
    split
    · omega
    · have := h p
      have := wrF_bd (S := S) h f (max b (g p)) ((p - 1) &&& S) (by omega)
      omega
theorem wr_bd {R : Int} {e D C : Nat → Int} {n S : Nat} (hn : n ≤ 5) (hR : 1 ≤ R ∧ R ≤ 20) (hB : ∀ i, i < n → 0 ≤ e i ∧ e i ≤ 16 ∧ 0 ≤ D i ∧ D i ≤ 9 ∧ 0 ≤ C i ∧ C i ≤ 9) (h0 : 0 < S) : 0 ≤ wrF (wrG R e D C 99 n) S 32 (-1) S ∧ wrF (wrG R e D C 99 n) S 32 (-1) S ≤ 30000 := by
  have bd : ∀ p, 0 ≤ wrG R e D C 99 n p ∧ wrG R e D C 99 n p ≤ 30000 := fun p => wrG_bd (p := p) (b := 99) hn hR (by omega) hB
  have b1 := bd S
  have := wrF_bd (S := S) bd 31 (max (-1) (wrG R e D C 99 n S)) ((S - 1) &&& S) (by omega)
  have e : wrF (wrG R e D C 99 n) S 32 (-1) S = wrF (wrG R e D C 99 n) S 31 (max (-1) (wrG R e D C 99 n S)) ((S - 1) &&& S) := by
    show (if S = 0 then _ else _) = _
    rw [if_neg (by omega)]
  rw [e]
  exact ⟨Int.le_trans (by omega) this.1, this.2⟩
theorem n_or_ltB : ∀ n, n < 6 → ∀ S, S < 32 → S < 2 ^ n → ∀ i, i < 5 → i < n → (decide (S ||| 2 ^ i < 2 ^ n) && decide (0 < S ||| 2 ^ i)) = true := by decide +kernel
theorem n_or_lt (n : Nat) (hn : n < 6) (S : Nat) (h1 : S < 32) (h2 : S < 2 ^ n) (i : Nat) (hi : i < 5) (h3 : i < n) : S ||| 2 ^ i < 2 ^ n ∧ 0 < S ||| 2 ^ i := by
  have h := n_or_ltB n hn S h1 h2 i hi h3
  simp only [Bool.and_eq_true, decide_eq_true_eq] at h
  exact h
theorem greyX {ν : wd_Mem} {n S T : Nat} {w : Nat → Int} (hn : n ≤ 5) (x1 : ν 3 1 = zI n) (hS : S < 2 ^ n) (hT : T < 2 ^ n) (hw : ∀ i, i < n → X3_wrapOf ν (zI ((S ||| 2 ^ i : Nat) : Int)) = some (zI (w i))) (hB : ∀ i, i < n → 0 ≤ w i ∧ w i ≤ 30000) : X3_greyest ν (zI S) (zI T) = some (zI (gyF w T 0 n).1) := by
  have p5 := pow5 hn
  have key := wd_forF (fun q i x => X3_greyest_l8 (fun x3 => X3_greyest_b66 ν x3) ν (zI S) (zI T) q x.1 x.2 (zI (i : Nat))) (fun x : Int32 × Int32 => some x.1) (fun i => (zI (gyF w T 0 i).1, zI (gyF w T 0 i).2)) n (by omega) (fun i q hi => by
    show X3_greyest_c8 _ _ ν (zI S) (zI T) (zI (gyF w T 0 i).1) (zI (gyF w T 0 i).2) (zI i) = _
    have bd := gy_bd (w := w) (T := T) (a := 0) (by omega) (k := i) (by omega) (fun j hj => hB j (by omega))
    have y := hB i hi
    have e1 : zI (i : Int) + (1 : Int32) = zI ((i + 1 : Nat) : Int) := by rw [z_1, zI_add]; rfl
    unfold X3_greyest_c8 X3_greyest_b60
    rw [e1, b_or1 S (by omega) i (by omega), hw i hi, b_has T (by omega) i (by omega)]
    have f0 : ¬ ((0 : Int32) = 1) := by decide
    cases hb : T.testBit i with
    | false =>
      have eg : gyF w T 0 (i + 1) = gyF w T 0 i := by simp only [gyF]; rw [if_neg (by rw [hb]; simp)]
      rw [eg]
      simp only [x1, Option.bind_some, Bool.false_eq_true, if_false, f0]
      simp (disch := (first | omega | (unfold zR; omega))) only [zI_lt, zI_le, zI_eq, zI_add, zI_sub, zI_mul, zI_neg, wd_chk_in, zI_clN, zI_cl, if_pos, if_neg, Option.bind_some, z_0, z_1, z_2, z_3, z_4, z_5, z_9, z_10, z_15, z_16, z_20, z_30, z_31, z_32, z_99, z_100, z_m1, z_m2, z_m9]
    | true =>
      simp only [x1, Option.bind_some, if_true]
      by_cases hc : (gyF w T 0 i).2 < w i
      · have eg : gyF w T 0 (i + 1) = ((i : Int), w i) := by simp only [gyF]; rw [if_pos ⟨hb, hc⟩]
        rw [eg]
        simp (disch := (first | omega | (unfold zR; omega))) only [zI_lt, zI_le, zI_eq, zI_add, zI_sub, zI_mul, zI_neg, wd_chk_in, zI_clN, zI_cl, if_pos, if_neg, Option.bind_some, z_0, z_1, z_2, z_3, z_4, z_5, z_9, z_10, z_15, z_16, z_20, z_30, z_31, z_32, z_99, z_100, z_m1, z_m2, z_m9]
      · have eg : gyF w T 0 (i + 1) = gyF w T 0 i := by simp only [gyF]; rw [if_neg (fun h => hc h.2)]
        rw [eg]
        simp (disch := (first | omega | (unfold zR; omega))) only [zI_lt, zI_le, zI_eq, zI_add, zI_sub, zI_mul, zI_neg, wd_chk_in, zI_clN, zI_cl, if_pos, if_neg, Option.bind_some, z_0, z_1, z_2, z_3, z_4, z_5, z_9, z_10, z_15, z_16, z_20, z_30, z_31, z_32, z_99, z_100, z_m1, z_m2, z_m9]) (fun q => by
    show X3_greyest_c8 _ _ ν (zI S) (zI T) _ _ (zI n) = _
    unfold X3_greyest_c8 X3_greyest_b66
    rw [x1, if_pos (Int32.le_refl _)])
  unfold X3_greyest X3_greyest_b0
  rw [z_0, z_m1]
  exact key
theorem greyM {ρ : wd_Mem} {n S T : Nat} {x3 : Int32} {w : Nat → Int} (hn : n ≤ 5) (x1 : ρ 31 0 = zI n) (hS : S < 2 ^ n) (hT : T < 2 ^ n) (hw : ∀ i, i < n → X8_wrapOf ρ (zI ((S ||| 2 ^ i : Nat) : Int)) = some (zI (w i))) (hB : ∀ i, i < n → 0 ≤ w i ∧ w i ≤ 30000) : X8_grey_l55 (fun x4 x5 => X8_grey_b127 ρ x3 x4 x5) ρ (zI S) (zI T) x3 wd_big (-9) (-1) 0 = (if x3 = 0 then some (zI (gyF w T (-9) n).2, ρ) else some (zI (gyF w T (-9) n).1, ρ)) := by
  have p5 := pow5 hn
  have key := wd_forF (fun q i x => X8_grey_l55 (fun x4 x5 => X8_grey_b127 ρ x3 x4 x5) ρ (zI S) (zI T) x3 q x.1 x.2 (zI (i : Nat))) (fun x : Int32 × Int32 => X8_grey_b127 ρ x3 x.1 x.2) (fun i => (zI (gyF w T (-9) i).1, zI (gyF w T (-9) i).2)) n (by omega) (fun i q hi => by
    show X8_grey_c55 _ _ ρ (zI S) (zI T) x3 (zI (gyF w T (-9) i).1) (zI (gyF w T (-9) i).2) (zI i) = _
    have bd := gy_bd (w := w) (T := T) (a := -9) (by omega) (k := i) (by omega) (fun j hj => hB j (by omega))
    have y := hB i hi
    have e1 : zI (i : Int) + (1 : Int32) = zI ((i + 1 : Nat) : Int) := by rw [z_1, zI_add]; rfl
    unfold X8_grey_c55 X8_grey_b87 X8_grey_b103 X8_grey_b119
    rw [e1, b_or1 S (by omega) i (by omega), hw i hi]
    simp only [hasM_0 ρ (show T < 32 by omega) (show i < 5 by omega)]
    cases hb : T.testBit i with
    | false =>
      have eg : gyF w T (-9) (i + 1) = gyF w T (-9) i := by simp only [gyF]; rw [if_neg (by rw [hb]; simp)]
      rw [eg]
      simp only [x1, Option.bind_some, if_true]
      simp (disch := (first | omega | (unfold zR; omega))) only [zI_lt, zI_le, zI_eq, zI_add, zI_sub, zI_mul, zI_neg, wd_chk_in, zI_clN, zI_cl, if_pos, if_neg, Option.bind_some, z_0, z_1, z_2, z_3, z_4, z_5, z_9, z_10, z_15, z_16, z_20, z_30, z_31, z_32, z_99, z_100, z_m1, z_m2, z_m9]
    | true =>
      simp only [x1, Option.bind_some, Bool.true_eq_false, if_false]
      by_cases hc : (gyF w T (-9) i).2 < w i
      · have eg : gyF w T (-9) (i + 1) = ((i : Int), w i) := by simp only [gyF]; rw [if_pos ⟨hb, hc⟩]
        rw [eg]
        simp (disch := (first | omega | (unfold zR; omega))) only [zI_lt, zI_le, zI_eq, zI_add, zI_sub, zI_mul, zI_neg, wd_chk_in, zI_clN, zI_cl, if_pos, if_neg, Option.bind_some, z_0, z_1, z_2, z_3, z_4, z_5, z_9, z_10, z_15, z_16, z_20, z_30, z_31, z_32, z_99, z_100, z_m1, z_m2, z_m9]
      · have eg : gyF w T (-9) (i + 1) = gyF w T (-9) i := by simp only [gyF]; rw [if_neg (fun h => hc h.2)]
        rw [eg]
        simp (disch := (first | omega | (unfold zR; omega))) only [zI_lt, zI_le, zI_eq, zI_add, zI_sub, zI_mul, zI_neg, wd_chk_in, zI_clN, zI_cl, if_pos, if_neg, Option.bind_some, z_0, z_1, z_2, z_3, z_4, z_5, z_9, z_10, z_15, z_16, z_20, z_30, z_31, z_32, z_99, z_100, z_m1, z_m2, z_m9]) (fun q => by
    show X8_grey_c55 _ _ ρ (zI S) (zI T) x3 _ _ (zI n) = _
    unfold X8_grey_c55
    rw [x1, if_pos (Int32.le_refl _)])
  rw [z_0, z_m1, z_m9]
  exact key
theorem op_grey (μ : wd_Mem) (x1 x2 x3 : Int32) (h : wd_rel μ) : ∃ (r : Int32) (μ1 μ2 : wd_Mem), X7_grey μ x1 x2 x3 = some (r, μ1) ∧ X8_grey μ1 x1 x2 x3 = some (r, μ2) ∧ wd_rel μ2 := by
  obtain ⟨n, R, E, L, D, C, ν, ρ, hb, hx, hm, t1, t2, t3, s1, hv, s3, hr⟩ := views h
  obtain ⟨z1, rfl, hz1⟩ := zI_x x1
  obtain ⟨z2, rfl, hz2⟩ := zI_x x2
  have hn := hb.1
  have p5 := pow5 hn
  have r0 : zR 0 := zR_small (by omega) (by omega)
  have r1 : zR 1 := zR_small (by omega) (by omega)
  have hpos : (0 : Int) ≤ ((2 ^ n : Nat) : Int) := Int.natCast_nonneg _
  have ra : zR (((2 ^ n : Nat) : Int) - 1) := zR_small (by omega) (by omega)
  have k0 : (zI z2 = 0) ↔ z2 = 0 := by rw [z_0, zI_eq hz2 r0]
  have kM1 : ∀ w : wd_Mem, w 31 = μ 31 → ((X8_in w (zI z1) 0 (X8_all w) = 0) ↔ (z1 < 0 ∨ ((2 ^ n : Nat) : Int) - 1 < z1)) := fun w hw => by
    rw [all_eq hn (by rw [hw]; exact hm.1), X8_in_0, z_0, zI_lt hz1 r0, zI_lt ra hz1]
  have kM2 : ∀ w : wd_Mem, w 31 = μ 31 → ((X8_in w (zI z2) 1 (X8_all w) = 0) ↔ (z2 < 1 ∨ ((2 ^ n : Nat) : Int) - 1 < z2)) := fun w hw => by
    rw [all_eq hn (by rw [hw]; exact hm.1), X8_in_0, z_1, zI_lt hz2 r1, zI_lt ra hz2]
  have bad : ∀ r, (r = X7_grey μ (zI z1) (zI z2) x3) → r = some (-1, μ) → X8_grey μ (zI z1) (zI z2) x3 = some (-1, μ) → ∃ (r : Int32) (μ1 μ2 : wd_Mem), X7_grey μ (zI z1) (zI z2) x3 = some (r, μ1) ∧ X8_grey μ1 (zI z1) (zI z2) x3 = some (r, μ2) ∧ wd_rel μ2 := fun r e1 e2 e3 => ⟨-1, μ, μ, by rw [← e1, e2], e3, h⟩
  by_cases q : (0 ≤ z1 ∧ z1 < (2 ^ n : Nat)) ∧ (0 < z2 ∧ z2 < (2 ^ n : Nat))
  · obtain ⟨⟨q1, q2⟩, q3, q4⟩ := q
    by_cases qa : zI z1 &&& zI z2 = 0
    · by_cases q01 : x3 = 0 ∨ x3 = 1
      · obtain ⟨S, rfl⟩ := Int.eq_ofNat_of_zero_le (show 0 ≤ z1 by omega)
        obtain ⟨T, rfl⟩ := Int.eq_ofNat_of_zero_le (show 0 ≤ z2 by omega)
        have hR : 1 ≤ R ∧ R ≤ 20 := ⟨hb.2.1, hb.2.2.1⟩
        have hB : ∀ i, i < n → 0 ≤ E i ∧ E i ≤ 16 ∧ 0 ≤ D i ∧ D i ≤ 9 ∧ 0 ≤ C i ∧ C i ≤ 9 := fun i hi => by
          have := hb.2.2.2 i hi
          omega
        have hV : bdV n E L D C := fun i hi => by
          have := hb.2.2.2 i hi
          omega
        obtain ⟨w, hw⟩ : ∃ w : Nat → Int, w = fun i => wrF (wrG R E D C 99 n) (S ||| 2 ^ i) 32 (-1) (S ||| 2 ^ i) := ⟨_, rfl⟩
        have lt : ∀ i, i < n → S ||| 2 ^ i < 2 ^ n ∧ 0 < S ||| 2 ^ i := fun i hi => n_or_lt n (by omega) S (by omega) (by omega) i (by omega) hi
        have hwB : ∀ i, i < n → 0 ≤ w i ∧ w i ≤ 30000 := fun i hi => by rw [hw]; exact wr_bd hn hR hB (lt i hi).2
        have hwX : ∀ i, i < n → X3_wrapOf ν (zI ((S ||| 2 ^ i : Nat) : Int)) = some (zI (w i)) := fun i hi => by
          rw [wrapX hn hR hB (by rw [t3 3 (by omega)]; exact hx.2.1) t2 (lt i hi).1, wrap_same hn hR hB (lt i hi).1 (lt i hi).2, hw]
        have hwM : ∀ i, i < n → X8_wrapOf ρ (zI ((S ||| 2 ^ i : Nat) : Int)) = some (zI (w i)) := fun i hi => by
          rw [wrapM hn hR hV hB hv (lt i hi).1, hw]
        have gX := greyX (S := S) (T := T) hn (by rw [t3 3 (by omega)]; exact hx.1) (by omega) (by omega) hwX hwB
        have gM := greyM (S := S) (T := T) (x3 := x3) hn hv.1 (by omega) (by omega) hwM hwB
        obtain ⟨j, hj, hbj⟩ := n_ex' hn (show T < 2 ^ n by omega) (by omega)
        rcases gy_cases (w := w) (T := T) n (fun j hj => (hwB j hj).1) with ⟨no, -⟩ | ⟨j, hj, hg⟩
        · rw [no j hj] at hbj; cases hbj
        · rw [hg] at gX gM
          refine ⟨if x3 = 0 then zI (w j) else zI j, ν, ρ, ?_, ?_, hr⟩
          · unfold X7_grey X7_grey_b0
            rw [if_neg (by rw [hasSet_0 hn hx.1 hz1]; omega), if_neg (by rw [hasSet_0 hn hx.1 hz2]; omega), if_neg (by rw [k0]; omega), if_pos qa, if_neg (by rw [X7_z01_0]; exact fun c => c q01), t1]
            simp only [Option.bind_some]
            rw [gX]
            simp only [Option.bind_some]
            rw [b_or1 S (by omega) j (by omega), hwX j hj]
            simp only [Option.bind_some]
            split <;> rfl
          · unfold X8_grey X8_grey_b0
            rw [if_neg (by rw [kM1 ν (t3 31 (by omega))]; omega), if_neg (by rw [kM2 ν (t3 31 (by omega))]; omega), if_pos qa, if_neg (by rw [X8_in_0, in01]; exact fun c => c q01), s1]
            simp only [Option.bind_some]
            rw [gM]
            split <;> rfl
      · refine bad _ rfl ?_ ?_
        · unfold X7_grey X7_grey_b0 X7_grey_b41 X7_grey_b26
          rw [if_neg (by rw [hasSet_0 hn hx.1 hz1]; omega), if_neg (by rw [hasSet_0 hn hx.1 hz2]; omega), if_neg (by rw [k0]; omega), if_pos qa, if_pos (by rw [X7_z01_0]; exact q01)]
        · unfold X8_grey X8_grey_b0 X8_grey_b39
          rw [if_neg (by rw [kM1 μ rfl]; omega), if_neg (by rw [kM2 μ rfl]; omega), if_pos qa, if_pos (by rw [X8_in_0, in01]; exact q01)]
    · refine bad _ rfl ?_ ?_
      · unfold X7_grey X7_grey_b0 X7_grey_b41 X7_grey_b26
        rw [if_neg (by rw [hasSet_0 hn hx.1 hz1]; omega), if_neg (by rw [hasSet_0 hn hx.1 hz2]; omega), if_neg (by rw [k0]; omega), if_neg qa]
      · unfold X8_grey X8_grey_b0 X8_grey_b39
        rw [if_neg (by rw [kM1 μ rfl]; omega), if_neg (by rw [kM2 μ rfl]; omega), if_neg qa]
  · refine bad _ rfl ?_ ?_
    · unfold X7_grey X7_grey_b0 X7_grey_b41 X7_grey_b26
      simp only [hasSet_0 hn hx.1 hz1, hasSet_0 hn hx.1 hz2, k0]
      by_cases c1 : 0 ≤ z1 ∧ z1 < (2 ^ n : Nat)
      · rw [if_neg (by omega)]
        by_cases c2 : 0 ≤ z2 ∧ z2 < (2 ^ n : Nat)
        · rw [if_neg (by omega), if_pos (by omega)]
        · rw [if_pos c2]
      · rw [if_pos c1]
    · unfold X8_grey X8_grey_b0 X8_grey_b39
      simp only [kM1 μ rfl, kM2 μ rfl]
      by_cases c1 : 0 ≤ z1 ∧ z1 < (2 ^ n : Nat)
      · rw [if_neg (by omega), if_pos (by omega)]
      · rw [if_pos (by omega)]
