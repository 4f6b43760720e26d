/-! ===== odds: the reference, and both ===== -/
section
variable {n R : Nat} {e l D c : Nat → Nat}
theorem any16 {c' : Nat → Nat} (hb : bdS n R e l D c') : aB n R e l D c' = decide (0 < (aL n R e (lU l 16) D c' (qT (-9) 0)).length) := by
  rw [Bool.eq_iff_iff, aB_iff, decide_eq_true_eq, aL_pos]
  constructor
  · rintro ⟨b, h⟩
    exact ⟨b, (fea_16 hb).mpr h, fun _ _ => q9⟩
  · rintro ⟨b, h, -⟩
    exact ⟨b, (fea_16 hb).mp h⟩
theorem growM {ν : wd_Mem} {x S : Nat} {x2 x3 x4 : Int32} (K : Int32 → wd_Mem → Option (Int32 × wd_Mem)) (hb : bnd n R (cN e) (cN l) (cN D) (cN c)) (hm : datM ν n R (cN e) (cN l) (cN D) (cN c)) (hx : x ≤ 10) (hS : S < 32) : ∃ τ : wd_Mem, X8_odds_l67 K (zI (x : Nat)) x2 x3 x4 (zI (S : Nat)) wd_big 1 0 ν = K (zI (prN S x n : Nat)) τ ∧ schM τ n R e l D (gN R c S) ∧ ∀ a, a ≠ 47 → τ a = ν a := by
  have hn := hb.1
  obtain ⟨m0, m1, hM⟩ := hm
  have key : ∃ s : Int32 × wd_Mem, (s.1 = zI (prN S x n : Nat) ∧ (∀ j, j < n → s.2 47 j = zI (gN R c S j : Nat)) ∧ ∀ a, a ≠ 47 → s.2 a = ν a) ∧ X8_odds_l67 K (zI (x : Nat)) x2 x3 x4 (zI (S : Nat)) wd_big (zI ((1 : Nat) : Int)) (zI ((0 : Nat) : Int)) ν = K s.1 s.2 := by
    refine wd_for0 (fun q i (s : Int32 × wd_Mem) => X8_odds_l67 K (zI (x : Nat)) x2 x3 x4 (zI (S : Nat)) q s.1 (zI (i : Nat)) s.2) (fun s => K s.1 s.2) (fun i s => s.1 = zI (prN S x i : Nat) ∧ (∀ j, j < i → s.2 47 j = zI (gN R c S j : Nat)) ∧ ∀ a, a ≠ 47 → s.2 a = ν a) n (zI ((1 : Nat) : Int), ν) (by omega) ⟨rfl, fun j hj => by omega, fun _ _ => rfl⟩ (fun i s q hi hI => ?_) (fun s q hI => ?_)
    · obtain ⟨p, m⟩ := s
      obtain ⟨h1, h2, h3⟩ := hI
      dsimp only at h1 h2 h3
      obtain ⟨c1, c2, c3, c4⟩ := hM i hi
      have y := hb.2.2.2 i hi
      have yR := hb.2.2.1
      simp only [cN] at y
      have hc4 : ν 33 i = zI (c i : Nat) := c4
      refine ⟨(zI (prN S x (i + 1) : Nat), mset m 47 i (zI (gN R c S i : Nat))), ⟨rfl, fun j hj => ?_, fun a ha => by show mset m 47 i _ a = _; rw [mset_ne ha]; exact h3 a ha⟩, ?_⟩
      · show mset m 47 i (zI (gN R c S i : Nat)) 47 j = _
        by_cases z : j = i
        · rw [z, mset_eq]
        · rw [mset_j _ _ _ _ z]; exact h2 j (by omega)
      · show X8_odds_c67 _ _ m (zI (x : Nat)) x2 x3 x4 (zI (S : Nat)) p (zI (i : Nat)) = _
        have e1 : zI (i : Int) + (1 : Int32) = zI ((i + 1 : Nat) : Int) := by rw [z_1, zI_add]; rfl
        have b125 : ∀ v : Nat, v = gN R c S i → X8_odds_b125 (X8_odds_l67 K (zI (x : Nat)) x2 x3 x4 (zI (S : Nat)) q) K m (zI (x : Nat)) x2 x3 x4 (zI (S : Nat)) p (zI (i : Nat)) (zI (i : Nat)) (zI (v : Nat)) = X8_odds_l67 K (zI (x : Nat)) x2 x3 x4 (zI (S : Nat)) q (zI (prN S x (i + 1) : Nat)) (zI ((i + 1 : Nat) : Int)) (mset m 47 i (zI (gN R c S i : Nat))) := by
          intro v hv
          unfold X8_odds_b125 X8_odds_b146
          rw [wd_chk_in (by omega) (by omega) (by omega), zI_clN (by omega), bit_iteM _ hS (by omega), hv, e1, h1]
          have ep : prN S x (i + 1) = prN S x i * (if S.testBit i = true then x else 10 - x) := rfl
          rw [ep]
          by_cases hbit : S.testBit i = true
          · rw [if_pos hbit, if_pos hbit, zI_mul, Int.natCast_mul]
          · rw [if_neg hbit, if_neg hbit, z_10, zI_sub, show (10 : Int) - (x : Int) = ((10 - x : Nat) : Int) by omega, zI_mul, Int.natCast_mul]
        unfold X8_odds_c67 X8_odds_b118
        rw [h3 31 (by decide), m0, m1, if_neg (by rw [zI_le (zR_small (by omega) (by omega)) (zR_small (by omega) (by omega))]; omega), bit_iteM _ hS (by omega), wd_chk_in (by omega) (by omega) (by omega), wd_chk_in (by omega) (by omega) (by omega), zI_clN (by omega), h3 33 (by decide), hc4]
        by_cases hbit : S.testBit i = true
        · have hgT : gN R c S i = min R (c i + 1) := by unfold gN; rw [if_pos hbit]
          rw [if_pos hbit, zl_le (zR_small (by omega) (by omega)) (zR_small (by omega) (by omega))]
          by_cases hr : R ≤ c i
          · rw [if_pos (by omega)]
            exact b125 (c i) (by rw [hgT]; omega)
          · rw [if_neg (by omega), z_1, zI_add]
            exact b125 (c i + 1) (by rw [hgT]; omega)
        · have hgF : gN R c S i = min R (c i + 0) := by unfold gN; rw [if_neg hbit]
          rw [if_neg hbit]
          exact b125 (c i) (by rw [hgF]; omega)
    · obtain ⟨p, m⟩ := s
      obtain ⟨h1, h2, h3⟩ := hI
      show X8_odds_c67 _ _ m (zI (x : Nat)) x2 x3 x4 (zI (S : Nat)) p (zI (n : Nat)) = _
      unfold X8_odds_c67
      dsimp only at h3
      rw [h3 31 (by decide), m0, if_pos (Int32.le_refl _)]
  obtain ⟨⟨p, τ⟩, ⟨k1, k2, k3⟩, k4⟩ := key
  dsimp only at k1 k2 k3 k4
  refine ⟨τ, ?_, ⟨by rw [k3 31 (by decide)]; exact m0, by rw [k3 31 (by decide)]; exact m1, fun i hi => ⟨?_, ?_, ?_, k2 i hi⟩⟩, k3⟩
  · rw [k1] at k4
    exact k4
  · rw [k3 34 (by decide)]; exact (hM i hi).1
  · rw [k3 34 (by decide)]; exact (hM i hi).2.1
  · rw [k3 32 (by decide)]; exact (hM i hi).2.2.1
theorem datM_f {ν τ : wd_Mem} (f : ∀ a, ¬ (45 ≤ a ∧ a ≤ 47) → τ a = ν a) (h : datM ν n R (cN e) (cN l) (cN D) (cN c)) : datM τ n R (cN e) (cN l) (cN D) (cN c) := datM_congr (f 31 (by omega)) (f 34 (by omega)) (f 32 (by omega)) (f 33 (by omega)) h
theorem luckyM {ν : wd_Mem} {x : Nat} {x2 x3 : Int32} (K : Int32 → wd_Mem → Option (Int32 × wd_Mem)) (hb : bnd n R (cN e) (cN l) (cN D) (cN c)) (hm : datM ν n R (cN e) (cN l) (cN D) (cN c)) (hx : x ≤ 10) : ∀ (m S q f : Nat) (τ : wd_Mem), S + m = 2 ^ n → m < q → (∀ a, ¬ (45 ≤ a ∧ a ≤ 47) → τ a = ν a) → ∃ σ : wd_Mem, X8_odds_l52 K (zI (x : Nat)) x2 x3 q (zI (f : Nat)) (zI (S : Nat)) τ = K (zI ((f + sR (luF n R e l D c x) m S : Nat) : Int)) σ ∧ ∀ a, ¬ (45 ≤ a ∧ a ≤ 47) → σ a = ν a := by
  have hB := bdS_of hb
  have hn := hb.1
  have p5 := pow5 hn
  have pp : 0 < 2 ^ n := Nat.two_pow_pos n
  intro m
  induction m with
  | zero =>
    intro S q f τ h1 h2 hf
    obtain ⟨q, rfl⟩ : ∃ a, q = a + 1 := ⟨q - 1, by omega⟩
    refine ⟨τ, ?_, hf⟩
    show X8_odds_c52 _ _ τ _ _ _ _ (zI (S : Nat)) = _
    unfold X8_odds_c52
    rw [all_eq hn (by rw [hf 31 (by omega)]; exact hm.1), if_pos (by rw [zI_lt (zR_small (by omega) (by omega)) (zR_small (by omega) (by omega))]; omega)]
    rfl
  | succ m ih =>
    intro S q f τ h1 h2 hf
    obtain ⟨q, rfl⟩ : ∃ a, q = a + 1 := ⟨q - 1, by omega⟩
    have hS : S < 32 := by omega
    have e1 : zI (S : Int) + (1 : Int32) = zI ((S + 1 : Nat) : Int) := by rw [z_1, zI_add]; rfl
    have hprb := pr_bd (S := S) hx n
    have h10 := (p10 hn).1
    obtain ⟨τ1, a1, a2, a3⟩ := growM (ν := τ) (x2 := x2) (x3 := x3) (x4 := zI (f : Nat)) (fun x6 μ => X8_odds_b155 (X8_odds_l52 K (zI (x : Nat)) x2 x3 q) K μ (zI (x : Nat)) x2 x3 (zI (f : Nat)) (zI (S : Nat)) x6) hb (datM_f hf hm) hx hS
    obtain ⟨τ2, d1, -, d3⟩ := schedM (lim := 1) (U := 16) (T := -9) (A := 0) (bdS_U (bdS_g (S := S) hB)) (fun j hj => (hB.2.2 j hj).2.1) (by omega) (by omega) (by omega) (by omega) a2
    have hk : ∃ τ3 : wd_Mem, (∀ a, ¬ (45 ≤ a ∧ a ≤ 47) → τ3 a = ν a) ∧ X8_odds_l52 K (zI (x : Nat)) x2 x3 (q + 1) (zI (f : Nat)) (zI (S : Nat)) τ = X8_odds_l52 K (zI (x : Nat)) x2 x3 q (zI ((f + luF n R e l D c x S : Nat) : Int)) (zI ((S + 1 : Nat) : Int)) τ3 := by
      have e0 : X8_odds_l52 K (zI (x : Nat)) x2 x3 (q + 1) (zI (f : Nat)) (zI (S : Nat)) τ = X8_odds_b155 (X8_odds_l52 K (zI (x : Nat)) x2 x3 q) K τ1 (zI (x : Nat)) x2 x3 (zI (f : Nat)) (zI (S : Nat)) (zI (prN S x n : Nat)) := by
        show X8_odds_c52 _ _ τ _ _ _ _ (zI (S : Nat)) = _
        unfold X8_odds_c52
        rw [all_eq hn (by rw [hf 31 (by omega)]; exact hm.1), if_neg (by rw [zI_lt (zR_small (by omega) (by omega)) (zR_small (by omega) (by omega))]; omega)]
        exact a1
      rw [e0]
      unfold X8_odds_b155 X8_odds_b180 X8_odds_b181
      have d1' : X8_schedules τ1 (1 : Int32) (16 : Int32) (-9 : Int32) (0 : Int32) = _ := d1
      rw [d1', e1]
      simp only [Option.bind_some]
      by_cases hz : prN S x n = 0
      · refine ⟨τ1, fun a p => by rw [a3 a (by omega), hf a p], ?_⟩
        have h0 : luF n R e l D c x S = 0 := by unfold luF; rw [hz]; split <;> rfl
        rw [if_pos (by rw [z_0, zI_le (zR_small (by omega) (by omega)) (zR_small (by omega) (by omega))]; omega), h0, z_0, zI_add]
        rfl
      · refine ⟨τ2, fun a p => by rw [d3 a (by omega) (by omega), a3 a (by omega), hf a p], ?_⟩
        rw [if_neg (by rw [z_0, zI_le (zR_small (by omega) (by omega)) (zR_small (by omega) (by omega))]; omega)]
        unfold luF
        rw [any16 (bdS_g (S := S) hB)]
        by_cases hA : 0 < (aL n R e (lU l 16) D (gN R c S) (qT (-9) 0)).length
        · rw [if_neg (by rw [z_0, zI_le (zR_small (by omega) (by omega)) (zR_small (by omega) (by omega))]; omega), if_pos (decide_eq_true hA), zI_add]
          rfl
        · rw [if_pos (by rw [z_0, zI_le (zR_small (by omega) (by omega)) (zR_small (by omega) (by omega))]; omega), if_neg (fun h => hA (of_decide_eq_true h)), z_0, zI_add]
          rfl
    obtain ⟨τ3, g1, g2⟩ := hk
    obtain ⟨σ, k1, k2⟩ := ih (S + 1) q (f + luF n R e l D c x S) τ3 (by omega) (by omega) g1
    refine ⟨σ, ?_, k2⟩
    rw [g2, k1]
    have hsum : sR (luF n R e l D c x) (m + 1) S = luF n R e l D c x S + sR (luF n R e l D c x) m (S + 1) := rfl
    rw [hsum, Nat.add_assoc]
theorem wholeM {ν : wd_Mem} {x1 x2 : Int32} (K : Int32 → Option (Int32 × wd_Mem)) (hn : n ≤ 5) (h0 : ν 31 0 = zI n) : X8_odds_l26 K ν x1 x2 wd_big 1 0 = K (zI ((10 ^ n : Nat) : Int)) := by
  exact wd_forF (fun q i v => X8_odds_l26 K ν x1 x2 q v (zI (i : Nat))) K (fun i => zI ((10 ^ i : Nat) : Int)) n (by omega) (fun i q hi => by
    show X8_odds_c26 _ _ ν _ _ (zI ((10 ^ i : Nat) : Int)) (zI (i : Nat)) = _
    have e1 : zI (i : Int) + (1 : Int32) = zI ((i + 1 : Nat) : Int) := by rw [z_1, zI_add]; rfl
    unfold X8_odds_c26
    rw [h0, if_neg (by rw [zI_le (zR_small (by omega) (by omega)) (zR_small (by omega) (by omega))]; omega), z_10, zI_mul, e1, Nat.pow_succ, Int.natCast_mul]
    rfl) (fun q => by
    show X8_odds_c26 _ _ ν _ _ _ (zI (n : Nat)) = _
    unfold X8_odds_c26
    rw [h0, if_pos (Int32.le_refl _)])
end
theorem op_odds (μ : wd_Mem) (x1 x2 : Int32) (h : wd_rel μ) : ∃ (r : Int32) (μ1 μ2 : wd_Mem), X7_odds μ x1 x2 = some (r, μ1) ∧ X8_odds μ1 x1 x2 = some (r, μ2) ∧ wd_rel μ2 := by
  have h' := h
  obtain ⟨hT, hS, hL, n, hK, hW, hH, hI⟩ := h
  obtain ⟨R, e, l, D, c, hb, hx, hm⟩ := rel_N hK hW
  have hn := hK.1
  obtain ⟨z, rfl, hz⟩ := zI_x x1
  have r0 : zR 0 := zR_small (by omega) (by omega)
  have r10 : zR 10 := zR_small (by omega) (by omega)
  by_cases q1 : 0 ≤ z ∧ z ≤ 10
  · by_cases q2 : x2 = 0 ∨ x2 = 1
    · obtain ⟨x, rfl⟩ := Int.eq_ofNat_of_zero_le q1.1
      have hx10 : x ≤ 10 := by omega
      obtain ⟨τ, b1, b2, b3⟩ := luckyX (x := x) hb hx hL hx10
      have b3' : ∀ a, a ≠ 22 → a ≠ 23 → a ≠ 24 → a ≠ 26 → τ a = μ a := b3
      have hmτ : datM τ n R (cN e) (cN l) (cN D) (cN c) := datM_congr (b3 31 (by decide) (by decide) (by decide) (by decide)) (b3 34 (by decide) (by decide) (by decide) (by decide)) (b3 32 (by decide) (by decide) (by decide) (by decide)) (b3 33 (by decide) (by decide) (by decide) (by decide)) hm
      have p5 := pow5 hn
      have hN := luN_bd (R := R) (e := e) (l := l) (D := D) (c := c) (x := x) hn hx10
      obtain ⟨t1, t2⟩ := p10 hn
      obtain ⟨N, hNe⟩ : ∃ N, N = luN n R e l D c x := ⟨_, rfl⟩
      obtain ⟨W, hWe⟩ : ∃ W, W = 10 ^ n := ⟨_, rfl⟩
      rw [← hNe] at hN b1
      rw [← hWe] at t1 t2
      have hg : 0 < Nat.gcd N W := Nat.gcd_pos_of_pos_right _ t2
      have hg2 : Nat.gcd N W ≤ W := Nat.gcd_le_right _ t2
      obtain ⟨σ, k1, k2⟩ := luckyM (ν := τ) (x := x) (x2 := x2) (x3 := zI (W : Nat)) (fun x4 μ => X8_odds_b190 μ x2 (zI (W : Nat)) x4) hb hmτ hx10 (2 ^ n) 0 wd_big 0 τ (by omega) (by unfold wd_big; omega) (fun _ _ => rfl)
      refine ⟨if x2 = 0 then zI (N : Nat) / zI (Nat.gcd N W : Nat) else zI (W : Nat) / zI (Nat.gcd N W : Nat), τ, σ, ?_, ?_, rel_scratch h' (fun a x y => by rw [k2 a (by omega), b3 a (by omega) (by omega) (by omega) (by omega)]) ?_ (rLoad_congr (k2 26 (by omega)) b2)⟩
      · unfold X7_odds X7_odds_b0
        have hp : X7_power τ (10 : Int32) (τ 3 1) = some (zI (W : Nat)) := by
          rw [b3' 3 (by decide) (by decide) (by decide) (by decide), hx.1, hWe]
          exact powerX (x := 10) hn
        rw [if_neg (by rw [z_0, zI_lt hz r0]; omega), z_10, if_neg (by rw [zI_lt r10 hz]; omega), if_neg (by rw [X7_z01_0]; exact not_not_intro q2), b1]
        simp only [Option.bind_some]
        rw [← z_10, hp]
        simp only [Option.bind_some]
        rw [gcdX (by omega) (by omega)]
        simp only [Option.bind_some]
        rw [if_pos (by rw [z_0, zI_lt (by unfold zR; omega) (by unfold zR; omega)]; omega), wd_chk_nz (by unfold zR; omega) (by omega)]
        by_cases q3 : x2 = 0
        · rw [if_pos q3, if_pos q3]
        · rw [if_neg q3, if_neg q3, wd_chk_nz (by unfold zR; omega) (by omega)]
      · unfold X8_odds X8_odds_b0
        rw [if_neg (by rw [X8_in_0, z_0, z_10, zI_lt hz r0, zI_lt r10 hz]; omega), if_neg (by rw [X8_in_0, in01]; exact not_not_intro q2), wholeM _ hn hmτ.1, ← hWe]
        unfold X8_odds_b46
        have k1' : X8_odds_l52 (fun x4 μ => X8_odds_b190 μ x2 (zI (W : Nat)) x4) (zI (x : Nat)) x2 (zI (W : Nat)) wd_big 0 0 τ = _ := k1
        rw [k1', Nat.zero_add, show sR (luF n R e l D c x) (2 ^ n) 0 = N from hNe.symm]
        unfold X8_odds_b190
        rw [gcdM _ W wd_big N W (Nat.le_refl _) (by unfold wd_big; omega) (by omega) (by omega)]
        unfold X8_odds_b220
        rw [wd_chk_nz (by unfold zR; omega) (by omega), wd_chk_nz (by unfold zR; omega) (by omega)]
        by_cases q3 : x2 = 0
        · rw [if_pos q3, if_pos q3]
        · rw [if_neg q3, if_neg q3]
      · have g : ∀ a, 14 ≤ a → a ≤ 17 → σ a = μ a := fun a x y => by rw [k2 a (by omega), b3 a (by omega) (by omega) (by omega) (by omega)]
        exact rSight_congr (g 14 (by omega) (by omega)) (g 15 (by omega) (by omega)) (g 16 (by omega) (by omega)) (g 17 (by omega) (by omega)) hS
    · refine ⟨-1, μ, μ, ?_, ?_, h'⟩
      · unfold X7_odds X7_odds_b0 X7_odds_b17
        rw [if_neg (by rw [z_0, zI_lt hz r0]; omega), z_10, if_neg (by rw [zI_lt r10 hz]; omega), if_pos (by rw [X7_z01_0]; exact q2)]
      · unfold X8_odds X8_odds_b0 X8_odds_b19
        rw [if_neg (by rw [X8_in_0, z_0, z_10, zI_lt hz r0, zI_lt r10 hz]; omega), if_pos (by rw [X8_in_0, in01]; exact q2)]
  · refine ⟨-1, μ, μ, ?_, ?_, h'⟩
    · unfold X7_odds X7_odds_b0 X7_odds_b17
      by_cases q3 : z < 0
      · rw [if_pos (by rw [z_0, zI_lt hz r0]; exact q3)]
      · rw [if_neg (by rw [z_0, zI_lt hz r0]; exact q3), if_pos (by rw [z_10, zI_lt r10 hz]; omega)]
    · unfold X8_odds X8_odds_b0 X8_odds_b19
      rw [if_pos (by rw [X8_in_0, z_0, z_10, zI_lt hz r0, zI_lt r10 hz]; omega)]
