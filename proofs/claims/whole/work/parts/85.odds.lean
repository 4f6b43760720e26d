/-! ===== odds ===== -/
def pcF (S : Nat) : Nat → Nat
  | 0 => 0
  | k + 1 => pcF S k + (if S.testBit k = true then 1 else 0)
theorem pc_bits0 : ∀ S, S < 32 → J6_bitCount (fun _ _ => 0) (zI ((S : Nat) : Int)) = zI ((pcF S 5 : Nat) : Int) := by decide +kernel
theorem pc_bits (μ : wd_Mem) {S : Nat} (hS : S < 32) : J6_bitCount μ (zI (S : Nat)) = zI (pcF S 5 : Nat) := pc_bits0 S hS
theorem pc_top : ∀ n, n < 6 → ∀ S, S < 32 → S < 2 ^ n → pcF S 5 = pcF S n := by decide +kernel
theorem pc_le {S : Nat} : ∀ k, pcF S k ≤ k
  | 0 => Nat.le_refl _
  | k + 1 => by
    have := pc_le (S := S) k
    simp only [pcF]
    split <;> omega
def prN (S x : Nat) : Nat → Nat
  | 0 => 1
  | k + 1 => prN S x k * (if S.testBit k = true then x else 10 - x)
theorem pr_pc {S x : Nat} : ∀ k, prN S x k = x ^ pcF S k * (10 - x) ^ (k - pcF S k)
  | 0 => rfl
  | k + 1 => by
    have ih := pr_pc (S := S) (x := x) k
    have hk := pc_le (S := S) k
    simp only [prN, pcF]
    rw [ih]
    by_cases h : S.testBit k = true
    · rw [if_pos h, if_pos h, show k + 1 - (pcF S k + 1) = k - pcF S k by omega, Nat.pow_succ, Nat.mul_right_comm]
    · rw [if_neg h, if_neg h, Nat.add_zero, show k + 1 - pcF S k = (k - pcF S k) + 1 by omega, Nat.pow_succ, Nat.mul_assoc]
theorem pr_bd {S x : Nat} (hx : x ≤ 10) : ∀ k, prN S x k ≤ 10 ^ k
  | 0 => Nat.le_refl _
  | k + 1 => by
    have ih := pr_bd (S := S) hx k
    simp only [prN]
    rw [Nat.pow_succ]
    exact Nat.mul_le_mul ih (by split <;> omega)
theorem p10 {n : Nat} (h : n ≤ 5) : 10 ^ n ≤ 100000 ∧ 0 < 10 ^ n := by
  rcases (show n = 0 ∨ n = 1 ∨ n = 2 ∨ n = 3 ∨ n = 4 ∨ n = 5 by omega) with rfl | rfl | rfl | rfl | rfl | rfl <;> decide
theorem powerX {μ : wd_Mem} {x k : Nat} (hk : k ≤ 5) : X7_power μ (zI (x : Nat)) (zI (k : Nat)) = some (zI ((x ^ k : Nat) : Int)) := by
  have key := wd_forF (fun q i v => X7_power_l4 (fun x2 => X7_power_b19 μ x2) μ (zI (x : Nat)) (zI (k : Nat)) q v (zI (i : Nat))) (fun v => some v) (fun i => zI ((x ^ i : Nat) : Int)) k (by omega) (fun i q hi => by
    show X7_power_c4 _ _ μ _ _ (zI ((x ^ i : Nat) : Int)) (zI (i : Nat)) = _
    have e1 : zI (i : Int) + (1 : Int32) = zI ((i + 1 : Nat) : Int) := by rw [z_1, zI_add]; rfl
    unfold X7_power_c4
    rw [if_neg (by rw [zI_le (zR_small (by omega) (by omega)) (zR_small (by omega) (by omega))]; omega), zI_mul, e1, Nat.pow_succ, Int.natCast_mul]) (fun q => by
    show X7_power_c4 _ _ μ _ _ _ (zI (k : Nat)) = _
    unfold X7_power_c4 X7_power_b19
    rw [if_pos (Int32.le_refl _)])
  exact key
/-- needs that grow -/
def gN (R : Nat) (c : Nat → Nat) (S i : Nat) : Nat := min R (c i + (if S.testBit i = true then 1 else 0))
section
variable {n R : Nat} {e l D c : Nat → Nat}
theorem bdS_g {S : Nat} (hb : bdS n R e l D c) : bdS n R e l D (gN R c S) := by
  refine ⟨hb.1, hb.2.1, fun i hi => ?_⟩
  have := hb.2.2 i hi
  have hR := hb.2.1
  unfold gN
  omega
theorem growX {ν : wd_Mem} {c0 : Nat → Nat} {S : Nat} (hb : bdS n R e l D c) (hS : S < 32) (hs : schX ν n R e l D c0) (h5 : ∀ i, i < n → ν 5 i = zI (c i : Nat)) : ∃ τ : wd_Mem, X2_growNeeds ν (zI (S : Nat)) = some τ ∧ schX τ n R e l D (gN R c S) ∧ ∀ a, a ≠ 24 → τ a = ν a := by
  have hn := hb.1
  have hR := hb.2.1
  obtain ⟨s1, s0, hX⟩ := hs
  have key : ∃ τ : wd_Mem, ((∀ j, j < n → τ 24 j = zI (gN R c S j : Nat)) ∧ ∀ a, a ≠ 24 → τ a = ν a) ∧ X2_growNeeds_l2 (fun μ => X2_growNeeds_b50 μ) (zI (S : Nat)) wd_big (zI ((0 : Nat) : Int)) ν = some τ := by
    refine wd_for0 (fun q i m => X2_growNeeds_l2 (fun μ => X2_growNeeds_b50 μ) (zI (S : Nat)) q (zI (i : Nat)) m) (fun m => some m) (fun i τ => (∀ j, j < i → τ 24 j = zI (gN R c S j : Nat)) ∧ ∀ a, a ≠ 24 → τ a = ν a) n ν (by omega) ⟨fun j hj => by omega, fun _ _ => rfl⟩ (fun i m q hi hI => ?_) (fun m q hI => ?_)
    · have y := hb.2.2 i hi
      refine ⟨mset m 24 i (zI (gN R c S i : Nat)), ⟨fun j hj => ?_, fun a p => by rw [mset_ne p]; exact hI.2 a p⟩, ?_⟩
      · by_cases z : j = i
        · rw [z, mset_eq]
        · rw [mset_j _ _ _ _ z]; exact hI.1 j (by omega)
      · show X2_growNeeds_c2 _ _ m _ (zI (i : Nat)) = _
        have e1 : zI (i : Int) + (1 : Int32) = zI ((i + 1 : Nat) : Int) := by rw [z_1, zI_add]; rfl
        have eb : (if S.testBit i = true then (1 : Int32) else 0) = zI ((if S.testBit i = true then 1 else 0 : Nat) : Int) := by split <;> rfl
        have hbit : (if S.testBit i = true then 1 else 0) ≤ 1 := by split <;> omega
        unfold X2_growNeeds_c2
        rw [hI.2 3 (by decide), s1, s0, if_neg (by rw [zI_le (zR_small (by omega) (by omega)) (zR_small (by omega) (by omega))]; omega), wd_chk_in (by omega) (by omega) (by omega), zI_clN (by omega), hI.2 5 (by decide), h5 i hi, b_has S hS i (by omega), eb, zI_add, e1]
        congr 2
        unfold gN
        by_cases z : c i + (if S.testBit i = true then 1 else 0) < R
        · rw [if_pos (by rw [zI_lt (zR_small (by omega) (by omega)) (zR_small (by omega) (by omega))]; omega), Nat.min_eq_right (by omega)]
          rfl
        · rw [if_neg (by rw [zI_lt (zR_small (by omega) (by omega)) (zR_small (by omega) (by omega))]; omega), Nat.min_eq_left (by omega)]
    · show X2_growNeeds_c2 _ _ m _ (zI (n : Nat)) = _
      unfold X2_growNeeds_c2 X2_growNeeds_b50
      rw [hI.2 3 (by decide), s1, if_pos (Int32.le_refl _)]
  obtain ⟨τ, ⟨k1, k2⟩, k3⟩ := key
  refine ⟨τ, k3, ⟨by rw [k2 3 (by decide)]; exact s1, by rw [k2 3 (by decide)]; exact s0, fun i hi => ?_⟩, k2⟩
  obtain ⟨d1, d2, d3, d4⟩ := hX i hi
  exact ⟨by rw [k2 4 (by decide)]; exact d1, by rw [k2 22 (by decide)]; exact d2, by rw [k2 23 (by decide)]; exact d3, k1 i hi⟩
/-- what one case weighs, if it has a schedule -/
def luF (n R : Nat) (e l D c : Nat → Nat) (x S : Nat) : Nat := if aB n R e l D (gN R c S) = true then prN S x n else 0
theorem lu_bd {x S : Nat} (hn : n ≤ 5) (hx : x ≤ 10) : luF n R e l D c x S ≤ 100000 := by
  have h1 := pr_bd (S := S) hx n
  have h2 := (p10 hn).1
  unfold luF
  split <;> omega
theorem sR_bd {F : Nat → Nat} {M : Nat} (h : ∀ S, F S ≤ M) : ∀ (r x : Nat), sR F r x ≤ r * M
  | 0, _ => Nat.zero_le _
  | r + 1, x => by
    have h1 := sR_bd h r (x + 1)
    have h2 := h x
    simp only [sR]
    rw [Nat.add_mul, Nat.one_mul]
    omega
theorem lucky1 {ν : wd_Mem} {x : Nat} (hb : bnd n R (cN e) (cN l) (cN D) (cN c)) (hx : x ≤ 10) (h5 : ∀ i, i < n → ν 5 i = zI (c i : Nat)) : ∀ (m S q f : Nat) (c0 : Nat → Nat) (τ : wd_Mem), S + m = 2 ^ n → m < q → schX τ n R e l D c0 → rLoad τ → (∀ a, a ≠ 22 → a ≠ 23 → a ≠ 24 → a ≠ 26 → τ a = ν a) → f + m * 100000 ≤ 4000000 → ∃ σ : wd_Mem, X2_luckyOf_l10 (fun x3 μ => X2_luckyOf_b86 48 μ x3) 48 (zI (x : Nat)) q (zI (f : Nat)) (zI (S : Nat)) τ = some (zI ((f + sR (luF n R e l D c x) m S : Nat) : Int), σ) ∧ frS ν σ := by
  have hB := bdS_of hb
  have hn := hb.1
  have p5 := pow5 hn
  intro m
  induction m with
  | zero =>
    intro S q f c0 τ h1 h2 hs hl hf hbd
    obtain ⟨q, rfl⟩ : ∃ a, q = a + 1 := ⟨q - 1, by omega⟩
    refine ⟨τ, ?_, hl, hf⟩
    show X2_luckyOf_c10 _ _ 48 τ _ _ (zI (S : Nat)) = _
    unfold X2_luckyOf_c10 X2_luckyOf_b86
    rw [hs.1, b_shl n (by omega), if_pos (by rw [zI_le (zR_small (by omega) (by omega)) (zR_small (by omega) (by omega))]; omega)]
    rfl
  | succ m ih =>
    intro S q f c0 τ h1 h2 hs hl hf hbd
    obtain ⟨q, rfl⟩ : ∃ a, q = a + 1 := ⟨q - 1, by omega⟩
    have hS : S < 32 := by omega
    have hSn : S < 2 ^ n := by omega
    have hpc := pc_le (S := S) n
    have hpt := pc_top n (by omega) S hS hSn
    obtain ⟨τ1, a1, a2, a3⟩ := growX hB hS hs (fun i hi => by rw [hf 5 (by decide) (by decide) (by decide) (by decide)]; exact h5 i hi)
    obtain ⟨τ2, d1, d2, d3⟩ := isAnyX (bdS_g hB) a2 (by
      intro t ht
      rw [a3 26 (by decide)]
      exact hl t ht)
    have e1 : zI (S : Int) + (1 : Int32) = zI ((S + 1 : Nat) : Int) := by rw [z_1, zI_add]; rfl
    have hw1 : X7_power τ (zI (x : Nat)) (J6_bitCount τ (zI (S : Nat))) = some (zI ((x ^ pcF S n : Nat) : Int)) := by rw [pc_bits τ hS, hpt, powerX (by omega)]
    have hw2 : X7_power τ ((10 : Int32) - zI (x : Nat)) ((τ 3 1) - J6_bitCount τ (zI (S : Nat))) = some (zI (((10 - x) ^ (n - pcF S n) : Nat) : Int)) := by
      rw [pc_bits τ hS, hpt, hs.1, z_10, zI_sub, zI_sub, show (10 : Int) - (x : Int) = ((10 - x : Nat) : Int) by omega, show (n : Int) - ((pcF S n : Nat) : Int) = ((n - pcF S n : Nat) : Int) by omega, powerX (by omega)]
    have hpr : zI ((x ^ pcF S n : Nat) : Int) * zI (((10 - x) ^ (n - pcF S n) : Nat) : Int) = zI (prN S x n : Nat) := by rw [zI_mul, ← Int.natCast_mul, ← pr_pc]
    have hprb := pr_bd (S := S) hx n
    have h10 := (p10 hn).1
    have hlu := lu_bd (R := R) (e := e) (l := l) (D := D) (c := c) (S := S) hn hx
    have hk : X2_luckyOf_l10 (fun x3 μ => X2_luckyOf_b86 48 μ x3) 48 (zI (x : Nat)) (q + 1) (zI (f : Nat)) (zI (S : Nat)) τ = (if prN S x n = 0 then X2_luckyOf_l10 (fun x3 μ => X2_luckyOf_b86 48 μ x3) 48 (zI (x : Nat)) q (zI (f : Nat)) (zI ((S + 1 : Nat) : Int)) τ1 else X2_luckyOf_l10 (fun x3 μ => X2_luckyOf_b86 48 μ x3) 48 (zI (x : Nat)) q (zI ((f + luF n R e l D c x S : Nat) : Int)) (zI ((S + 1 : Nat) : Int)) τ2) := by
      show X2_luckyOf_c10 _ _ 48 τ _ _ (zI (S : Nat)) = _
      unfold X2_luckyOf_c10 X2_luckyOf_b80
      rw [hw1, hw2]
      simp only [Option.bind_some]
      rw [hs.1, b_shl n (by omega), if_neg (by rw [zI_le (zR_small (by omega) (by omega)) (zR_small (by omega) (by omega))]; omega), a1]
      simp only [Option.bind_some]
      rw [hpr, d1, e1]
      simp only [Option.bind_some]
      by_cases hz : prN S x n = 0
      · rw [if_pos hz, if_pos (by rw [z_0, zI_le (zR_small (by omega) (by omega)) (zR_small (by omega) (by omega))]; omega)]
      · rw [if_neg hz, if_neg (by rw [z_0, zI_le (zR_small (by omega) (by omega)) (zR_small (by omega) (by omega))]; omega), bI_ite, zI_add]
        unfold luF
        by_cases hA : aB n R e l D (gN R c S) = true
        · rw [if_pos hA, if_pos hA]
          rfl
        · rw [if_neg hA, if_neg hA]
          rfl
    rw [hk]
    have hsum : sR (luF n R e l D c x) (m + 1) S = luF n R e l D c x S + sR (luF n R e l D c x) m (S + 1) := rfl
    rw [hsum]
    by_cases hz : prN S x n = 0
    · rw [if_pos hz]
      have h0 : luF n R e l D c x S = 0 := by unfold luF; rw [hz]; split <;> rfl
      rw [h0, Nat.zero_add]
      have hl1 : rLoad τ1 := rLoad_congr (a3 26 (by decide)) hl
      have hf1 : ∀ a, a ≠ 22 → a ≠ 23 → a ≠ 24 → a ≠ 26 → τ1 a = ν a := fun a p q r s => by rw [a3 a r]; exact hf a p q r s
      have hbd1 : f + m * 100000 ≤ 4000000 := Nat.le_trans (Nat.add_le_add_left (Nat.mul_le_mul_right 100000 (Nat.le_succ m)) f) hbd
      exact ih (S + 1) q f _ τ1 (by omega) (by omega) a2 hl1 hf1 hbd1
    · rw [if_neg hz, ← Nat.add_assoc]
      exact ih (S + 1) q _ _ τ2 (by omega) (by omega) (schX_congr (fun a ha => d3 a (by omega)) a2) d2 (fun a p q r s => by rw [d3 a s, a3 a r]; exact hf a p q r s) (by omega)
/-- in how many of 10 to the n equal cases there is a schedule -/
def luN (n R : Nat) (e l D c : Nat → Nat) (x : Nat) : Nat := sR (luF n R e l D c x) (2 ^ n) 0
theorem luN_bd {x : Nat} (hn : n ≤ 5) (hx : x ≤ 10) : luN n R e l D c x ≤ 3200000 := by
  have h1 := sR_bd (F := luF n R e l D c x) (fun S => lu_bd hn hx) (2 ^ n) 0
  have h2 := Nat.mul_le_mul_right 100000 (pow5 hn)
  unfold luN
  omega
theorem luckyX {ν : wd_Mem} {x : Nat} (hb : bnd n R (cN e) (cN l) (cN D) (cN c)) (hx : datX ν n R (cN e) (cN l) (cN D) (cN c)) (hl : rLoad ν) (hx10 : x ≤ 10) : ∃ τ : wd_Mem, X2_luckyOf 48 ν (zI (x : Nat)) = some (zI (luN n R e l D c x : Nat), τ) ∧ frS ν τ := by
  have hn := hb.1
  obtain ⟨τ1, a1, a2, a3⟩ := openX hn hx
  have h2 := Nat.mul_le_mul_right 100000 (pow5 hn)
  have p5 := pow5 hn
  obtain ⟨σ, k1, k2⟩ := lucky1 (ν := ν) hb hx10 (fun i hi => (hx.2.2 i hi).2.2.2) (2 ^ n) 0 wd_big 0 c τ1 (by omega) (by unfold wd_big; omega) a2 (fun t ht => by rw [a3 26 (by decide) (by decide) (by decide)]; exact hl t ht) (fun a p q r s => a3 a p q r) (by omega)
  refine ⟨σ, ?_, k2⟩
  unfold X2_luckyOf X2_luckyOf_b0
  rw [a1]
  simp only [Option.bind_some]
  have k1' : X2_luckyOf_l10 (fun x3 μ => X2_luckyOf_b86 48 μ x3) 48 (zI (x : Nat)) wd_big 0 0 τ1 = _ := k1
  rw [k1', Nat.zero_add]
  rfl
end
theorem zI_remN {a b : Nat} (ha : a < 2147483648) (hb : b < 2147483648) (h0 : 0 < b) : zI (a : Nat) - zI (a : Nat) / zI (b : Nat) * zI (b : Nat) = zI ((a % b : Nat) : Int) := by
  rw [zI_div (by omega) (by omega) (by omega) (by omega), zI_mul, zI_sub]
  congr 1
  have := Int.emod_def (a : Int) (b : Int)
  rw [Int.natCast_emod, this, Int.mul_comm]
theorem gcd_step (a b : Nat) : Nat.gcd a b = Nat.gcd b (a % b) := by
  rw [Nat.gcd_comm a b, Nat.gcd_rec b a, Nat.gcd_comm]
theorem gcdXl {μ : wd_Mem} : ∀ (m q a b : Nat), b ≤ m → m < q → a < 2147483648 → m < 2147483648 → X7_commonDivisor_l19 (fun x2 => X7_commonDivisor_b44 μ x2) μ q (zI (a : Nat)) (zI (b : Nat)) (zI (m : Nat)) = some (zI (Nat.gcd a b : Nat))
  | 0, q, a, b, h1, h2, h3, h4 => by
    obtain ⟨q, rfl⟩ : ∃ a, q = a + 1 := ⟨q - 1, by omega⟩
    show X7_commonDivisor_c19 _ _ μ _ _ _ = _
    unfold X7_commonDivisor_c19 X7_commonDivisor_b44
    rw [if_pos (by decide), show b = 0 by omega, Nat.gcd_zero_right]
  | m + 1, q, a, b, h1, h2, h3, h4 => by
    obtain ⟨q, rfl⟩ : ∃ a, q = a + 1 := ⟨q - 1, by omega⟩
    show X7_commonDivisor_c19 _ _ μ _ _ _ = _
    have em : zI ((m + 1 : Nat) : Int) + (-1 : Int32) = zI (m : Nat) := by rw [z_m1, zI_add]; congr 1; omega
    unfold X7_commonDivisor_c19
    rw [z_0, if_neg (by rw [zI_le (by unfold zR; omega) (by unfold zR; omega)]; omega)]
    by_cases hb : b = 0
    · rw [if_pos (by rw [zI_le (by unfold zR; omega) (by unfold zR; omega)]; omega), hb, Nat.gcd_zero_right]
      rfl
    · rw [if_neg (by rw [zI_le (by unfold zR; omega) (by unfold zR; omega)]; omega), wd_chk_nz (by unfold zR; omega) (by omega), zI_remN h3 (by omega) (by omega), em, gcd_step a b]
      have := Nat.mod_lt a (show 0 < b by omega)
      exact gcdXl m q b (a % b) (by omega) (by omega) (by omega) (by omega)
theorem gcdX {μ : wd_Mem} {a b : Nat} (ha : a < 2147483648) (hb : b < 2147483648) : X7_commonDivisor μ (zI (a : Nat)) (zI (b : Nat)) = some (zI (Nat.gcd a b : Nat)) := by
  unfold X7_commonDivisor X7_commonDivisor_b0
  rw [zl_lt (by unfold zR; omega) (by unfold zR; omega), zl_lt (by unfold zR; omega) (by unfold zR; omega)]
  by_cases h : a < b
  · rw [if_pos (by omega), if_neg (by omega), Nat.gcd_comm]
    exact gcdXl a wd_big b a (Nat.le_refl _) (by unfold wd_big; omega) hb ha
  · by_cases h2 : b < a
    · rw [if_neg (by omega), if_pos (by omega)]
      exact gcdXl b wd_big a b (Nat.le_refl _) (by unfold wd_big; omega) ha hb
    · rw [if_neg (by omega), if_neg (by omega), show b = a by omega]
      exact gcdXl a wd_big a a (Nat.le_refl _) (by unfold wd_big; omega) ha ha
theorem gcdM {μ : wd_Mem} {x2 x3 x4 : Int32} (K : Int32 → Option (Int32 × wd_Mem)) : ∀ (m q a b : Nat), b ≤ m → m < q → a < 2147483648 → m < 2147483648 → X8_odds_l197 K μ x2 x3 x4 q (zI (a : Nat)) (zI (b : Nat)) = K (zI (Nat.gcd a b : Nat))
  | 0, q, a, b, h1, h2, h3, h4 => by
    obtain ⟨q, rfl⟩ : ∃ a, q = a + 1 := ⟨q - 1, by omega⟩
    show X8_odds_c197 _ _ μ _ _ _ _ _ = _
    unfold X8_odds_c197
    rw [show b = 0 by omega, if_pos (by decide), Nat.gcd_zero_right]
  | m + 1, q, a, b, h1, h2, h3, h4 => by
    obtain ⟨q, rfl⟩ : ∃ a, q = a + 1 := ⟨q - 1, by omega⟩
    show X8_odds_c197 _ _ μ _ _ _ _ _ = _
    unfold X8_odds_c197
    by_cases hb : b = 0
    · rw [hb, if_pos (by decide), Nat.gcd_zero_right]
    · rw [z_0, if_neg (by rw [zI_eq (by unfold zR; omega) (by unfold zR; omega)]; omega), wd_chk_nz (by unfold zR; omega) (by omega), zI_remN h3 (by omega) (by omega), gcd_step a b]
      have := Nat.mod_lt a (show 0 < b by omega)
      exact gcdM K m q b (a % b) (by omega) (by omega) (by omega) (by omega)
