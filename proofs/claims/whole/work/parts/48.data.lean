/-! ===== the data as numbers, on both sides; BROKEN ===== -/
def bnd (n : Nat) (R : Int) (E L D C : Nat → Int) : Prop := n ≤ 5 ∧ 1 ≤ R ∧ R ≤ 20 ∧ ∀ i, i < n → 0 ≤ E i ∧ E i ≤ 16 ∧ 0 ≤ L i ∧ L i ≤ 16 ∧ 1 ≤ D i ∧ D i ≤ 9 ∧ 1 ≤ C i ∧ C i ≤ 9 ∧ C i ≤ R
def datX (μ : wd_Mem) (n : Nat) (R : Int) (E L D C : Nat → Int) : Prop := μ 3 1 = zI n ∧ μ 3 0 = zI R ∧ ∀ i, i < n → μ 49 i = zI (E i) ∧ μ 49 (5 + i) = zI (L i) ∧ μ 4 i = zI (D i) ∧ μ 5 i = zI (C i)
def datM (μ : wd_Mem) (n : Nat) (R : Int) (E L D C : Nat → Int) : Prop := μ 31 0 = zI n ∧ μ 31 1 = zI R ∧ ∀ i, i < n → μ 34 i = zI (E i) ∧ μ 34 (5 + i) = zI (L i) ∧ μ 32 i = zI (D i) ∧ μ 33 i = zI (C i)
theorem rel_dat {μ : wd_Mem} {n : Nat} (hK : rTask μ n) (hW : wdW μ n 48 34 0) : ∃ (R : Int) (E L D C : Nat → Int), bnd n R E L D C ∧ datX μ n R E L D C ∧ datM μ n R E L D C := by
  obtain ⟨hn, e1, e2, R, r1, r2, e3, e4, ht⟩ := hK
  have key : ∀ i, i < n → (μ 49 i = zI (μ 49 i).toInt ∧ μ 34 i = zI (μ 49 i).toInt ∧ 0 ≤ (μ 49 i).toInt ∧ (μ 49 i).toInt ≤ 16) ∧ (μ 49 (5 + i) = zI (μ 49 (5 + i)).toInt ∧ μ 34 (5 + i) = zI (μ 49 (5 + i)).toInt ∧ 0 ≤ (μ 49 (5 + i)).toInt ∧ (μ 49 (5 + i)).toInt ≤ 16) ∧ (μ 4 i = zI (μ 4 i).toInt ∧ μ 32 i = zI (μ 4 i).toInt ∧ 1 ≤ (μ 4 i).toInt ∧ (μ 4 i).toInt ≤ 9) ∧ (μ 5 i = zI (μ 5 i).toInt ∧ μ 33 i = zI (μ 5 i).toInt ∧ 1 ≤ (μ 5 i).toInt ∧ (μ 5 i).toInt ≤ 9 ∧ (μ 5 i).toInt ≤ R) := by
    intro i hi
    obtain ⟨⟨e, l, a1, a2, a3, a4, b1, b2, b3, b4⟩, -⟩ := hW i hi
    obtain ⟨d, c, d1, d2, d3, d4, d5, f1, f2, f3, f4⟩ := ht i hi
    simp only [Nat.zero_add] at b2 b4
    simp only [Nat.reduceAdd] at b1 b3
    have t1 : (μ 49 i).toInt = e := by rw [b1, zI_toInt (by omega) (by omega)]
    have t2 : (μ 49 (5 + i)).toInt = l := by rw [b3, zI_toInt (by omega) (by omega)]
    have t3 : (μ 4 i).toInt = d := by rw [f1, zI_toInt (by omega) (by omega)]
    have t4 : (μ 5 i).toInt = c := by rw [f3, zI_toInt (by omega) (by omega)]
    rw [t1, t2, t3, t4]
    exact ⟨⟨b1, b2, a1, a2⟩, ⟨b3, b4, a3, a4⟩, ⟨f1, f2, d1, d2⟩, ⟨f3, f4, d3, d4, d5⟩⟩
  refine ⟨R, fun i => (μ 49 i).toInt, fun i => (μ 49 (5 + i)).toInt, fun i => (μ 4 i).toInt, fun i => (μ 5 i).toInt, ⟨hn, r1, r2, fun i hi => ?_⟩, ⟨e1, e3, fun i hi => ?_⟩, ⟨e2, e4, fun i hi => ?_⟩⟩
  · obtain ⟨⟨-, -, a, b⟩, ⟨-, -, c, d⟩, ⟨-, -, e, f⟩, ⟨-, -, g, h, k⟩⟩ := key i hi
    exact ⟨a, b, c, d, e, f, g, h, k⟩
  · obtain ⟨⟨a, -⟩, ⟨b, -⟩, ⟨c, -⟩, ⟨d, -⟩⟩ := key i hi
    exact ⟨a, b, c, d⟩
  · obtain ⟨⟨-, a, -⟩, ⟨-, b, -⟩, ⟨-, c, -⟩, ⟨-, d, -⟩⟩ := key i hi
    exact ⟨a, b, c, d⟩
/-- one of f i .. f (i + m - 1) -/
def anyF (f : Nat → Bool) : Nat → Nat → Bool
  | _, 0 => false
  | i, m + 1 => f i || anyF f (i + 1) m
theorem anyF_iff (f : Nat → Bool) : ∀ (m i : Nat), anyF f i m = true ↔ ∃ j, i ≤ j ∧ j < i + m ∧ f j = true
  | 0, i => by
    simp only [anyF]
    constructor
    · intro h; cases h
    · rintro ⟨j, h1, h2, -⟩; omega
  | m + 1, i => by
    simp only [anyF, Bool.or_eq_true, anyF_iff f m (i + 1)]
    constructor
    · rintro (h | ⟨j, h1, h2, h3⟩)
      · exact ⟨i, by omega, by omega, h⟩
      · exact ⟨j, by omega, by omega, h3⟩
    · rintro ⟨j, h1, h2, h3⟩
      by_cases hj : j = i
      · subst hj; exact Or.inl h3
      · exact Or.inr ⟨j, by omega, by omega, h3⟩
def bI (b : Bool) : Int32 := if b = true then 1 else 0
theorem bI_0 {b : Bool} : bI b = 0 ↔ b = false := by cases b <;> decide
theorem bI_bit (b : Bool) : wd_bit (bI b) = true := by cases b <;> decide
def brk (n : Nat) (E L D : Nat → Int) : Bool := anyF (fun i => decide (L i < E i + D i)) 0 n
theorem broX {μ : wd_Mem} {n : Nat} {R : Int} {E L D C : Nat → Int} (hb : bnd n R E L D C) (hx : datX μ n R E L D C) : X6_isBroken 48 3 μ = some (bI (brk n E L D)) := by
  have key : ∀ (m i q : Nat), i + m = n → m < q → X6_isBroken_l2 (X6_isBroken_b40 48 3 μ) 48 3 μ q (zI i) = some (bI (anyF (fun i => decide (L i < E i + D i)) i m)) := by
    obtain ⟨hn, -, -, hB⟩ := hb
    obtain ⟨x1, -, hX⟩ := hx
    intro m
    induction m with
    | zero =>
      intro i q hi hq
      obtain ⟨q, rfl⟩ : ∃ a, q = a + 1 := ⟨q - 1, by omega⟩
      show X6_isBroken_c2 _ _ 48 3 μ (zI i) = _
      unfold X6_isBroken_c2
      rw [x1, if_pos (by rw [zI_le (zR_small (by omega) (by omega)) (zR_small (by omega) (by omega))]; omega)]
      rfl
    | succ m ih =>
      intro i q hi hq
      obtain ⟨q, rfl⟩ : ∃ a, q = a + 1 := ⟨q - 1, by omega⟩
      obtain ⟨a1, a2, a3, a4, a5, a6, -⟩ := hB i (by omega)
      obtain ⟨c1, c2, c3, -⟩ := hX i (by omega)
      show X6_isBroken_c2 _ _ 48 3 μ (zI i) = _
      unfold X6_isBroken_c2
      rw [x1, if_neg (by rw [zI_le (zR_small (by omega) (by omega)) (zR_small (by omega) (by omega))]; omega), z_0, show zI 0 = zI ((0 : Nat) : Int) from rfl, edge_eq (by omega) (by omega), z_1, show zI 1 = zI ((1 : Nat) : Int) from rfl, edge_eq (by omega) (by omega)]
      simp only [Option.bind_some]
      rw [wd_chk_in (by omega) (by omega) (by omega), zI_clN (by omega)]
      simp only [Nat.mul_zero, Nat.zero_add, Nat.mul_one, Nat.reduceAdd]
      rw [c1, c2, c3, zI_add]
      simp only [anyF]
      by_cases hc : L i < E i + D i
      · rw [if_neg (by rw [zI_le (zR_small (by omega) (by omega)) (zR_small (by omega) (by omega))]; omega)]
        simp only [hc, decide_true, Bool.true_or, bI, if_true]
        rfl
      · rw [if_pos (by rw [zI_le (zR_small (by omega) (by omega)) (zR_small (by omega) (by omega))]; omega)]
        have e1 : zI (i : Int) + zI ((1 : Nat) : Int) = zI ((i + 1 : Nat) : Int) := by rw [zI_add]; rfl
        rw [e1, ih (i + 1) q (by omega) (by omega)]
        simp [hc]
  unfold X6_isBroken X6_isBroken_b0 brk
  rw [z_0]
  exact key n 0 wd_big (by omega) (by have := hb.1; unfold wd_big; omega)
theorem broM {μ : wd_Mem} {n : Nat} {R : Int} {E L D C : Nat → Int} (hb : bnd n R E L D C) (hx : datM μ n R E L D C) : X8_isBroken μ = some (bI (brk n E L D)) := by
  have key : ∀ (m i q : Nat) (b : Bool), i + m = n → m < q → X8_isBroken_l4 (fun x1 => X8_isBroken_b54 μ x1) μ q (bI b) (zI i) = some (bI (b || anyF (fun i => decide (L i < E i + D i)) i m)) := by
    obtain ⟨hn, -, -, hB⟩ := hb
    obtain ⟨x1, -, hX⟩ := hx
    intro m
    induction m with
    | zero =>
      intro i q b hi hq
      obtain ⟨q, rfl⟩ : ∃ a, q = a + 1 := ⟨q - 1, by omega⟩
      show X8_isBroken_c4 _ _ μ (bI b) (zI i) = _
      unfold X8_isBroken_c4 X8_isBroken_b54
      rw [x1, if_pos (by rw [zI_le (zR_small (by omega) (by omega)) (zR_small (by omega) (by omega))]; omega)]
      dsimp only
      rw [wd_chk_t (bI_bit b)]
      simp [anyF]
    | succ m ih =>
      intro i q b hi hq
      obtain ⟨q, rfl⟩ : ∃ a, q = a + 1 := ⟨q - 1, by omega⟩
      obtain ⟨a1, a2, a3, a4, a5, a6, -⟩ := hB i (by omega)
      obtain ⟨c1, c2, c3, -⟩ := hX i (by omega)
      have e1 : zI (i : Int) + (1 : Int32) = zI ((i + 1 : Nat) : Int) := by rw [z_1, zI_add]; rfl
      show X8_isBroken_c4 _ _ μ (bI b) (zI i) = _
      unfold X8_isBroken_c4 X8_isBroken_b42 X8_isBroken_b47
      rw [x1, if_neg (by rw [zI_le (zR_small (by omega) (by omega)) (zR_small (by omega) (by omega))]; omega), e1]
      simp only [anyF]
      cases b with
      | true =>
        rw [if_neg (by decide)]
        have := ih (i + 1) q true (by omega) (by omega)
        simpa [bI] using this
      | false =>
        rw [if_pos (by decide), z_0, zI_add, wd_chk_in (by omega) (by omega) (by omega), wd_chk_in (by omega) (by omega) (by omega), z_5, zI_add, wd_chk_in (by omega) (by omega) (by omega), zI_cl (by omega) (by omega), zI_clN (by omega), zI_cl (by omega) (by omega), show (0 + (i : Int)).toNat = i by omega, show (5 + (i : Int)).toNat = 5 + i by omega, c1, c2, c3, zI_add]
        by_cases hc : L i < E i + D i
        · rw [if_neg (by rw [zI_le (zR_small (by omega) (by omega)) (zR_small (by omega) (by omega))]; omega)]
          have := ih (i + 1) q true (by omega) (by omega)
          simpa [bI, hc] using this
        · rw [if_pos (by rw [zI_le (zR_small (by omega) (by omega)) (zR_small (by omega) (by omega))]; omega)]
          have := ih (i + 1) q false (by omega) (by omega)
          simpa [bI, hc, z_0] using this
  unfold X8_isBroken X8_isBroken_b0 brk
  have := key n 0 wd_big false (by omega) (by have := hb.1; unfold wd_big; omega)
  simpa [bI, z_0] using this
