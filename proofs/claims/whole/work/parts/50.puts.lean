/-! ===== puts ===== -/
theorem wdW_iff {μ : wd_Mem} {n h hm off : Nat} : wdW μ n h hm off ↔ ∀ j, j < n → ∀ t, t < 2 → (∃ e : Int, 0 ≤ e ∧ e ≤ 16 ∧ μ (h + 1) (5 * t + j) = zI e ∧ μ hm (off + (5 * t + j)) = zI e) ∧ μ (h + 2) (5 * t + j) = μ hm (off + 10 + (5 * t + j)) ∧ μ (h + 3) (5 * t + j) = μ hm (off + 20 + (5 * t + j)) := by
  constructor
  · intro w j hj t ht
    obtain ⟨⟨e, l, a1, a2, a3, a4, b1, b2, b3, b4⟩, c1, c2, c3, c4⟩ := w j hj
    rcases (show t = 0 ∨ t = 1 by omega) with rfl | rfl
    · simp only [Nat.mul_zero, Nat.zero_add]
      exact ⟨⟨e, a1, a2, b1, b2⟩, c1, c3⟩
    · simp only [Nat.mul_one]
      refine ⟨⟨l, a3, a4, b3, ?_⟩, ?_, ?_⟩
      · rw [← Nat.add_assoc]; exact b4
      · rw [c2]; congr 1; omega
      · rw [c4]; congr 1; omega
  · intro w j hj
    obtain ⟨⟨e, a1, a2, b1, b2⟩, c1, c3⟩ := w j hj 0 (by omega)
    obtain ⟨⟨l, a3, a4, b3, b4⟩, c2, c4⟩ := w j hj 1 (by omega)
    simp only [Nat.mul_zero, Nat.zero_add] at b1 b2 c1 c3
    simp only [Nat.mul_one] at b3 b4 c2 c4
    refine ⟨⟨e, l, a1, a2, a3, a4, b1, b2, b3, ?_⟩, c1, ?_, c3, ?_⟩
    · rw [Nat.add_assoc]; exact b4
    · rw [c2]; congr 1; omega
    · rw [c4]; congr 1; omega
theorem wdW_put {μ τ : wd_Mem} {n i s : Nat} (hn : n ≤ 5) (hi : i < n) (hs : s < 2) {v : Int} (h0 : 0 ≤ v) (h16 : v ≤ 16) (r c : Int32) (a1 : ∀ k, k < 10 → τ 49 k = if k = 5 * s + i then zI v else μ 49 k) (a2 : ∀ k, k < 10 → τ 50 k = if k = 5 * s + i then r else μ 50 k) (a3 : ∀ k, k < 10 → τ 51 k = if k = 5 * s + i then c else μ 51 k) (a4 : ∀ k, k < 30 → τ 34 k = if k = 5 * s + i then zI v else if k = 10 + (5 * s + i) then r else if k = 20 + (5 * s + i) then c else μ 34 k) (w : wdW μ n 48 34 0) : wdW τ n 48 34 0 := by
  rw [wdW_iff] at w ⊢
  intro j hj t ht
  obtain ⟨⟨e, e1, e2, e3, e4⟩, f1, f2⟩ := w j hj t ht
  simp only [Nat.zero_add, Nat.reduceAdd] at e3 e4 f1 f2 ⊢
  rw [a1 _ (by omega), a2 _ (by omega), a3 _ (by omega), a4 _ (by omega), a4 _ (by omega), a4 _ (by omega)]
  by_cases hk : 5 * t + j = 5 * s + i
  · rw [if_pos hk, if_pos hk, if_pos hk, if_pos hk, if_neg (by omega), if_pos (by omega), if_neg (by omega), if_neg (by omega), if_pos (by omega)]
    exact ⟨⟨v, h0, h16, rfl, rfl⟩, rfl, rfl⟩
  · rw [if_neg hk, if_neg hk, if_neg hk, if_neg hk, if_neg (by omega), if_neg (by omega), if_neg (by omega), if_neg (by omega), if_neg (by omega), if_neg (by omega), if_neg (by omega), if_neg (by omega)]
    exact ⟨⟨e, e1, e2, e3, e4⟩, f1, f2⟩
theorem move_eq {μ : wd_Mem} {h i s : Nat} (hi : i < 5) (hs : s < 2) (v r c : Int32) : X6_move h μ (zI i) (zI s) v r c = some (mset (mset (mset μ (h + 1) (5 * s + i) v) (h + 2) (5 * s + i) r) (h + 3) (5 * s + i) c) := by
  unfold X6_move X6_move_b0
  rw [placeOf_eq, wd_chk_in (by omega) (by omega) (by omega), zI_cl (by omega) (by omega), show ((s : Int) * 5 + (i : Int)).toNat = 5 * s + i by omega]
/-- may it be put? -/
def mayB (s : Nat) (v e l d : Int) : Bool := if s = 0 then decide (e < v ∧ v + d ≤ l) else decide (v < l ∧ e + d ≤ v)
theorem lad {β : Type} (K : Int32 → β) {a b c : Prop} [Decidable a] [Decidable b] [Decidable c] (h : c ↔ ¬ a ∧ ¬ b) : (if a then K 0 else if b then K 0 else K 1) = K (bI (decide c)) := by
  by_cases ha : a
  · rw [if_pos ha, decide_eq_false (by rw [h]; exact fun q => q.1 ha)]; rfl
  · by_cases hb : b
    · rw [if_neg ha, if_pos hb, decide_eq_false (by rw [h]; exact fun q => q.2 hb)]; rfl
    · rw [if_neg ha, if_neg hb, decide_eq_true (h.mpr ⟨ha, hb⟩)]; rfl
theorem wd_chk_true {α : Type} (k : Option α) : wd_chk true k = k := rfl
theorem mayX {μ : wd_Mem} {n i s : Nat} {R : Int} {E L D C : Nat → Int} (hb : bnd n R E L D C) (hx : datX μ n R E L D C) (hi : i < n) (hs : s < 2) {v : Int} (h0 : 0 ≤ v) (h16 : v ≤ 16) : X7_mayPut μ (zI i) (zI s) (zI v) = some (bI (mayB s v (E i) (L i) (D i))) := by
  obtain ⟨hn, -, -, hB⟩ := hb
  obtain ⟨a1, a2, a3, a4, a5, a6, -⟩ := hB i hi
  obtain ⟨c1, c2, c3, -⟩ := hx.2.2 i hi
  have e0 := edge_eq (μ := μ) (h := 48) (i := i) (s := 0) (by omega) (by omega)
  have e1 := edge_eq (μ := μ) (h := 48) (i := i) (s := 1) (by omega) (by omega)
  simp only [Nat.mul_zero, Nat.zero_add, Nat.mul_one, Nat.reduceAdd, c1, c2] at e0 e1
  unfold X7_mayPut X7_mayPut_b0 X7_mayPut_b52 X7_mayPut_b80 mayB
  have z0 : (0 : Int32) = zI ((0 : Nat) : Int) := z_0
  have z1 : (1 : Int32) = zI ((1 : Nat) : Int) := z_1
  rw [show X6_edge 48 μ (zI i) 0 = some (zI (E i)) from by rw [z0]; exact e0, show X6_edge 48 μ (zI i) 1 = some (zI (L i)) from by rw [z1]; exact e1]
  simp only [Option.bind_some]
  rw [wd_chk_in (by omega) (by omega) (by omega), wd_chk_in (by omega) (by omega) (by omega), zI_clN (by omega), c3, zI_add, zI_sub]
  rcases (show s = 0 ∨ s = 1 by omega) with rfl | rfl
  · rw [if_pos (by decide : zI ((0 : Nat) : Int) = 0), if_pos rfl]
    refine lad some ?_
    rw [zI_le (zR_small (by omega) (by omega)) (zR_small (by omega) (by omega)), zI_lt (zR_small (by omega) (by omega)) (zR_small (by omega) (by omega))]
    omega
  · rw [if_neg (by decide : ¬ zI ((1 : Nat) : Int) = 0), if_neg (by decide : ¬ (1 : Nat) = 0)]
    refine lad some ?_
    rw [zI_le (zR_small (by omega) (by omega)) (zR_small (by omega) (by omega)), zI_lt (zR_small (by omega) (by omega)) (zR_small (by omega) (by omega))]
    omega
theorem putM {μ : wd_Mem} {n i s : Nat} {R : Int} {E L D C : Nat → Int} (hb : bnd n R E L D C) (hx : datM μ n R E L D C) (hi : i < n) (hs : s < 2) {v : Int} (h0 : 0 ≤ v) (h16 : v ≤ 16) : X8_puts_b42 μ (zI i) (zI s) (zI v) (zI (5 * s + i)) = X8_puts_b120 μ (zI i) (zI s) (zI v) (zI (5 * s + i)) (μ 34 (5 * s + i)) (bI (mayB s v (E i) (L i) (D i))) := by
  obtain ⟨hn, -, -, hB⟩ := hb
  obtain ⟨a1, a2, a3, a4, a5, a6, -⟩ := hB i hi
  obtain ⟨c1, c2, c3, -⟩ := hx.2.2 i hi
  have q0 : (0 : Int32) + zI i = zI i := by rw [z_0, zI_add]; congr 1; omega
  have q5 : (5 : Int32) + zI i = zI ((5 + i : Nat) : Int) := by rw [z_5, zI_add]; rfl
  unfold X8_puts_b42 X8_puts_b86 X8_puts_b119 mayB
  have g1 : wd_in (zI (5 * s + i)) 30 = true := zI_in (by omega) (by omega) (by omega)
  have g2 : wd_in (zI i) 30 = true := zI_in (by omega) (by omega) (by omega)
  have g3 : wd_in (zI i) 5 = true := zI_in (by omega) (by omega) (by omega)
  have g4 : wd_in (zI ((5 + i : Nat) : Int)) 30 = true := zI_in (by omega) (by omega) (by omega)
  have p1 : Int32.toNatClampNeg (zI (5 * s + i)) = 5 * s + i := by rw [zI_cl (by omega) (by omega)]; omega
  simp only [q0, q5, g1, g2, g3, g4, wd_chk_true, p1, zI_clN (show i < 2147483648 by omega), zI_clN (show 5 + i < 2147483648 by omega), c1, c2, c3, zI_add]
  rcases (show s = 0 ∨ s = 1 by omega) with rfl | rfl
  · rw [if_pos (by decide : zI ((0 : Nat) : Int) = 0), if_pos rfl, show 5 * 0 + i = i by omega, c1]
    refine lad (fun q => X8_puts_b120 μ (zI i) (zI ((0 : Nat) : Int)) (zI v) (zI (5 * ((0 : Nat) : Int) + i)) (zI (E i)) q) ?_
    rw [zI_le (zR_small (by omega) (by omega)) (zR_small (by omega) (by omega)), zI_lt (zR_small (by omega) (by omega)) (zR_small (by omega) (by omega))]
    omega
  · rw [if_neg (by decide : ¬ zI ((1 : Nat) : Int) = 0), if_neg (by decide : ¬ (1 : Nat) = 0), show 5 * 1 + i = 5 + i by omega, c2]
    refine lad (fun q => X8_puts_b120 μ (zI i) (zI ((1 : Nat) : Int)) (zI v) (zI (5 * ((1 : Nat) : Int) + i)) (zI (L i)) q) ?_
    rw [zI_le (zR_small (by omega) (by omega)) (zR_small (by omega) (by omega)), zI_lt (zR_small (by omega) (by omega)) (zR_small (by omega) (by omega))]
    omega
