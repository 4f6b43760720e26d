/-! ===== the relation between the class's memory and the reference's ===== -/
def wdW (μ : wd_Mem) (n h hm off : Nat) : Prop := ∀ i, i < n → (∃ e l : Int, 0 ≤ e ∧ e ≤ 16 ∧ 0 ≤ l ∧ l ≤ 16 ∧ μ (h + 1) i = zI e ∧ μ hm (off + i) = zI e ∧ μ (h + 1) (5 + i) = zI l ∧ μ hm (off + 5 + i) = zI l) ∧ μ (h + 2) i = μ hm (off + 10 + i) ∧ μ (h + 2) (5 + i) = μ hm (off + 15 + i) ∧ μ (h + 3) i = μ hm (off + 20 + i) ∧ μ (h + 3) (5 + i) = μ hm (off + 25 + i)
def rText (μ : wd_Mem) : Prop := ∃ len : Nat, len ≤ 100 ∧ μ 1 1 = zI len ∧ μ 31 10 = zI len ∧ ∀ i, i < len → ∃ c : Int, 0 ≤ c ∧ c ≤ 255 ∧ μ 2 i = zI c ∧ μ 38 i = zI c
def rTask (μ : wd_Mem) (n : Nat) : Prop := n ≤ 5 ∧ μ 3 1 = zI n ∧ μ 31 0 = zI n ∧ ∃ R : Int, 1 ≤ R ∧ R ≤ 20 ∧ μ 3 0 = zI R ∧ μ 31 1 = zI R ∧ ∀ i, i < n → ∃ d c : Int, 1 ≤ d ∧ d ≤ 9 ∧ 1 ≤ c ∧ c ≤ 9 ∧ c ≤ R ∧ μ 4 i = zI d ∧ μ 32 i = zI d ∧ μ 5 i = zI c ∧ μ 33 i = zI c
def rHist (μ : wd_Mem) (n : Nat) : Prop := ∃ u p : Nat, u ≤ 10 ∧ p < 10 ∧ μ 27 2 = zI u ∧ μ 31 5 = zI u ∧ μ 27 1 = zI p ∧ μ 31 6 = zI p ∧ ∀ k, k < u → wdW μ n (64 + 4 * ((p + 10 - k) % 10)) 35 (30 * ((p + 9 - k) % 10))
def rImg (μ : wd_Mem) (n : Nat) : Prop := ∀ b, b < 2 → (μ 30 b = 0 ∧ μ 36 b = 0) ∨ (μ 30 b = 1 ∧ μ 36 b = 1 ∧ wdW μ n (56 + 4 * b) 37 (30 * b))
def rSight (μ : wd_Mem) : Prop := μ 14 0 = zI 1000 ∧ μ 15 0 = zI (-1000) ∧ μ 16 0 = zI 1000 ∧ μ 17 0 = zI 0
def rLoad (μ : wd_Mem) : Prop := ∀ t, t < 16 → μ 26 t = 0
def wd_rel (μ : wd_Mem) : Prop := rText μ ∧ rSight μ ∧ rLoad μ ∧ ∃ n : Nat, rTask μ n ∧ wdW μ n 48 34 0 ∧ rHist μ n ∧ rImg μ n
theorem wdW_congr {μ ν : wd_Mem} {n h hm off : Nat} (e1 : ν (h + 1) = μ (h + 1)) (e2 : ν (h + 2) = μ (h + 2)) (e3 : ν (h + 3) = μ (h + 3)) (em : ν hm = μ hm) (w : wdW μ n h hm off) : wdW ν n h hm off := by
  intro i hi
  rw [e1, e2, e3, em]
  exact w i hi
theorem rText_congr {μ ν : wd_Mem} (e1 : ν 1 = μ 1) (e2 : ν 2 = μ 2) (e3 : ν 31 10 = μ 31 10) (e4 : ν 38 = μ 38) (h : rText μ) : rText ν := by
  unfold rText
  rw [e1, e2, e3, e4]
  exact h
theorem rTask_congr {μ ν : wd_Mem} {n : Nat} (e3 : ν 3 = μ 3) (e4 : ν 4 = μ 4) (e5 : ν 5 = μ 5) (e6 : ν 32 = μ 32) (e7 : ν 33 = μ 33) (e0 : ν 31 0 = μ 31 0) (e1 : ν 31 1 = μ 31 1) (h : rTask μ n) : rTask ν n := by
  unfold rTask
  rw [e3, e4, e5, e6, e7, e0, e1]
  exact h
theorem rHist_congr {μ ν : wd_Mem} {n : Nat} (e1 : ν 27 = μ 27) (e2 : ν 31 5 = μ 31 5) (e3 : ν 31 6 = μ 31 6) (e4 : ∀ a, 64 ≤ a → a < 104 → ν a = μ a) (e5 : ν 35 = μ 35) (h : rHist μ n) : rHist ν n := by
  obtain ⟨u, p, h1, h2, h3, h4, h5, h6, h7⟩ := h
  refine ⟨u, p, h1, h2, by rw [e1]; exact h3, by rw [e2]; exact h4, by rw [e1]; exact h5, by rw [e3]; exact h6, fun k hk => ?_⟩
  have hm : (p + 10 - k) % 10 < 10 := Nat.mod_lt _ (by omega)
  exact wdW_congr (e4 _ (by omega) (by omega)) (e4 _ (by omega) (by omega)) (e4 _ (by omega) (by omega)) e5 (h7 k hk)
theorem rImg_congr {μ ν : wd_Mem} {n : Nat} (e1 : ν 30 = μ 30) (e2 : ν 36 = μ 36) (e3 : ν 37 = μ 37) (e4 : ∀ a, 56 ≤ a → a < 64 → ν a = μ a) (h : rImg μ n) : rImg ν n := by
  intro b hb
  rw [e1, e2]
  rcases h b hb with h | ⟨h1, h2, h3⟩
  · exact Or.inl h
  · exact Or.inr ⟨h1, h2, wdW_congr (e4 _ (by omega) (by omega)) (e4 _ (by omega) (by omega)) (e4 _ (by omega) (by omega)) e3 h3⟩
theorem rSight_congr {μ ν : wd_Mem} (e1 : ν 14 = μ 14) (e2 : ν 15 = μ 15) (e3 : ν 16 = μ 16) (e4 : ν 17 = μ 17) (h : rSight μ) : rSight ν := by
  unfold rSight
  rw [e1, e2, e3, e4]
  exact h
theorem rLoad_congr {μ ν : wd_Mem} (e1 : ν 26 = μ 26) (h : rLoad μ) : rLoad ν := by
  unfold rLoad
  rw [e1]
  exact h
theorem wd_rel0 : wd_rel wd_mem0 := by
  refine ⟨⟨0, by omega, rfl, rfl, fun i hi => by omega⟩, ⟨rfl, rfl, rfl, rfl⟩, fun t _ => rfl, 0, ⟨by omega, rfl, rfl, 3, by omega, by omega, rfl, rfl, fun i hi => by omega⟩, fun i hi => by omega, ⟨0, 0, by omega, by omega, rfl, rfl, rfl, rfl, fun k hk => by omega⟩, fun b hb => Or.inl ⟨?_, ?_⟩⟩
  · rcases (show b = 0 ∨ b = 1 by omega) with rfl | rfl <;> rfl
  · rcases (show b = 0 ∨ b = 1 by omega) with rfl | rfl <;> rfl
/-! small readers -/
theorem X8_in_eq (μ : wd_Mem) (x a b : Int32) : X8_in μ x a b = if x < a ∨ b < x then 0 else 1 := by
  unfold X8_in X8_in_b0 X8_in_b14
  by_cases h1 : x < a
  · simp [h1]
  · by_cases h2 : b < x
    · simp [h1, h2]
    · simp [h1, h2]
theorem X8_in_0 {μ : wd_Mem} {x a b : Int32} : X8_in μ x a b = 0 ↔ x < a ∨ b < x := by
  rw [X8_in_eq]
  split
  · exact ⟨fun _ => by assumption, fun _ => rfl⟩
  · exact ⟨fun h => absurd h (by decide), fun h => absurd h (by assumption)⟩
theorem X7_z01_0 {μ : wd_Mem} {x : Int32} : X7_isZeroOrOne μ x = 0 ↔ ¬ (x = 0 ∨ x = 1) := by
  unfold X7_isZeroOrOne X7_isZeroOrOne_b0 X7_isZeroOrOne_b9
  by_cases h1 : x = 0
  · simp [h1]
  · by_cases h2 : x = 1
    · simp [h1, h2]
    · simp [h1, h2]
/-! type and clear -/
theorem op_clear (μ : wd_Mem) (h : wd_rel μ) : ∃ (r : Int32) (μ1 μ2 : wd_Mem), X7_clear μ = some (r, μ1) ∧ X8_clear μ1 = some (r, μ2) ∧ wd_rel μ2 := by
  obtain ⟨⟨len, hl, h1, h2, h3⟩, hS, hL, n, hT, hW, hH, hI⟩ := h
  refine ⟨μ 1 1, mset μ 1 1 0, mset (mset μ 1 1 0) 31 10 0, rfl, ?_, ?_⟩
  · show some (mset μ 1 1 0 31 10, _) = _
    rw [mset_h μ _ _ _ (by decide), h2, h1]
  · have e : ∀ a, a ≠ 1 → a ≠ 31 → (mset (mset μ 1 1 0) 31 10 0) a = μ a := fun a x y => by rw [mset_ne y, mset_ne x]
    have e31 : ∀ j, j ≠ 10 → (mset (mset μ 1 1 0) 31 10 0) 31 j = μ 31 j := fun j hj => by rw [mset_j _ _ _ _ hj, mset_h _ _ _ _ (by decide)]
    refine ⟨⟨0, by omega, ?_, ?_, fun i hi => by omega⟩, rSight_congr (e 14 (by decide) (by decide)) (e 15 (by decide) (by decide)) (e 16 (by decide) (by decide)) (e 17 (by decide) (by decide)) hS, rLoad_congr (e 26 (by decide) (by decide)) hL, n, rTask_congr (e 3 (by decide) (by decide)) (e 4 (by decide) (by decide)) (e 5 (by decide) (by decide)) (e 32 (by decide) (by decide)) (e 33 (by decide) (by decide)) (e31 0 (by decide)) (e31 1 (by decide)) hT, wdW_congr (e 49 (by decide) (by decide)) (e 50 (by decide) (by decide)) (e 51 (by decide) (by decide)) (e 34 (by decide) (by decide)) hW, rHist_congr (e 27 (by decide) (by decide)) (e31 5 (by decide)) (e31 6 (by decide)) (fun a _ _ => e a (by omega) (by omega)) (e 35 (by decide) (by decide)) hH, rImg_congr (e 30 (by decide) (by decide)) (e 36 (by decide) (by decide)) (e 37 (by decide) (by decide)) (fun a _ _ => e a (by omega) (by omega)) hI⟩
    · rw [mset_h _ _ _ _ (by decide), mset_eq]; rfl
    · rw [mset_eq]; rfl
