/-! ===== the sight of the class, one way or the other ===== -/
def sE (s : Nat) (E L : Nat → Int) (i : Nat) : Int := if s = 0 then E i else 16 - L i
def sL (s : Nat) (E L : Nat → Int) (i : Nat) : Int := if s = 0 then L i else 16 - E i
def enF (D C : Nat → Int) (i : Nat) : Int := D i * C i
/-- what the sight holds of the first i tasks -/
def sgt (μ : wd_Mem) (i : Nat) (e l D C : Nat → Int) : Prop := (∀ j, j < i → μ 10 j = zI (e j) ∧ μ 11 j = zI (l j) ∧ μ 12 j = zI (e j + D j) ∧ μ 13 j = zI (l j - D j)) ∧ ∀ S, S < 2 ^ i → μ 14 S = zI (mnF e 1000 i S) ∧ μ 15 S = zI (mxF l (-1000) i S) ∧ μ 16 S = zI (mnF (fun j => e j + D j) 1000 i S) ∧ μ 17 S = zI (smF (enF D C) i S)
theorem zmin {a b : Int} (ha : zR a) (hb : zR b) : (if zI b < zI a then zI b else zI a) = zI (min a b) := by
  by_cases h : b < a
  · rw [if_pos (by rw [zI_lt hb ha]; exact h)]; congr 1; omega
  · rw [if_neg (by rw [zI_lt hb ha]; exact h)]; congr 1; omega
theorem zmax {a b : Int} (ha : zR a) (hb : zR b) : (if zI a < zI b then zI b else zI a) = zI (max a b) := by
  by_cases h : a < b
  · rw [if_pos (by rw [zI_lt ha hb]; exact h)]; congr 1; omega
  · rw [if_neg (by rw [zI_lt ha hb]; exact h)]; congr 1; omega
theorem pow5 {i : Nat} (h : i ≤ 5) : 2 ^ i ≤ 32 := by
  rcases (show i = 0 ∨ i = 1 ∨ i = 2 ∨ i = 3 ∨ i = 4 ∨ i = 5 by omega) with rfl | rfl | rfl | rfl | rfl | rfl <;> decide
theorem pow4 {i : Nat} (h : i < 5) : 2 ^ i ≤ 16 := by
  rcases (show i = 0 ∨ i = 1 ∨ i = 2 ∨ i = 3 ∨ i = 4 by omega) with rfl | rfl | rfl | rfl | rfl <;> decide
theorem energyX {μ : wd_Mem} {h i : Nat} {d c : Int} (hi : i < 5) (e1 : μ (h + 1) i = zI d) (e2 : μ (h + 2) i = zI c) : X4_energy h μ (zI i) = some (zI (d * c)) := by
  unfold X4_energy X4_energy_b0
  rw [wd_chk_in (by omega) (by omega) (by omega), zI_clN (by omega), e1, e2, zI_mul]
/-- what one step of the table writes -/
def suM (μ : wd_Mem) (T : Nat) (a b c d : Int) : wd_Mem := mset (mset (mset (mset μ 14 T (zI a)) 15 T (zI b)) 16 T (zI c)) 17 T (zI d)
theorem sumUpX {μ : wd_Mem} {S i : Nat} {a b c d e l f D C : Int} (hi : i < 5) (hS : S < 2 ^ i) (h1 : μ 14 S = zI a) (h2 : μ 15 S = zI b) (h3 : μ 16 S = zI c) (h4 : μ 17 S = zI d) (g1 : μ 10 i = zI e) (g2 : μ 11 i = zI l) (g3 : μ 12 i = zI f) (g4 : μ 4 i = zI D) (g5 : μ 5 i = zI C) (ra : zR a) (rb : zR b) (rc : zR c) (re : zR e) (rl : zR l) (rf : zR f) : X3_sumUp μ (zI S) (zI i) = some (suM μ (S + 2 ^ i) (min a e) (max b l) (min c f) (d + D * C)) := by
  have p4 := pow4 hi
  unfold X3_sumUp X3_sumUp_b0
  rw [b_or1 S (by omega) i hi, n_or i hi S (by omega) hS, wd_chk_in (by omega) (by omega) (by omega), wd_chk_in (by omega) (by omega) (by omega), wd_chk_in (by omega) (by omega) (by omega), zI_clN (show S < 2147483648 by omega), zI_clN (show i < 2147483648 by omega), zI_clN (show S + 2 ^ i < 2147483648 by omega), h1, h2, h3, g1, g2, g3, zmin ra re, zmax rb rl, zmin rc rf]
  rw [energyX (d := D) (c := C) hi (by rw [mset_h _ _ _ _ (by decide), mset_h _ _ _ _ (by decide), mset_h _ _ _ _ (by decide)]; exact g4) (by rw [mset_h _ _ _ _ (by decide), mset_h _ _ _ _ (by decide), mset_h _ _ _ _ (by decide)]; exact g5)]
  simp only [Option.bind_some]
  rw [h4, zI_add]
  rfl
