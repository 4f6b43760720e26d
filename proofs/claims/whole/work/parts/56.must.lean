/-! ===== what must run; asIs ===== -/
theorem rel_scratch {μ τ : wd_Mem} (h : wd_rel μ) (f : ∀ a, ¬ (10 ≤ a ∧ a ≤ 26) → ¬ (40 ≤ a ∧ a ≤ 47) → τ a = μ a) (hS' : rSight τ) (hL' : rLoad τ) : wd_rel τ := by
  obtain ⟨hT, hS, hL, n, hK, hW, hH, hI⟩ := h
  have g : ∀ a, (a < 10 ∨ (26 < a ∧ a < 40) ∨ 47 < a) → τ a = μ a := fun a ha => f a (by omega) (by omega)
  exact ⟨rText_congr (g 1 (by omega)) (g 2 (by omega)) (by rw [g 31 (by omega)]) (g 38 (by omega)) hT, hS', hL', n, rTask_congr (g 3 (by omega)) (g 4 (by omega)) (g 5 (by omega)) (g 32 (by omega)) (g 33 (by omega)) (by rw [g 31 (by omega)]) (by rw [g 31 (by omega)]) hK, wdW_congr (g 49 (by omega)) (g 50 (by omega)) (g 51 (by omega)) (g 34 (by omega)) hW, rHist_congr (g 27 (by omega)) (by rw [g 31 (by omega)]) (by rw [g 31 (by omega)]) (fun a _ _ => g a (by omega)) (g 35 (by omega)) hH, rImg_congr (g 30 (by omega)) (g 36 (by omega)) (g 37 (by omega)) (fun a _ _ => g a (by omega)) hI⟩
def sumF (f : Nat → Int) : Nat → Int
  | 0 => 0
  | k + 1 => sumF f k + f k
theorem sumF_bd {f : Nat → Int} {m : Int} : ∀ k : Nat, (∀ j, j < k → 0 ≤ f j ∧ f j ≤ m) → 0 ≤ sumF f k ∧ sumF f k ≤ m * k
  | 0, _ => ⟨Int.le_refl _, by simp [sumF]⟩
  | k + 1, h => by
    have ih := sumF_bd k (fun j hj => h j (by omega))
    have hk := h k (by omega)
    have e1 : m * ((k + 1 : Nat) : Int) = m * (k : Int) + m := by rw [Int.natCast_succ, Int.mul_add, Int.mul_one]
    simp only [sumF]
    rw [e1]
    omega
/-- NEED of a task that must run at t, but one (b) -/
def mustT (e l D C : Nat → Int) (t b : Int) (i : Nat) : Int := if (i : Int) = b ∨ t < l i - D i ∨ e i + D i ≤ t then 0 else C i
theorem surelyX {ν : wd_Mem} {n : Nat} {e l D C : Nat → Int} {t b : Int} (hn : n ≤ 5) (hB : ∀ i, i < n → -100 ≤ e i ∧ e i ≤ 100 ∧ -100 ≤ l i ∧ l i ≤ 100 ∧ 0 ≤ D i ∧ D i ≤ 9 ∧ 0 ≤ C i ∧ C i ≤ 9) (ht : -100 ≤ t ∧ t ≤ 100) (hbb : -100 ≤ b ∧ b ≤ 100) (x1 : ν 3 1 = zI n) (hC : ∀ i, i < n → ν 5 i = zI (C i)) (hg : sgt ν n e l D C) : X3_surely ν (zI t) (zI b) = some (zI (sumF (mustT e l D C t b) n)) := by
  have key := wd_forF (fun q i x => X3_surely_l5 (fun x3 => X3_surely_b64 ν x3) ν (zI t) (zI b) q x (zI (i : Nat))) (fun x => some x) (fun i => zI (sumF (mustT e l D C t b) i)) n (by omega) (fun i q hi => by
    show X3_surely_c5 _ _ ν (zI t) (zI b) (zI (sumF (mustT e l D C t b) i)) (zI i) = _
    obtain ⟨g1, g2, g3, g4⟩ := hg.1 i hi
    obtain ⟨y1, y2, y3, y4, y5, y6, y7, y8⟩ := hB i hi
    have e1 : zI (i : Int) + (1 : Int32) = zI ((i + 1 : Nat) : Int) := by rw [z_1, zI_add]; rfl
    unfold X3_surely_c5 X3_surely_b58
    rw [x1, if_neg (by rw [zI_le (zR_small (by omega) (by omega)) (zR_small (by omega) (by omega))]; omega), wd_chk_in (by omega) (by omega) (by omega), zI_clN (by omega), g3, g4, hC i hi, e1]
    simp only [zI_eq (zR_small (show (-1000000 : Int) ≤ i by omega) (by omega)) (zR_small (show (-1000000 : Int) ≤ b by omega) (by omega)), zI_lt (zR_small (show (-1000000 : Int) ≤ t by omega) (by omega)) (zR_small (show (-1000000 : Int) ≤ l i - D i by omega) (by omega)), zI_le (zR_small (show (-1000000 : Int) ≤ e i + D i by omega) (by omega)) (zR_small (show (-1000000 : Int) ≤ t by omega) (by omega)), zI_add]
    have e2 : sumF (mustT e l D C t b) (i + 1) = sumF (mustT e l D C t b) i + mustT e l D C t b i := rfl
    rw [e2]
    unfold mustT
    by_cases h1 : (i : Int) = b
    · rw [if_pos h1, if_pos (Or.inl h1), Int.add_zero]
    · by_cases h2 : t < l i - D i
      · rw [if_neg h1, if_pos h2, if_pos (Or.inr (Or.inl h2)), Int.add_zero]
      · by_cases h3 : e i + D i ≤ t
        · rw [if_neg h1, if_neg h2, if_pos h3, if_pos (Or.inr (Or.inr h3)), Int.add_zero]
        · rw [if_neg h1, if_neg h2, if_neg h3, if_neg (by omega)]) (fun q => by
    show X3_surely_c5 _ _ ν (zI t) (zI b) (zI (sumF (mustT e l D C t b) n)) (zI n) = _
    unfold X3_surely_c5 X3_surely_b64
    rw [x1, if_pos (Int32.le_refl _)])
  unfold X3_surely X3_surely_b0
  rw [z_0]
  exact key
theorem asIsM {μ : wd_Mem} {n : Nat} {R : Int} {E L D C : Nat → Int} (hb : bnd n R E L D C) (hm : datM μ n R E L D C) : ∃ ρ : wd_Mem, X8_asIs μ = some ρ ∧ (∀ i, i < n → ρ 40 i = zI (E i) ∧ ρ 41 i = zI (L i)) ∧ ∀ a, a ≠ 40 → a ≠ 41 → ρ a = μ a := by
  obtain ⟨hn, -, -, hB⟩ := hb
  obtain ⟨x1, -, hX⟩ := hm
  have key : ∃ ρ : wd_Mem, ((∀ i, i < n → ρ 40 i = zI (E i) ∧ ρ 41 i = zI (L i)) ∧ ∀ a, a ≠ 40 → a ≠ 41 → ρ a = μ a) ∧ X8_asIs_l2 (fun μ => X8_asIs_b44 μ) wd_big (zI ((0 : Nat) : Int)) μ = some ρ := by
    refine wd_for0 (fun q i m => X8_asIs_l2 (fun μ => X8_asIs_b44 μ) q (zI (i : Nat)) m) (fun m => some m) (fun i ρ => (∀ j, j < i → ρ 40 j = zI (E j) ∧ ρ 41 j = zI (L j)) ∧ ∀ a, a ≠ 40 → a ≠ 41 → ρ a = μ a) n μ (by omega) ⟨fun j hj => by omega, fun _ _ _ => rfl⟩ (fun i m q hi hI => ?_) (fun m q hI => ?_)
    · obtain ⟨c1, c2, -⟩ := hX i hi
      refine ⟨mset (mset m 40 i (zI (E i))) 41 i (zI (L i)), ⟨fun j hj => ?_, fun a p q => ?_⟩, ?_⟩
      · by_cases hji : j = i
        · subst hji
          exact ⟨by rw [mset_h _ _ _ _ (by decide), mset_eq], mset_eq _ _ _ _⟩
        · obtain ⟨f1, f2⟩ := hI.1 j (by omega)
          exact ⟨by rw [mset_j _ _ _ _ hji, mset_j _ _ _ _ hji, f1], by rw [mset_j _ _ _ _ hji, mset_j _ _ _ _ hji, f2]⟩
      · rw [mset_ne q, mset_ne p, hI.2 a p q]
      · show X8_asIs_c2 _ _ m (zI i) = _
        unfold X8_asIs_c2
        have q0 : (0 : Int32) + zI i = zI i := by rw [z_0, zI_add]; congr 1; omega
        have q5 : (5 : Int32) + zI i = zI ((5 + i : Nat) : Int) := by rw [z_5, zI_add]; rfl
        rw [hI.2 31 (by decide) (by decide), x1, if_neg (by rw [zI_le (zR_small (by omega) (by omega)) (zR_small (by omega) (by omega))]; omega), q0, q5, wd_chk_in (by omega) (by omega) (by omega), wd_chk_in (by omega) (by omega) (by omega), wd_chk_in (by omega) (by omega) (by omega), zI_clN (show i < 2147483648 by omega), zI_clN (show 5 + i < 2147483648 by omega), hI.2 34 (by decide) (by decide), c1, c2, z_1, zI_add]
        rfl
    · show X8_asIs_c2 _ _ m (zI n) = _
      unfold X8_asIs_c2 X8_asIs_b44
      rw [hI.2 31 (by decide) (by decide), x1, if_pos (Int32.le_refl _)]
  obtain ⟨ρ, ⟨k1, k2⟩, k3⟩ := key
  refine ⟨ρ, ?_, k1, k2⟩
  unfold X8_asIs X8_asIs_b0
  rw [z_0]
  exact k3
