/-! ===== the windows before a change are remembered ===== -/
theorem addX {μ : wd_Mem} {u p : Nat} (hu : u ≤ 10) (hp : p < 10) (e1 : μ 27 1 = zI p) (e2 : μ 27 2 = zI u) : ∃ ν : wd_Mem, X0_add 48 μ = some ν ∧ ν 27 1 = zI ((p + 1) % 10 : Nat) ∧ ν 27 2 = zI (min 10 (u + 1) : Nat) ∧ (∀ b, b < 10 → ν (64 + 4 * ((p + 1) % 10) + 1) b = μ 49 b ∧ ν (64 + 4 * ((p + 1) % 10) + 2) b = μ 50 b ∧ ν (64 + 4 * ((p + 1) % 10) + 3) b = μ 51 b) ∧ ∀ a, a ≠ 27 → a ≠ 64 + 4 * ((p + 1) % 10) + 1 → a ≠ 64 + 4 * ((p + 1) % 10) + 2 → a ≠ 64 + 4 * ((p + 1) % 10) + 3 → ν a = μ a := by
  have hq : (p + 1) % 10 < 10 := Nat.mod_lt _ (by omega)
  have hqe : (((p : Int) + 1) % 10) = (((p + 1) % 10 : Nat) : Int) := by omega
  obtain ⟨ν, t1, t2, t3⟩ := take_eq (μ := mset μ 27 1 (zI ((p + 1) % 10 : Nat))) (h0 := 64 + 4 * ((p + 1) % 10)) (h1 := 48) (isW_of (by omega) (by omega) (by omega)) (isW_of (by omega) (by omega) (by omega)) (by omega)
  have e27 : ν 27 2 = zI u := by rw [t3 27 (by omega) (by omega) (by omega), mset_j _ _ _ _ (by decide), e2]
  refine ⟨mset ν 27 2 (zI (min 10 (u + 1) : Nat)), ?_, ?_, ?_, fun b hb => ?_, fun a p0 p1 p2 p3 => ?_⟩
  · unfold X0_add X0_add_b0
    rw [e1, z_10, z_1, wd_chk_nz (zR_small (by omega) (by omega)) (by omega), zI_add, zI_rem10 (by omega) (by omega), hqe, wd_chk_in (by omega) (by omega) (by omega), zI_clN (by omega), ring_at hq]
    simp only [Option.bind_some]
    rw [t1]
    simp only [Option.bind_some]
    rw [e27, zI_add]
    congr 2
    by_cases h9 : u < 9
    · rw [if_pos (by rw [zI_lt (zR_small (by omega) (by omega)) (zR_small (by omega) (by omega))]; omega)]
      congr 1
      omega
    · rw [if_neg (by rw [zI_lt (zR_small (by omega) (by omega)) (zR_small (by omega) (by omega))]; omega)]
      congr 1
      omega
  · rw [mset_j _ _ _ _ (by decide), t3 27 (by omega) (by omega) (by omega), mset_eq]
  · rw [mset_eq]
  · obtain ⟨c1, c2, c3⟩ := t2 b hb
    rw [mset_h _ _ _ _ (by omega), mset_h _ _ _ _ (by omega), mset_h _ _ _ _ (by omega), c1, c2, c3, mset_h _ _ _ _ (by decide), mset_h _ _ _ _ (by decide), mset_h _ _ _ _ (by decide)]
    exact ⟨rfl, rfl, rfl⟩
  · rw [mset_ne p0, t3 a p1 p2 p3, mset_ne p0]
theorem remM {s0 : wd_Mem} {u p : Nat} (hu : u ≤ 10) (hp : p < 10) (e1 : s0 31 6 = zI p) (e2 : s0 31 5 = zI u) : ∃ ρ : wd_Mem, X8_remember s0 = some ρ ∧ ρ 31 6 = zI ((p + 1) % 10 : Nat) ∧ ρ 31 5 = zI (min 10 (u + 1) : Nat) ∧ (∀ k, k < 30 → ρ 35 (30 * p + k) = s0 34 k) ∧ (∀ j, (j < 30 * p ∨ 30 * p + 30 ≤ j) → ρ 35 j = s0 35 j) ∧ (∀ j, j ≠ 5 → j ≠ 6 → ρ 31 j = s0 31 j) ∧ ∀ a, a ≠ 31 → a ≠ 35 → ρ a = s0 a := by
  have hqe : (((p : Int) + 1) % 10) = (((p + 1) % 10 : Nat) : Int) := by omega
  have key := cp_for (fun n i s => X8_remember_l2 (fun μ => X8_remember_b34 μ) n (zI (i : Nat)) s) (fun s => X8_remember_b34 s) 35 34 (30 * p) 0 s0 (by decide) (fun i s n hi hf => by
    show X8_remember_c2 _ _ s (zI i) = _
    unfold X8_remember_c2 cpM
    rw [if_neg (le30 hi), hf 31 (by decide), e1, wd_chk_in (by omega) (by omega) (by omega), z_30, zI_mul, zI_add, wd_chk_in (by omega) (by omega) (by omega), zI_clN (by omega), zI_cl (by omega) (by omega), z_1, zI_add, Nat.zero_add, show ((30 * (p : Int) + (i : Int)).toNat) = 30 * p + i by omega]
    rfl) (fun s n _ => by
    show X8_remember_c2 _ _ s (zI 30) = _
    unfold X8_remember_c2
    rw [if_pos (by rw [z_30]; exact Int32.le_refl _)])
  obtain ⟨σ, k1, k2, k3, k4⟩ := key
  have f5 : σ 31 5 = zI u := by rw [k4 31 (by decide), e2]
  have f6 : σ 31 6 = zI p := by rw [k4 31 (by decide), e1]
  refine ⟨mset (mset σ 31 6 (zI ((p + 1) % 10 : Nat))) 31 5 (zI (min 10 (u + 1) : Nat)), ?_, ?_, ?_, fun k hk => ?_, fun j hj => ?_, fun j h5 h6 => ?_, fun a h1 h2 => ?_⟩
  · unfold X8_remember X8_remember_b0
    rw [z_0]
    refine Eq.trans k1 ?_
    unfold X8_remember_b34 X8_remember_b66
    rw [f5, f6, z_10, z_1, wd_chk_nz (zR_small (by omega) (by omega)) (by omega), zI_add, zI_rem10 (by omega) (by omega), hqe]
    by_cases h10 : u < 10
    · rw [if_neg (by rw [zI_le (zR_small (by omega) (by omega)) (zR_small (by omega) (by omega))]; omega), zI_add]
      congr 3
      omega
    · rw [if_pos (by rw [zI_le (zR_small (by omega) (by omega)) (zR_small (by omega) (by omega))]; omega), z_0, zI_add]
      congr 3
      omega
  · rw [mset_j _ _ _ _ (by decide), mset_eq]
  · rw [mset_eq]
  · rw [mset_h _ _ _ _ (by decide), mset_h _ _ _ _ (by decide), k2 k hk, Nat.zero_add]
  · rw [mset_h _ _ _ _ (by decide), mset_h _ _ _ _ (by decide), k3 j hj]
  · rw [mset_j _ _ _ _ h5, mset_j _ _ _ _ h6, k4 31 (by decide)]
  · rw [mset_ne h1, mset_ne h1, k4 a h2]
theorem hist_push {μ τ : wd_Mem} {n u p : Nat} (hn : n ≤ 5) (hu : u ≤ 10) (hp : p < 10) (h7 : ∀ k, k < u → wdW μ n (64 + 4 * ((p + 10 - k) % 10)) 35 (30 * ((p + 9 - k) % 10))) (hW : wdW μ n 48 34 0) (a1 : τ 27 1 = zI ((p + 1) % 10 : Nat)) (a2 : τ 27 2 = zI (min 10 (u + 1) : Nat)) (a3 : τ 31 6 = zI ((p + 1) % 10 : Nat)) (a4 : τ 31 5 = zI (min 10 (u + 1) : Nat))
    (b1 : ∀ b, b < 10 → τ (64 + 4 * ((p + 1) % 10) + 1) b = μ 49 b ∧ τ (64 + 4 * ((p + 1) % 10) + 2) b = μ 50 b ∧ τ (64 + 4 * ((p + 1) % 10) + 3) b = μ 51 b) (b2 : ∀ a, 64 ≤ a → a < 104 → a ≠ 64 + 4 * ((p + 1) % 10) + 1 → a ≠ 64 + 4 * ((p + 1) % 10) + 2 → a ≠ 64 + 4 * ((p + 1) % 10) + 3 → τ a = μ a) (b3 : ∀ k, k < 30 → τ 35 (30 * p + k) = μ 34 k) (b4 : ∀ j, (j < 30 * p ∨ 30 * p + 30 ≤ j) → τ 35 j = μ 35 j) : rHist τ n := by
  have hq : (p + 1) % 10 < 10 := Nat.mod_lt _ (by omega)
  refine ⟨min 10 (u + 1), (p + 1) % 10, by omega, hq, a2, a4, a1, a3, fun k hk => ?_⟩
  by_cases hk0 : k = 0
  · subst hk0
    rw [show ((p + 1) % 10 + 10 - 0) % 10 = (p + 1) % 10 by omega, show ((p + 1) % 10 + 9 - 0) % 10 = p by omega]
    exact wdW_copy (μ := μ) (h := 48) (hm := 34) (off := 0) hn b1 (fun k hk => by rw [b3 k hk, Nat.zero_add]) hW
  · rw [show ((p + 1) % 10 + 10 - k) % 10 = (p + 10 - (k - 1)) % 10 by omega, show ((p + 1) % 10 + 9 - k) % 10 = (p + 9 - (k - 1)) % 10 by omega]
    have w := h7 (k - 1) (by omega)
    have hm : (p + 10 - (k - 1)) % 10 < 10 := Nat.mod_lt _ (by omega)
    have hm2 : (p + 9 - (k - 1)) % 10 < 10 := Nat.mod_lt _ (by omega)
    have g : ∀ c, c = 1 ∨ c = 2 ∨ c = 3 → τ (64 + 4 * ((p + 10 - (k - 1)) % 10) + c) = μ (64 + 4 * ((p + 10 - (k - 1)) % 10) + c) := fun c hc => b2 _ (by omega) (by omega) (by omega) (by omega) (by omega)
    refine wdW_copy (μ := μ) hn (fun b hb => ?_) (fun j hj => ?_) w
    · rw [g 1 (by omega), g 2 (by omega), g 3 (by omega)]
      exact ⟨rfl, rfl, rfl⟩
    · exact b4 _ (by omega)
