/-! ===== back, undo; the class's add, the reference's remember ===== -/
theorem base_congr {μ ν : wd_Mem} {n : Nat} (f : ∀ a, (a = 1 ∨ a = 2 ∨ a = 38 ∨ a = 14 ∨ a = 15 ∨ a = 16 ∨ a = 17 ∨ a = 26 ∨ a = 3 ∨ a = 4 ∨ a = 5 ∨ a = 32 ∨ a = 33) → ν a = μ a) (e10 : ν 31 10 = μ 31 10) (e0 : ν 31 0 = μ 31 0) (e1 : ν 31 1 = μ 31 1) (hT : rText μ) (hS : rSight μ) (hL : rLoad μ) (hK : rTask μ n) : rText ν ∧ rSight ν ∧ rLoad ν ∧ rTask ν n :=
  ⟨rText_congr (f 1 (by omega)) (f 2 (by omega)) e10 (f 38 (by omega)) hT, rSight_congr (f 14 (by omega)) (f 15 (by omega)) (f 16 (by omega)) (f 17 (by omega)) hS, rLoad_congr (f 26 (by omega)) hL, rTask_congr (f 3 (by omega)) (f 4 (by omega)) (f 5 (by omega)) (f 32 (by omega)) (f 33 (by omega)) e0 e1 hK⟩
theorem X8_back_cp (s0 : wd_Mem) {b : Nat} (hb : b < 2) : ∃ ρ : wd_Mem, X8_back_l25 (fun μ => X8_back_b54 μ) (zI b) wd_big 0 s0 = some (ρ 31 0, mset ρ 31 5 0) ∧ (∀ k, k < 30 → ρ 34 k = s0 37 (30 * b + k)) ∧ ∀ a, a ≠ 34 → ρ a = s0 a := by
  have key := cp_for (fun n i s => X8_back_l25 (fun μ => X8_back_b54 μ) (zI b) n (zI (i : Nat)) s) (fun s => some (s 31 0, mset s 31 5 0)) 34 37 0 (30 * b) s0 (by decide) (fun i s n hi _ => by
    show X8_back_c25 _ _ s (zI b) (zI i) = _
    unfold X8_back_c25 cpM
    rw [if_neg (le30 hi), z_30, zI_mul, zI_add, wd_chk_in (by omega) (by omega) (by omega), wd_chk_in (by omega) (by omega) (by omega), zI_clN (by omega), zI_cl (by omega) (by omega), z_1, zI_add, Nat.zero_add, show ((30 * (b : Int) + (i : Int)).toNat) = 30 * b + i by omega]
    rfl) (fun s n _ => by
    show X8_back_c25 _ _ s (zI b) (zI 30) = _
    unfold X8_back_c25
    rw [if_pos (by rw [z_30]; exact Int32.le_refl _)]
    rfl)
  obtain ⟨ρ, k1, k2, k3, k4⟩ := key
  exact ⟨ρ, by rw [z_0]; exact k1, fun k hk => by have := k2 k hk; rw [Nat.zero_add] at this; exact this, k4⟩
theorem op_back (μ : wd_Mem) (x : Int32) (h : wd_rel μ) : ∃ (r : Int32) (μ1 μ2 : wd_Mem), X7_back μ x = some (r, μ1) ∧ X8_back μ1 x = some (r, μ2) ∧ wd_rel μ2 := by
  by_cases hx : x = 0 ∨ x = 1
  · obtain ⟨b, hb, rfl⟩ := is01 hx
    have h' := h
    obtain ⟨hT, hS, hL, n, hK, hW, hH, hI⟩ := h
    rcases hI b hb with ⟨i1, i2⟩ | ⟨i1, i2, i3⟩
    · refine ⟨-2, μ, μ, ?_, ?_, h'⟩
      · unfold X7_back X7_back_b0
        rw [if_neg (by rw [X7_z01_0]; exact not_not_intro hx), wd_chk_in (by omega) (by omega) (by omega), zI_clN (by omega), if_pos i1]
      · unfold X8_back X8_back_b0
        rw [if_neg (by rw [X8_in_0, in01]; exact not_not_intro hx), wd_chk_in (by omega) (by omega) (by omega), zI_clN (by omega), if_pos i2]
    · obtain ⟨ν, t1, t2, t3⟩ := take_eq (μ := μ) (h0 := 48) (h1 := 56 + 4 * b) (isW_of (by omega) (by omega) (by omega)) (isW_of (by omega) (by omega) (by omega)) (by omega)
      obtain ⟨ρ, k1, k2, k4⟩ := X8_back_cp (mset ν 27 2 0) hb
      have f : ∀ a, a ≠ 34 → a ≠ 27 → a ≠ 31 → a ≠ 49 → a ≠ 50 → a ≠ 51 → (mset ρ 31 5 0) a = μ a := fun a p q r s1 s2 s3 => by
        rw [mset_ne r, k4 a p, mset_ne q, t3 a s1 s2 s3]
      have f31 : ∀ j, j ≠ 5 → (mset ρ 31 5 0) 31 j = μ 31 j := fun j hj => by
        rw [mset_j _ _ _ _ hj, k4 31 (by decide), mset_ne (by decide), t3 31 (by omega) (by omega) (by omega)]
      refine ⟨zI n, mset ν 27 2 0, mset ρ 31 5 0, ?_, ?_, ?_⟩
      · unfold X7_back X7_back_b0
        rw [if_neg (by rw [X7_z01_0]; exact not_not_intro hx), wd_chk_in (by omega) (by omega) (by omega), zI_clN (by omega), if_neg (by rw [i1]; decide), imgs_at hb]
        simp only [Option.bind_some]
        rw [t1]
        simp only [Option.bind_some]
        rw [t3 3 (by omega) (by omega) (by omega), hK.2.1]
      · unfold X8_back X8_back_b0
        rw [if_neg (by rw [X8_in_0, in01]; exact not_not_intro hx), wd_chk_in (by omega) (by omega) (by omega), zI_clN (by omega), if_neg (by rw [mset_h _ _ _ _ (by decide), t3 36 (by omega) (by omega) (by omega), i2]; decide), k1, k4 31 (by decide), mset_h _ _ _ _ (by decide), t3 31 (by omega) (by omega) (by omega), hK.2.2.1]
      · obtain ⟨c1, c2, c3, c4⟩ := base_congr (ν := mset ρ 31 5 0) (fun a ha => f a (by omega) (by omega) (by omega) (by omega) (by omega) (by omega)) (f31 10 (by decide)) (f31 0 (by decide)) (f31 1 (by decide)) hT hS hL hK
        obtain ⟨u, p, h1, h2, h3, h4, h5, h6, h7⟩ := hH
        refine ⟨c1, c2, c3, n, c4, ?_, ⟨0, p, by omega, h2, ?_, ?_, ?_, ?_, fun k hk => by omega⟩, rImg_congr (f 30 (by decide) (by decide) (by decide) (by decide) (by decide) (by decide)) (f 36 (by decide) (by decide) (by decide) (by decide) (by decide) (by decide)) (f 37 (by decide) (by decide) (by decide) (by decide) (by decide) (by decide)) (fun a _ _ => f a (by omega) (by omega) (by omega) (by omega) (by omega) (by omega)) (hI)⟩
        · refine wdW_copy (μ := μ) (h := 56 + 4 * b) (hm := 37) (off := 30 * b) hK.1 (fun j hj => ?_) (fun k hk => ?_) i3
          · rw [mset_ne (by decide), mset_ne (by decide), mset_ne (by decide), k4 _ (by decide), k4 _ (by decide), k4 _ (by decide), mset_ne (by decide), mset_ne (by decide), mset_ne (by decide)]
            exact t2 j hj
          · rw [Nat.zero_add, mset_h _ _ _ _ (by decide), k2 k hk, mset_h _ _ _ _ (by decide), t3 37 (by omega) (by omega) (by omega)]
        · rw [mset_h _ _ _ _ (by decide), k4 27 (by decide), mset_eq]; rfl
        · rw [mset_eq]; rfl
        · rw [mset_h _ _ _ _ (by decide), k4 27 (by decide), mset_j _ _ _ _ (by decide), t3 27 (by omega) (by omega) (by omega), h5]
        · rw [f31 6 (by decide), h6]
  · refine ⟨-1, μ, μ, ?_, ?_, h⟩
    · unfold X7_back X7_back_b0
      rw [if_pos (by rw [X7_z01_0]; exact hx)]
    · unfold X8_back X8_back_b0
      rw [if_pos (by rw [X8_in_0, in01]; exact hx)]
theorem X8_undo_cp (s0 : wd_Mem) {p : Nat} (hp : p < 10) (e : s0 31 6 = zI p) : ∃ ρ : wd_Mem, X8_undo_l38 (fun μ => X8_undo_b70 μ) wd_big 0 s0 = some (ρ 31 5, ρ) ∧ (∀ k, k < 30 → ρ 34 k = s0 35 (30 * p + k)) ∧ ∀ a, a ≠ 34 → ρ a = s0 a := by
  have key := cp_for (fun n i s => X8_undo_l38 (fun μ => X8_undo_b70 μ) n (zI (i : Nat)) s) (fun s => some (s 31 5, s)) 34 35 0 (30 * p) s0 (by decide) (fun i s n hi hf => by
    show X8_undo_c38 _ _ s (zI i) = _
    unfold X8_undo_c38 cpM
    rw [if_neg (le30 hi), hf 31 (by decide), e, z_30, zI_mul, zI_add, wd_chk_in (by omega) (by omega) (by omega), wd_chk_in (by omega) (by omega) (by omega), zI_clN (by omega), zI_cl (by omega) (by omega), z_1, zI_add, Nat.zero_add, show ((30 * (p : Int) + (i : Int)).toNat) = 30 * p + i by omega]
    rfl) (fun s n _ => by
    show X8_undo_c38 _ _ s (zI 30) = _
    unfold X8_undo_c38
    rw [if_pos (by rw [z_30]; exact Int32.le_refl _)]
    rfl)
  obtain ⟨ρ, k1, k2, k3, k4⟩ := key
  exact ⟨ρ, by rw [z_0]; exact k1, fun k hk => by have := k2 k hk; rw [Nat.zero_add] at this; exact this, k4⟩
theorem op_undo (μ : wd_Mem) (h : wd_rel μ) : ∃ (r : Int32) (μ1 μ2 : wd_Mem), X7_undo μ = some (r, μ1) ∧ X8_undo μ1 = some (r, μ2) ∧ wd_rel μ2 := by
  have h' := h
  obtain ⟨hT, hS, hL, n, hK, hW, ⟨u, p, h1, h2, h3, h4, h5, h6, h7⟩, hI⟩ := h
  have ru : zR (u : Int) := zR_small (by omega) (by omega)
  have r0 : zR 0 := zR_small (by omega) (by omega)
  by_cases hu : u = 0
  · subst hu
    refine ⟨-2, μ, μ, ?_, ?_, h'⟩
    · unfold X7_undo X7_undo_b0
      rw [h3, if_pos (by decide)]
    · unfold X8_undo X8_undo_b0
      rw [h4, if_pos (by decide)]
  · obtain ⟨ν, t1, t2, t3⟩ := take_eq (μ := μ) (h0 := 48) (h1 := 64 + 4 * p) (isW_of (by omega) (by omega) (by omega)) (isW_of (by omega) (by omega) (by omega)) (by omega)
    obtain ⟨μ1, hμ1⟩ : ∃ m, m = mset (mset ν 27 1 (zI (((p : Int) + 10 - 1) % 10))) 27 2 (zI ((u : Int) - 1)) := ⟨_, rfl⟩
    have g1 : ∀ a, a ≠ 27 → a ≠ 49 → a ≠ 50 → a ≠ 51 → μ1 a = μ a := fun a p q r s => by rw [hμ1, mset_ne p, mset_ne p, t3 a q r s]
    obtain ⟨s0, hs0⟩ : ∃ m, m = mset (mset μ1 31 6 (zI (((p : Int) + 10 - 1) % 10))) 31 5 (zI ((u : Int) - 1)) := ⟨_, rfl⟩
    have hp9 : (((p : Int) + 10 - 1) % 10) = (((p + 9) % 10 : Nat) : Int) := by omega
    obtain ⟨ρ, k1, k2, k4⟩ := X8_undo_cp s0 (p := (p + 9) % 10) (Nat.mod_lt _ (by omega)) (by rw [hs0, mset_j _ _ _ _ (by decide), mset_eq, hp9])
    have g2 : ∀ a, a ≠ 34 → a ≠ 31 → ρ a = μ1 a := fun a p q => by rw [k4 a p, hs0, mset_ne q, mset_ne q]
    have g31 : ∀ j, j ≠ 5 → j ≠ 6 → ρ 31 j = μ 31 j := fun j p q => by rw [k4 31 (by decide), hs0, mset_j _ _ _ _ p, mset_j _ _ _ _ q, g1 31 (by decide) (by decide) (by decide) (by decide)]
    refine ⟨zI ((u : Int) - 1), μ1, ρ, ?_, ?_, ?_⟩
    · unfold X7_undo X7_undo_b0 X0_giveBack X0_giveBack_b0
      rw [h3, if_neg (by rw [z_0, zI_eq ru r0]; omega), if_neg (by rw [z_0, zI_le ru r0]; omega), h5, wd_chk_in (by omega) (by omega) (by omega), zI_clN (by omega), ring_at h2]
      simp only [Option.bind_some]
      rw [t1]
      simp only [Option.bind_some]
      rw [t3 27 (by omega) (by omega) (by omega), h5, h3, z_10, wd_chk_nz (zR_small (by omega) (by omega)) (by omega), z_1, zI_add, zI_sub, zI_rem10 (by omega) (by omega), zI_sub]
      simp only [Option.bind_some]
      rw [← hμ1, show μ1 27 2 = zI ((u : Int) - 1) from by rw [hμ1, mset_eq]]
    · unfold X8_undo X8_undo_b0
      rw [g1 31 (by decide) (by decide) (by decide) (by decide), h4, if_neg (by rw [z_0, zI_eq ru r0]; omega), h6, z_10, wd_chk_nz (zR_small (by omega) (by omega)) (by omega), z_1, zI_add, zI_sub, zI_rem10 (by omega) (by omega), zI_sub, ← hs0, k1, k4 31 (by decide), hs0, mset_eq]
    · have f : ∀ a, a ≠ 34 → a ≠ 27 → a ≠ 31 → a ≠ 49 → a ≠ 50 → a ≠ 51 → ρ a = μ a := fun a p q r s1 s2 s3 => by rw [g2 a p r, g1 a q s1 s2 s3]
      obtain ⟨c1, c2, c3, c4⟩ := base_congr (ν := ρ) (fun a ha => f a (by omega) (by omega) (by omega) (by omega) (by omega) (by omega)) (g31 10 (by decide) (by decide)) (g31 0 (by decide) (by decide)) (g31 1 (by decide) (by decide)) hT hS hL hK
      refine ⟨c1, c2, c3, n, c4, ?_, ⟨u - 1, (p + 9) % 10, by omega, Nat.mod_lt _ (by omega), ?_, ?_, ?_, ?_, fun k hk => ?_⟩, rImg_congr (f 30 (by decide) (by decide) (by decide) (by decide) (by decide) (by decide)) (f 36 (by decide) (by decide) (by decide) (by decide) (by decide) (by decide)) (f 37 (by decide) (by decide) (by decide) (by decide) (by decide) (by decide)) (fun a _ _ => f a (by omega) (by omega) (by omega) (by omega) (by omega) (by omega)) hI⟩
      · have h70 := h7 0 (by omega)
        rw [show (p + 10 - 0) % 10 = p by omega, show (p + 9 - 0) % 10 = (p + 9) % 10 by omega] at h70
        refine wdW_copy (μ := μ) hK.1 (fun j hj => ?_) (fun k hk => ?_) h70
        · rw [g2 _ (by decide) (by decide), g2 _ (by decide) (by decide), g2 _ (by decide) (by decide), hμ1, mset_ne (by decide), mset_ne (by decide), mset_ne (by decide), mset_ne (by decide), mset_ne (by decide), mset_ne (by decide)]
          exact t2 j hj
        · rw [Nat.zero_add, k2 k hk, hs0, mset_h _ _ _ _ (by decide), mset_h _ _ _ _ (by decide), g1 35 (by decide) (by decide) (by decide) (by decide)]
      · rw [g2 27 (by decide) (by decide), hμ1, mset_eq]
        congr 1
        omega
      · rw [k4 31 (by decide), hs0, mset_eq]
        congr 1
        omega
      · rw [g2 27 (by decide) (by decide), hμ1, mset_j _ _ _ _ (by decide), mset_eq, hp9]
      · rw [k4 31 (by decide), hs0, mset_j _ _ _ _ (by decide), mset_eq, hp9]
      · have h7k := h7 (k + 1) (by omega)
        have hm : (p + 10 - (k + 1)) % 10 < 10 := Nat.mod_lt _ (by omega)
        rw [show ((p + 9) % 10 + 10 - k) % 10 = (p + 10 - (k + 1)) % 10 by omega, show ((p + 9) % 10 + 9 - k) % 10 = (p + 9 - (k + 1)) % 10 by omega]
        exact wdW_congr (f _ (by omega) (by omega) (by omega) (by omega) (by omega) (by omega)) (f _ (by omega) (by omega) (by omega) (by omega) (by omega) (by omega)) (f _ (by omega) (by omega) (by omega) (by omega) (by omega) (by omega)) (f 35 (by decide) (by decide) (by decide) (by decide) (by decide) (by decide)) h7k
