/-! ===== keep, back, undo ===== -/
theorem nar1 : vp_nar .boolean (1 : Int32) = 1 := by decide
theorem zI_rem10 {a : Int} (h0 : 0 ≤ a) (h1 : a < 1000000) : zI a - zI a / zI 10 * zI 10 = zI (a % 10) := by
  rw [zI_div h0 (by omega) (by omega) (by omega), zI_mul, zI_sub]
  congr 1
  omega
theorem imgs_at {b : Nat} (hb : b < 2) : wd_imgs[b]? = some (56 + 4 * b) := by
  rcases (show b = 0 ∨ b = 1 by omega) with rfl | rfl <;> rfl
theorem ring_at {p : Nat} (hp : p < 10) : wd_ring[p]? = some (64 + 4 * p) := by
  rcases (show p = 0 ∨ p = 1 ∨ p = 2 ∨ p = 3 ∨ p = 4 ∨ p = 5 ∨ p = 6 ∨ p = 7 ∨ p = 8 ∨ p = 9 by omega) with rfl | rfl | rfl | rfl | rfl | rfl | rfl | rfl | rfl | rfl <;> rfl
theorem le30 {i : Nat} (hi : i < 30) : ¬ (30 : Int32) ≤ zI i := by
  rw [z_30, zI_le (zR_small (by omega) (by omega)) (zR_small (by omega) (by omega))]; omega
theorem X8_keep_cp (s0 : wd_Mem) {b : Nat} (hb : b < 2) : ∃ ρ : wd_Mem, X8_keep_l20 (fun μ => X8_keep_b49 μ) (zI b) wd_big 0 s0 = some (ρ 31 0, ρ) ∧ (∀ k, k < 30 → ρ 37 (30 * b + k) = s0 34 k) ∧ (∀ j, (j < 30 * b ∨ 30 * b + 30 ≤ j) → ρ 37 j = s0 37 j) ∧ ∀ a, a ≠ 37 → ρ a = s0 a := by
  have key := cp_for (fun n i s => X8_keep_l20 (fun μ => X8_keep_b49 μ) (zI b) n (zI (i : Nat)) s) (fun s => some (s 31 0, s)) 37 34 (30 * b) 0 s0 (by decide) (fun i s n hi _ => by
    show X8_keep_c20 _ _ s (zI b) (zI i) = _
    unfold X8_keep_c20 cpM
    rw [if_neg (le30 hi), wd_chk_in (by omega) (by omega) (by omega), z_30, zI_mul, zI_add, wd_chk_in (by omega) (by omega) (by omega), zI_clN (by omega), zI_cl (by omega) (by omega), z_1, zI_add, Nat.zero_add, show ((30 * (b : Int) + (i : Int)).toNat) = 30 * b + i by omega]
    rfl) (fun s n _ => by
    show X8_keep_c20 _ _ s (zI b) (zI 30) = _
    unfold X8_keep_c20
    rw [if_pos (by rw [z_30]; exact Int32.le_refl _)]
    rfl)
  obtain ⟨ρ, k1, k2, k3, k4⟩ := key
  exact ⟨ρ, by rw [z_0]; exact k1, fun k hk => by rw [k2 k hk, Nat.zero_add], k3, k4⟩
theorem op_keep (μ : wd_Mem) (x : Int32) (h : wd_rel μ) : ∃ (r : Int32) (μ1 μ2 : wd_Mem), X7_keep μ x = some (r, μ1) ∧ X8_keep μ1 x = some (r, μ2) ∧ wd_rel μ2 := by
  by_cases hx : x = 0 ∨ x = 1
  · obtain ⟨b, hb, rfl⟩ := is01 hx
    obtain ⟨hT, hS, hL, n, hK, hW, hH, hI⟩ := h
    obtain ⟨ν, t1, t2, t3⟩ := take_eq (μ := μ) (h0 := 56 + 4 * b) (h1 := 48) (isW_of (by omega) (by omega) (by omega)) (isW_of (by omega) (by omega) (by omega)) (by omega)
    obtain ⟨ρ, k1, k2, k3, k4⟩ := X8_keep_cp (mset (mset ν 30 b 1) 36 b 1) hb
    have f : ∀ a, a ≠ 37 → a ≠ 36 → a ≠ 30 → (a < 56 ∨ 64 ≤ a) → ρ a = μ a := fun a p q r s => by
      rw [k4 a p, mset_ne q, mset_ne r, t3 a (by omega) (by omega) (by omega)]
    refine ⟨zI n, mset ν 30 b 1, ρ, ?_, ?_, ?_⟩
    · unfold X7_keep X7_keep_b0
      rw [if_neg (by rw [X7_z01_0]; exact not_not_intro hx), wd_chk_in (by omega) (by omega) (by omega), zI_clN (by omega), imgs_at hb]
      simp only [Option.bind_some]
      rw [t1]
      simp only [Option.bind_some]
      rw [t3 3 (by omega) (by omega) (by omega), hK.2.1, nar1]
    · unfold X8_keep X8_keep_b0
      rw [if_neg (by rw [X8_in_0, in01]; exact not_not_intro hx), wd_chk_in (by omega) (by omega) (by omega), zI_clN (by omega), nar1, k1, f 31 (by decide) (by decide) (by decide) (by omega), hK.2.2.1]
    · refine ⟨rText_congr (f 1 (by decide) (by decide) (by decide) (by omega)) (f 2 (by decide) (by decide) (by decide) (by omega)) (by rw [f 31 (by decide) (by decide) (by decide) (by omega)]) (f 38 (by decide) (by decide) (by decide) (by omega)) hT, rSight_congr (f 14 (by decide) (by decide) (by decide) (by omega)) (f 15 (by decide) (by decide) (by decide) (by omega)) (f 16 (by decide) (by decide) (by decide) (by omega)) (f 17 (by decide) (by decide) (by decide) (by omega)) hS, rLoad_congr (f 26 (by decide) (by decide) (by decide) (by omega)) hL, n, rTask_congr (f 3 (by decide) (by decide) (by decide) (by omega)) (f 4 (by decide) (by decide) (by decide) (by omega)) (f 5 (by decide) (by decide) (by decide) (by omega)) (f 32 (by decide) (by decide) (by decide) (by omega)) (f 33 (by decide) (by decide) (by decide) (by omega)) (by rw [f 31 (by decide) (by decide) (by decide) (by omega)]) (by rw [f 31 (by decide) (by decide) (by decide) (by omega)]) hK, wdW_congr (f 49 (by decide) (by decide) (by decide) (by omega)) (f 50 (by decide) (by decide) (by decide) (by omega)) (f 51 (by decide) (by decide) (by decide) (by omega)) (f 34 (by decide) (by decide) (by decide) (by omega)) hW, rHist_congr (f 27 (by decide) (by decide) (by decide) (by omega)) (by rw [f 31 (by decide) (by decide) (by decide) (by omega)]) (by rw [f 31 (by decide) (by decide) (by decide) (by omega)]) (fun a _ _ => f a (by omega) (by omega) (by omega) (by omega)) (f 35 (by decide) (by decide) (by decide) (by omega)) hH, fun c hc => ?_⟩
      have e30 : ρ 30 = mset ν 30 b 1 30 := by rw [k4 30 (by decide), mset_ne (by decide)]
      have e36 : ρ 36 = mset (mset ν 30 b 1) 36 b 1 36 := k4 36 (by decide)
      by_cases hcb : c = b
      · subst hcb
        refine Or.inr ⟨by rw [e30, mset_eq], by rw [e36, mset_eq], ?_⟩
        refine wdW_copy (μ := μ) (h := 48) (hm := 34) (off := 0) hK.1 (fun j hj => ?_) (fun k hk => ?_) hW
        · rw [k4 _ (by omega), k4 _ (by omega), k4 _ (by omega), mset_ne (by omega), mset_ne (by omega), mset_ne (by omega), mset_ne (by omega), mset_ne (by omega), mset_ne (by omega)]
          exact t2 j hj
        · rw [k2 k hk, mset_h _ _ _ _ (by decide), mset_h _ _ _ _ (by decide), t3 34 (by omega) (by omega) (by omega), Nat.zero_add]
      · have g : ∀ a, (a = 56 + 4 * c + 1 ∨ a = 56 + 4 * c + 2 ∨ a = 56 + 4 * c + 3) → ρ a = μ a := fun a ha => by
          rw [k4 a (by omega), mset_ne (by omega), mset_ne (by omega), t3 a (by omega) (by omega) (by omega)]
        have e1 : ρ 30 c = μ 30 c := by rw [e30, mset_j _ _ _ _ hcb, t3 30 (by omega) (by omega) (by omega)]
        have e2 : ρ 36 c = μ 36 c := by rw [e36, mset_j _ _ _ _ hcb, mset_h _ _ _ _ (by decide), t3 36 (by omega) (by omega) (by omega)]
        rcases hI c hc with ⟨i1, i2⟩ | ⟨i1, i2, i3⟩
        · exact Or.inl ⟨by rw [e1, i1], by rw [e2, i2]⟩
        · refine Or.inr ⟨by rw [e1, i1], by rw [e2, i2], ?_⟩
          refine wdW_copy (μ := μ) (h := 56 + 4 * c) (hm := 37) (off := 30 * c) hK.1 (fun j hj => ?_) (fun k hk => ?_) i3
          · rw [g _ (Or.inl rfl), g _ (Or.inr (Or.inl rfl)), g _ (Or.inr (Or.inr rfl))]
            exact ⟨rfl, rfl, rfl⟩
          · rw [k3 _ (by omega), mset_h _ _ _ _ (by decide), mset_h _ _ _ _ (by decide), t3 37 (by omega) (by omega) (by omega)]
  · refine ⟨-1, μ, μ, ?_, ?_, h⟩
    · unfold X7_keep X7_keep_b0
      rw [if_pos (by rw [X7_z01_0]; exact hx)]
    · unfold X8_keep X8_keep_b0
      rw [if_pos (by rw [X8_in_0, in01]; exact hx)]
