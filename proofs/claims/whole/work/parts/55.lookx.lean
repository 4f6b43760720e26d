theorem mnF_none {e : Nat → Int} {b : Int} : ∀ k, mnF e b k 0 = b
  | 0 => rfl
  | k + 1 => by simp only [mnF, Nat.zero_testBit]; rw [if_neg (by decide), mnF_none k]
theorem mxF_none {e : Nat → Int} {b : Int} : ∀ k, mxF e b k 0 = b
  | 0 => rfl
  | k + 1 => by simp only [mxF, Nat.zero_testBit]; rw [if_neg (by decide), mxF_none k]
theorem smF_none {e : Nat → Int} : ∀ k, smF e k 0 = 0
  | 0 => rfl
  | k + 1 => by simp only [smF, Nat.zero_testBit]; rw [if_neg (by decide), smF_none k]
theorem sgt_sight {μ : wd_Mem} {n : Nat} {e l D C : Nat → Int} (h : sgt μ n e l D C) : rSight μ := by
  obtain ⟨a, b, c, d⟩ := h.2 0 (Nat.pos_of_ne_zero (by simp))
  rw [mnF_none] at a c
  rw [mxF_none] at b
  rw [smF_none] at d
  exact ⟨a, b, c, d⟩
theorem lookX {μ : wd_Mem} {n s : Nat} {R : Int} {E L D C : Nat → Int} (hb : bnd n R E L D C) (hx : datX μ n R E L D C) (hS : rSight μ) (hs : s < 2) : ∃ ν : wd_Mem, X3_look 48 μ (zI s) = some ν ∧ sgt ν n (sE s E L) (sL s E L) D C ∧ ∀ a, ¬ (10 ≤ a ∧ a ≤ 17) → ν a = μ a := by
  obtain ⟨hn, -, -, hB⟩ := hb
  obtain ⟨x1, -, hX⟩ := hx
  have key : ∃ ν : wd_Mem, (sgt ν n (sE s E L) (sL s E L) D C ∧ ∀ a, ¬ (10 ≤ a ∧ a ≤ 17) → ν a = μ a) ∧ X3_look_l2 (fun μ => X3_look_b143 48 μ) 48 (zI s) wd_big (zI ((0 : Nat) : Int)) μ = some ν := by
    refine wd_for0 (fun q i m => X3_look_l2 (fun μ => X3_look_b143 48 μ) 48 (zI s) q (zI (i : Nat)) m) (fun m => some m) (fun i ν => sgt ν i (sE s E L) (sL s E L) D C ∧ ∀ a, ¬ (10 ≤ a ∧ a ≤ 17) → ν a = μ a) n μ (by omega) ⟨⟨fun j hj => by omega, fun S hS' => ?_⟩, fun _ _ => rfl⟩ (fun i m q hi hI => ?_) (fun m q hI => ?_)
    · have h0 : S = 0 := by simpa using hS'
      subst h0
      exact hS
    · obtain ⟨⟨i1, i2⟩, i3⟩ := hI
      obtain ⟨c1, c2, c3, c4⟩ := hX i hi
      have bE : -100 ≤ sE s E L i ∧ sE s E L i ≤ 100 ∧ -100 ≤ sL s E L i ∧ sL s E L i ≤ 100 := by
        have := hB i hi
        unfold sE sL
        split <;> omega
      obtain ⟨m1, hm1⟩ : ∃ m1, m1 = mset (mset (mset (mset m 10 i (zI (sE s E L i))) 11 i (zI (sL s E L i))) 12 i (zI (sE s E L i + D i))) 13 i (zI (sL s E L i - D i)) := ⟨_, rfl⟩
      have g : ∀ a, a ≠ 10 → a ≠ 11 → a ≠ 12 → a ≠ 13 → m1 a = m a := fun a p q r t => by rw [hm1, mset_ne t, mset_ne r, mset_ne q, mset_ne p]
      obtain ⟨ν, n1, n2, n3⟩ := look_in (K := fun μ' => X3_look_b137 (X3_look_l2 (fun μ => X3_look_b143 48 μ) 48 (zI s) q) (fun μ => X3_look_b143 48 μ) 48 μ' (zI s) (zI i)) (h1 := 48) (x2 := zI s) (m := m1) (i := i) (e := sE s E L) (l := sL s E L) (D := D) (C := C) (by omega) (fun j hj => by
          have := hB j (by omega)
          unfold sE sL
          split <;> omega) (fun j hj => by
          by_cases hji : j = i
          · subst hji
            rw [hm1]
            refine ⟨?_, ?_, ?_, ?_⟩
            · rw [mset_h _ _ _ _ (by decide), mset_h _ _ _ _ (by decide), mset_h _ _ _ _ (by decide), mset_eq]
            · rw [mset_h _ _ _ _ (by decide), mset_h _ _ _ _ (by decide), mset_eq]
            · rw [mset_h _ _ _ _ (by decide), mset_eq]
            · rw [mset_eq]
          · obtain ⟨f1, f2, f3, f4⟩ := i1 j (by omega)
            rw [hm1]
            refine ⟨?_, ?_, ?_, ?_⟩ <;> rw [mset_j _ _ _ _ hji, mset_j _ _ _ _ hji, mset_j _ _ _ _ hji, mset_j _ _ _ _ hji]
            · exact f1
            · exact f2
            · exact f3
            · exact f4) (by rw [g 4 (by decide) (by decide) (by decide) (by decide), i3 4 (by omega), c3]) (by rw [g 5 (by decide) (by decide) (by decide) (by decide), i3 5 (by omega), c4]) (fun S hS' => by
          rw [g 14 (by decide) (by decide) (by decide) (by decide), g 15 (by decide) (by decide) (by decide) (by decide), g 16 (by decide) (by decide) (by decide) (by decide), g 17 (by decide) (by decide) (by decide) (by decide)]
          exact i2 S hS')
      refine ⟨ν, ⟨n2, fun a ha => ?_⟩, ?_⟩
      · rw [n3 a (by omega), g a (by omega) (by omega) (by omega) (by omega), i3 a ha]
      · show X3_look_c2 _ _ 48 m (zI s) (zI i) = _
        have e49 : m 49 = μ 49 := i3 49 (by omega)
        have ed : ∀ (w : wd_Mem) (t : Nat), t < 2 → w 49 = μ 49 → X6_edge 48 w (zI i) (zI t) = some (μ 49 (5 * t + i)) := fun w t ht hw => by
          rw [edge_eq (by omega) ht]
          simp only [Nat.reduceAdd]
          rw [hw]
        have w10 : ∀ x, (mset m 10 i x) 49 = μ 49 := fun x => by rw [mset_ne (by decide), e49]
        have m4 : m 4 i = zI (D i) := by rw [i3 4 (by omega), c3]
        have k68 : ∀ v : Int, v = sL s E L i → X3_look_b68 (X3_look_l2 (fun μ => X3_look_b143 48 μ) 48 (zI s) q) (fun μ => X3_look_b143 48 μ) 48 (mset m 10 i (zI (sE s E L i))) (zI s) (zI i) (zI i) (zI v) = X3_look_l2 (fun μ => X3_look_b143 48 μ) 48 (zI s) q (zI ((i + 1 : Nat) : Int)) ν := by
          intro v hv
          subst hv
          unfold X3_look_b68
          rw [wd_chk_in (by omega) (by omega) (by omega), wd_chk_in (by omega) (by omega) (by omega), zI_clN (by omega), mset_eq, mset_eq, mset_h _ _ _ _ (by decide), m4, zI_add, zI_sub, ← hm1, n1]
          unfold X3_look_b137
          rw [z_1, zI_add]
          rfl
        unfold X3_look_c2 X3_look_b40
        rw [i3 3 (by omega), x1, if_neg (by rw [zI_le (zR_small (by omega) (by omega)) (zR_small (by omega) (by omega))]; omega)]
        rcases (show s = 0 ∨ s = 1 by omega) with rfl | rfl
        · have t0 : X6_edge 48 m (zI i) 0 = some (zI (E i)) := by
            have := ed m 0 (by omega) e49
            simp only [Nat.mul_zero, Nat.zero_add] at this
            rw [z_0, ← c1]; exact this
          have t1 : ∀ x, X6_edge 48 (mset m 10 i x) (zI i) 1 = some (zI (L i)) := fun x => by
            have := ed (mset m 10 i x) 1 (by omega) (w10 x)
            simp only [Nat.mul_one] at this
            rw [z_1, ← c2]; exact this
          have := k68 (L i) rfl
          rw [if_pos (by decide : zI ((0 : Nat) : Int) = 0), t0]
          simp only [Option.bind_some]
          rw [wd_chk_in (by omega) (by omega) (by omega), zI_clN (by omega), if_pos (by decide : zI ((0 : Nat) : Int) = 0), t1]
          simp only [Option.bind_some]
          exact this
        · have t0 : X6_edge 48 m (zI i) 1 = some (zI (L i)) := by
            have := ed m 1 (by omega) e49
            simp only [Nat.mul_one] at this
            rw [z_1, ← c2]; exact this
          have t1 : ∀ x, X6_edge 48 (mset m 10 i x) (zI i) 0 = some (zI (E i)) := fun x => by
            have := ed (mset m 10 i x) 0 (by omega) (w10 x)
            simp only [Nat.mul_zero, Nat.zero_add] at this
            rw [z_0, ← c1]; exact this
          have := k68 (16 - E i) rfl
          rw [if_neg (by decide : ¬ zI ((1 : Nat) : Int) = 0), t0]
          simp only [Option.bind_some]
          rw [wd_chk_in (by omega) (by omega) (by omega), zI_clN (by omega), if_neg (by decide : ¬ zI ((1 : Nat) : Int) = 0), t1]
          simp only [Option.bind_some]
          rw [z_16, zI_sub, zI_sub]
          exact this
    · show X3_look_c2 _ _ 48 m (zI s) (zI n) = _
      unfold X3_look_c2 X3_look_b143
      rw [hI.2 3 (by omega), x1, if_pos (Int32.le_refl _)]
  obtain ⟨ν, ⟨k1, k2⟩, k3⟩ := key
  refine ⟨ν, ?_, k1, k2⟩
  unfold X3_look X3_look_b0
  rw [z_0]
  exact k3
