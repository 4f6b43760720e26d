/-! ===== what desk does behind the reading, both ===== -/
theorem nar0 : vp_nar .boolean (0 : Int32) = 0 := by decide
theorem takeT {ν : wd_Mem} : ∃ τ : wd_Mem, X4_take 3 6 ν = some τ ∧ τ 3 0 = ν 6 0 ∧ τ 3 1 = ν 6 1 ∧ (∀ j, j < 5 → τ 4 j = ν 7 j ∧ τ 5 j = ν 8 j) ∧ ∀ a, a ≠ 3 → a ≠ 4 → a ≠ 5 → τ a = ν a := by
  obtain ⟨s0, hs0⟩ : ∃ q, q = mset (mset ν 3 0 (ν 6 0)) 3 1 (ν 6 1) := ⟨_, rfl⟩
  have key : ∃ τ : wd_Mem, ((∀ j, j < 5 → τ 4 j = s0 7 j ∧ τ 5 j = s0 8 j) ∧ ∀ a, a ≠ 4 → a ≠ 5 → τ a = s0 a) ∧ X4_take_l18 (fun μ => X4_take_b53 3 6 μ) 3 6 wd_big (zI (0 : Nat)) s0 = some τ := by
    refine wd_for0 (fun n i s => X4_take_l18 (fun μ => X4_take_b53 3 6 μ) 3 6 n (zI (i : Nat)) s) (fun s => some s) (fun i s => (∀ j, j < i → s 4 j = s0 7 j ∧ s 5 j = s0 8 j) ∧ ∀ a, a ≠ 4 → a ≠ 5 → s a = s0 a) 5 s0 (by omega) ⟨fun b hb => by omega, fun a _ _ => rfl⟩ (fun i s n hi hI => ?_) (fun s n _ => ?_)
    · obtain ⟨hI1, hI2⟩ := hI
      refine ⟨mset (mset s 4 i (s 7 i)) 5 i (s 8 i), ⟨fun b hb => ?_, fun a p q => ?_⟩, ?_⟩
      · by_cases hb2 : b = i
        · subst hb2
          refine ⟨?_, ?_⟩
          · rw [mset_h _ _ _ _ (by decide), mset_eq, hI2 7 (by decide) (by decide)]
          · rw [mset_eq, hI2 8 (by decide) (by decide)]
        · rw [mset_j _ _ _ _ hb2, mset_j _ _ _ _ hb2, mset_j _ _ _ _ hb2, mset_j _ _ _ _ hb2]
          exact hI1 b (by omega)
      · rw [mset_ne q, mset_ne p]
        exact hI2 a p q
      · show X4_take_c18 _ _ 3 6 s (zI i) = _
        unfold X4_take_c18
        rw [if_neg (by rw [z_5, zI_le (zR_small (by omega) (by omega)) (zR_small (by omega) (by omega))]; omega), wd_chk_in (by omega) (by omega) (by omega), zI_clN (by omega), z_1, zI_add, mset_h _ _ _ _ (show 6 + 2 ≠ 3 + 1 by decide)]
        rfl
    · show X4_take_c18 _ _ 3 6 s (zI 5) = _
      unfold X4_take_c18
      rw [if_pos (by rw [z_5]; exact Int32.le_refl _)]
      rfl
  obtain ⟨τ, ⟨k1, k2⟩, k3⟩ := key
  refine ⟨τ, ?_, ?_, ?_, fun j hj => ?_, fun a p q r => ?_⟩
  · unfold X4_take X4_take_b0
    rw [mset_h _ _ _ _ (show 6 ≠ 3 by decide), ← hs0, z_0]
    exact k3
  · rw [k2 3 (by decide) (by decide), hs0, mset_j _ _ _ _ (by decide), mset_eq]
  · rw [k2 3 (by decide) (by decide), hs0, mset_eq]
  · rw [(k1 j hj).1, (k1 j hj).2, hs0, mset_ne (by decide), mset_ne (by decide), mset_ne (by decide), mset_ne (by decide)]
    exact ⟨rfl, rfl⟩
  · rw [k2 a q r, hs0, mset_ne p, mset_ne p]
theorem keptX {ν : wd_Mem} {x1 : Int32} : ∃ τ : wd_Mem, X7_desk_l62 (fun μ => X7_desk_b80 μ x1) x1 wd_big 0 ν = some (x1, τ) ∧ (∀ j, j < 2 → τ 30 j = 0) ∧ ∀ a, a ≠ 30 → τ a = ν a := by
  have key : ∃ τ : wd_Mem, ((∀ j, j < 2 → τ 30 j = 0) ∧ ∀ a, a ≠ 30 → τ a = ν a) ∧ X7_desk_l62 (fun μ => X7_desk_b80 μ x1) x1 wd_big (zI (0 : Nat)) ν = some (x1, τ) := by
    refine wd_for0 (fun n i s => X7_desk_l62 (fun μ => X7_desk_b80 μ x1) x1 n (zI (i : Nat)) s) (fun s => some (x1, s)) (fun i s => (∀ j, j < i → s 30 j = 0) ∧ ∀ a, a ≠ 30 → s a = ν a) 2 ν (by omega) ⟨fun b hb => by omega, fun a _ => rfl⟩ (fun i s n hi hI => ?_) (fun s n _ => ?_)
    · obtain ⟨hI1, hI2⟩ := hI
      refine ⟨mset s 30 i 0, ⟨fun b hb => ?_, fun a p => ?_⟩, ?_⟩
      · by_cases hb2 : b = i
        · subst hb2
          rw [mset_eq]
        · rw [mset_j _ _ _ _ hb2]
          exact hI1 b (by omega)
      · rw [mset_ne p]
        exact hI2 a p
      · show X7_desk_c62 _ _ s x1 (zI i) = _
        unfold X7_desk_c62
        rw [if_neg (by rw [z_2, zI_le (zR_small (by omega) (by omega)) (zR_small (by omega) (by omega))]; omega), wd_chk_in (by omega) (by omega) (by omega), zI_clN (by omega), nar0, z_1, zI_add]
        rfl
    · show X7_desk_c62 _ _ s x1 (zI 2) = _
      unfold X7_desk_c62
      rw [if_pos (by rw [z_2]; exact Int32.le_refl _)]
      rfl
  obtain ⟨τ, ⟨k1, k2⟩, k3⟩ := key
  exact ⟨τ, by rw [z_0]; exact k3, k1, k2⟩
theorem stepD {s : wd_Mem} {i m : Nat} {rec : Int32 → wd_Mem → Option (Int32 × wd_Mem)} {K : wd_Mem → Option (Int32 × wd_Mem)} {x1 : Int32} (hi : i < 5) (hm : m ≤ 5) (h0 : s 31 0 = zI (m : Nat)) : ∃ x y z w : Int32, X8_desk_c89 rec K s x1 (zI (i : Nat)) = rec (zI ((i + 1 : Nat) : Int)) (mset (mset (mset (mset s 34 i x) 34 (5 + i) y) 32 i z) 33 i w) ∧ (i < m → x = s 39 (4 * i) ∧ y = s 39 (4 * i + 1) ∧ z = s 39 (4 * i + 2) ∧ w = s 39 (4 * i + 3)) := by
  have e1 : zI (i : Int) + (1 : Int32) = zI ((i + 1 : Nat) : Int) := by rw [z_1, zI_add]; rfl
  have e4 : (4 : Int32) * zI (i : Nat) = zI ((4 * i : Nat) : Int) := by
    rw [z_4, zI_mul]
    congr 1
  have f1 : zI ((4 * i : Nat) : Int) + (1 : Int32) = zI ((4 * i + 1 : Nat) : Int) := by
    rw [z_1, zI_add]
    congr 1
  have f2 : zI ((4 * i : Nat) : Int) + (2 : Int32) = zI ((4 * i + 2 : Nat) : Int) := by
    rw [z_2, zI_add]
    congr 1
  have f3 : zI ((4 * i : Nat) : Int) + (3 : Int32) = zI ((4 * i + 3 : Nat) : Int) := by
    rw [z_3, zI_add]
    congr 1
  have e0 : (0 : Int32) + zI (i : Nat) = zI (i : Nat) := by
    rw [z_0, zI_add]
    congr 1
    omega
  have e5 : (5 : Int32) + zI (i : Nat) = zI ((5 + i : Nat) : Int) := by
    rw [z_5, zI_add]
    congr 1
  have c5 : ¬ (5 : Int32) ≤ zI (i : Nat) := by
    rw [z_5, zI_le (zR_small (by omega) (by omega)) (zR_small (by omega) (by omega))]
    omega
  unfold X8_desk_c89 X8_desk_b121 X8_desk_b151 X8_desk_b179 X8_desk_b207
  by_cases q : i < m
  · have cn : ¬ zI (m : Nat) ≤ zI (i : Nat) := by
      rw [zI_le (zR_small (by omega) (by omega)) (zR_small (by omega) (by omega))]
      omega
    refine ⟨s 39 (4 * i), s 39 (4 * i + 1), s 39 (4 * i + 2), s 39 (4 * i + 3), ?_, fun _ => ⟨rfl, rfl, rfl, rfl⟩⟩
    simp (disch := decide) only [mset_h, h0, e4, f1, f2, f3, e0, e5, e1]
    simp (disch := omega) only [if_neg c5, if_neg cn, wd_chk_in, zI_clN]
  · have cn : zI (m : Nat) ≤ zI (i : Nat) := by
      rw [zI_le (zR_small (by omega) (by omega)) (zR_small (by omega) (by omega))]
      omega
    refine ⟨0, 0, 0, 0, ?_, fun w => absurd w q⟩
    simp (disch := decide) only [mset_h, h0, e4, f1, f2, f3, e0, e5, e1]
    simp (disch := omega) only [if_neg c5, if_pos cn, wd_chk_in, zI_clN]
theorem endD {τ : wd_Mem} {m r : Nat} {e l d c : Nat → Nat} {x1 : Int32} (hm : m ≤ 5) (ho : toldM τ m r e l d c) : ∃ σ : wd_Mem, X8_desk_b66 τ x1 = some (x1, σ) ∧ (∀ i, i < m → σ 34 i = zI (e i : Nat) ∧ σ 34 (5 + i) = zI (l i : Nat) ∧ σ 32 i = zI (d i : Nat) ∧ σ 33 i = zI (c i : Nat)) ∧ (∀ k, 10 ≤ k → k < 30 → σ 34 k = -9) ∧ σ 31 10 = 0 ∧ σ 31 0 = zI (m : Nat) ∧ σ 31 1 = zI (r : Nat) ∧ σ 31 5 = 0 ∧ (∀ b, b < 2 → σ 36 b = 0) ∧ (∀ j, j ≠ 0 → j ≠ 1 → j ≠ 5 → j ≠ 10 → σ 31 j = τ 31 j) ∧ ∀ a, a ≠ 31 → a ≠ 32 → a ≠ 33 → a ≠ 34 → a ≠ 36 → σ a = τ a := by
  obtain ⟨o1, o2, o3⟩ := ho
  obtain ⟨s0, hs0⟩ : ∃ q, q = mset (mset (mset τ 31 10 0) 31 0 (τ 31 17)) 31 1 (τ 31 18) := ⟨_, rfl⟩
  have s00 : s0 31 0 = zI (m : Nat) := by rw [hs0, mset_j _ _ _ _ (by decide), mset_eq, o1]
  have s039 : s0 39 = τ 39 := by rw [hs0, mset_ne (by decide), mset_ne (by decide), mset_ne (by decide)]
  have key : ∃ ρ : wd_Mem, ((∀ i, i < 5 → i < m → ρ 34 i = zI (e i : Nat) ∧ ρ 34 (5 + i) = zI (l i : Nat) ∧ ρ 32 i = zI (d i : Nat) ∧ ρ 33 i = zI (c i : Nat)) ∧ ∀ a, a ≠ 32 → a ≠ 33 → a ≠ 34 → ρ a = s0 a) ∧ X8_desk_l89 (fun μ => X8_desk_b214 μ x1) x1 wd_big (zI (0 : Nat)) s0 = X8_desk_b214 ρ x1 := by
    refine wd_for0 (fun n i s => X8_desk_l89 (fun μ => X8_desk_b214 μ x1) x1 n (zI (i : Nat)) s) (fun s => X8_desk_b214 s x1) (fun k s => (∀ i, i < k → i < m → s 34 i = zI (e i : Nat) ∧ s 34 (5 + i) = zI (l i : Nat) ∧ s 32 i = zI (d i : Nat) ∧ s 33 i = zI (c i : Nat)) ∧ ∀ a, a ≠ 32 → a ≠ 33 → a ≠ 34 → s a = s0 a) 5 s0 (by omega) ⟨fun b hb => by omega, fun a _ _ _ => rfl⟩ (fun i s n hi hI => ?_) (fun s n _ => ?_)
    · obtain ⟨hI1, hI2⟩ := hI
      obtain ⟨x, y, z, w, k1, k2⟩ := stepD (s := s) (rec := X8_desk_l89 (fun μ => X8_desk_b214 μ x1) x1 n) (K := fun μ => X8_desk_b214 μ x1) (x1 := x1) hi hm (by rw [hI2 31 (by decide) (by decide) (by decide)]; exact s00)
      refine ⟨_, ⟨fun b hb hbm => ?_, fun a p q r => ?_⟩, k1⟩
      · rw [mset_h _ _ _ _ (show 34 ≠ 33 by decide), mset_h _ _ _ _ (show 34 ≠ 32 by decide), mset_h _ _ _ _ (show 34 ≠ 33 by decide), mset_h _ _ _ _ (show 34 ≠ 32 by decide), mset_h _ _ _ _ (show 32 ≠ 33 by decide)]
        by_cases hb2 : b = i
        · subst hb2
          obtain ⟨u1, u2, u3, u4⟩ := k2 hbm
          obtain ⟨v1, v2, v3, v4⟩ := o3 b hbm
          have h39 : s 39 = τ 39 := by rw [hI2 39 (by decide) (by decide) (by decide), s039]
          rw [mset_j _ _ _ _ (by omega), mset_eq, mset_eq, mset_eq, mset_eq, u1, u2, u3, u4, h39]
          exact ⟨v1, v2, v3, v4⟩
        · rw [mset_j _ _ _ _ (by omega), mset_j _ _ _ _ (by omega), mset_j _ _ _ _ (by omega), mset_j _ _ _ _ (by omega), mset_j _ _ _ _ (by omega), mset_j _ _ _ _ (by omega)]
          rw [mset_j _ _ _ _ hb2, mset_j _ _ _ _ hb2, mset_h _ _ _ _ (show 33 ≠ 32 by decide), mset_h _ _ _ _ (show 33 ≠ 34 by decide), mset_h _ _ _ _ (show 33 ≠ 34 by decide)]
          exact hI1 b (by omega) hbm
      · rw [mset_ne q, mset_ne p, mset_ne r, mset_ne r]
        exact hI2 a p q r
    · show X8_desk_c89 _ _ s x1 (zI 5) = _
      unfold X8_desk_c89
      rw [if_pos (by rw [z_5]; exact Int32.le_refl _)]
  obtain ⟨ρ, ⟨k1, k2⟩, k3⟩ := key
  have key2 : ∃ π : wd_Mem, (10 ≤ 20 ∧ (∀ k, 10 ≤ k → k < 20 → π 34 k = -9 ∧ π 34 (k + 10) = -9) ∧ (∀ k, k < 10 → π 34 k = ρ 34 k) ∧ ∀ a, a ≠ 34 → π a = ρ a) ∧ X8_desk_l217 (fun μ => X8_desk_b248 μ x1) x1 wd_big (zI (10 : Nat)) ρ = X8_desk_b248 π x1 := by
    refine wd_for (fun n i s => X8_desk_l217 (fun μ => X8_desk_b248 μ x1) x1 n (zI (i : Nat)) s) (fun s => X8_desk_b248 s x1) (fun i s => 10 ≤ i ∧ (∀ k, 10 ≤ k → k < i → s 34 k = -9 ∧ s 34 (k + 10) = -9) ∧ (∀ k, k < 10 → s 34 k = ρ 34 k) ∧ ∀ a, a ≠ 34 → s a = ρ a) 20 (fun i s n hi hI => ?_) (fun s n _ => ?_) 10 10 ρ wd_big (by omega) (by unfold wd_big; omega) ⟨by omega, fun k h1 h2 => by omega, fun _ _ => rfl, fun _ _ => rfl⟩
    · obtain ⟨i0, i1, i2, i3⟩ := hI
      refine ⟨mset (mset s 34 i (-9)) 34 (i + 10) (-9), ⟨by omega, fun k h1 h2 => ?_, fun k hk => ?_, fun a ha => ?_⟩, ?_⟩
      · by_cases hk : k = i
        · subst hk
          rw [mset_j _ _ _ _ (by omega), mset_eq, mset_eq]
          exact ⟨rfl, rfl⟩
        · rw [mset_j _ _ _ _ (by omega), mset_j _ _ _ _ (by omega), mset_j _ _ _ _ (by omega), mset_j _ _ _ _ (by omega)]
          exact i1 k h1 (by omega)
      · rw [mset_j _ _ _ _ (by omega), mset_j _ _ _ _ (by omega)]
        exact i2 k hk
      · rw [mset_ne ha, mset_ne ha]
        exact i3 a ha
      · show X8_desk_c217 _ _ s x1 (zI i) = _
        unfold X8_desk_c217
        have e10 : zI (i : Int) + (10 : Int32) = zI ((i + 10 : Nat) : Int) := by rw [z_10, zI_add]; rfl
        rw [e10, if_neg (by rw [z_20, zI_le (zR_small (by omega) (by omega)) (zR_small (by omega) (by omega))]; omega), wd_chk_in (by omega) (by omega) (by omega), wd_chk_in (by omega) (by omega) (by omega), zI_clN (by omega), zI_clN (by omega), z_1, zI_add]
        rfl
    · show X8_desk_c217 _ _ s x1 (zI 20) = _
      unfold X8_desk_c217
      rw [if_pos (by rw [z_20]; exact Int32.le_refl _)]
  obtain ⟨π, ⟨-, p1, p2, p3⟩, p4⟩ := key2
  have hb66 : X8_desk_b66 τ x1 = some (x1, mset (mset (mset π 31 5 0) 36 0 0) 36 1 0) := by
    unfold X8_desk_b66
    rw [← hs0]
    have k3' : X8_desk_l89 (fun μ => X8_desk_b214 μ x1) x1 wd_big 0 s0 = X8_desk_b214 ρ x1 := k3
    rw [k3']
    unfold X8_desk_b214
    have p4' : X8_desk_l217 (fun μ => X8_desk_b248 μ x1) x1 wd_big 10 ρ = X8_desk_b248 π x1 := p4
    rw [p4']
    unfold X8_desk_b248
    rw [wd_chk_t (by decide), wd_chk_t (by decide), nar0]
    rfl
  have r34 : (mset (mset (mset π 31 5 0) 36 0 0) 36 1 0) 34 = π 34 := by rw [mset_ne (by decide), mset_ne (by decide), mset_ne (by decide)]
  have rj : ∀ j, j ≠ 5 → (mset (mset (mset π 31 5 0) 36 0 0) 36 1 0) 31 j = s0 31 j := fun j hj => by rw [mset_h _ _ _ _ (by decide), mset_h _ _ _ _ (by decide), mset_j _ _ _ _ hj, p3 31 (by decide), k2 31 (by decide) (by decide) (by decide)]
  refine ⟨_, hb66, fun i hi => ?_, fun k h1 h2 => ?_, ?_, ?_, ?_, ?_, fun b hb => ?_, fun j j0 j1 j5 j10 => ?_, fun a a1 a2 a3 a4 a6 => ?_⟩
  · rw [r34, mset_ne (show 32 ≠ 36 by decide), mset_ne (show 32 ≠ 36 by decide), mset_ne (show 32 ≠ 31 by decide), mset_ne (show 33 ≠ 36 by decide), mset_ne (show 33 ≠ 36 by decide), mset_ne (show 33 ≠ 31 by decide), p2 i (by omega), p2 (5 + i) (by omega), p3 32 (by decide), p3 33 (by decide)]
    exact k1 i (by omega) hi
  · rw [r34]
    by_cases z : k < 20
    · exact (p1 k h1 z).1
    · have := (p1 (k - 10) (by omega) (by omega)).2
      rwa [show k - 10 + 10 = k by omega] at this
  · rw [rj 10 (by decide), hs0, mset_j _ _ _ _ (by decide), mset_j _ _ _ _ (by decide), mset_eq]
  · rw [rj 0 (by decide), s00]
  · rw [rj 1 (by decide), hs0, mset_eq, o2]
  · rw [mset_h _ _ _ _ (by decide), mset_h _ _ _ _ (by decide), mset_eq]
  · rcases (show b = 0 ∨ b = 1 by omega) with rfl | rfl
    · rw [mset_j _ _ _ _ (by decide), mset_eq]
    · rw [mset_eq]
  · rw [rj j j5, hs0, mset_j _ _ _ _ j1, mset_j _ _ _ _ j0, mset_j _ _ _ _ j10]
  · rw [mset_ne a6, mset_ne a6, mset_ne a1, p3 a a4, k2 a a2 a3 a4, hs0, mset_ne a1, mset_ne a1, mset_ne a1]
