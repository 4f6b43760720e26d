theorem mnF_S {e : Nat → Int} {b : Int} {i T : Nat} (hi : i < 5) (hT : T < 2 ^ i) : mnF e b (i + 1) (T + 2 ^ i) = min (mnF e b i T) (e i) := by
  have p4 := pow4 hi
  simp only [mnF]
  rw [if_pos (n_bit_top i hi T (by omega) hT), mnF_congr i (fun j hj => n_bit_low i hi T (by omega) hT j hj)]
theorem mxF_S {e : Nat → Int} {b : Int} {i T : Nat} (hi : i < 5) (hT : T < 2 ^ i) : mxF e b (i + 1) (T + 2 ^ i) = max (mxF e b i T) (e i) := by
  have p4 := pow4 hi
  simp only [mxF]
  rw [if_pos (n_bit_top i hi T (by omega) hT), mxF_congr i (fun j hj => n_bit_low i hi T (by omega) hT j hj)]
theorem smF_S {e : Nat → Int} {i T : Nat} (hi : i < 5) (hT : T < 2 ^ i) : smF e (i + 1) (T + 2 ^ i) = smF e i T + e i := by
  have p4 := pow4 hi
  simp only [smF]
  rw [if_pos (n_bit_top i hi T (by omega) hT), smF_congr i (fun j hj => n_bit_low i hi T (by omega) hT j hj)]
theorem tab_lo {e l f g : Nat → Int} {i S : Nat} (hi : i < 5) (hS : S < 2 ^ i) : mnF e 1000 (i + 1) S = mnF e 1000 i S ∧ mxF l (-1000) (i + 1) S = mxF l (-1000) i S ∧ mnF f 1000 (i + 1) S = mnF f 1000 i S ∧ smF g (i + 1) S = smF g i S := by
  have p4 := pow4 hi
  have h : S.testBit i = false := n_bit_hi i (by omega) S (by omega) hS i hi (by omega)
  simp only [mnF, mxF, smF, h]
  exact ⟨rfl, rfl, rfl, rfl⟩
/-- the table of the sets whose greatest task is i -/
theorem look_in {K : wd_Mem → Option wd_Mem} {h1 : Nat} {x2 : Int32} {m : wd_Mem} {i : Nat} {e l D C : Nat → Int} (hi : i < 5) (hB : ∀ j, j ≤ i → -100 ≤ e j ∧ e j ≤ 100 ∧ -100 ≤ l j ∧ l j ≤ 100 ∧ 0 ≤ D j ∧ D j ≤ 9 ∧ 0 ≤ C j ∧ C j ≤ 9) (hJ : ∀ j, j ≤ i → m 10 j = zI (e j) ∧ m 11 j = zI (l j) ∧ m 12 j = zI (e j + D j) ∧ m 13 j = zI (l j - D j)) (g4 : m 4 i = zI (D i)) (g5 : m 5 i = zI (C i)) (hS : ∀ S, S < 2 ^ i → m 14 S = zI (mnF e 1000 i S) ∧ m 15 S = zI (mxF l (-1000) i S) ∧ m 16 S = zI (mnF (fun j => e j + D j) 1000 i S) ∧ m 17 S = zI (smF (enF D C) i S)) :
    ∃ ν : wd_Mem, X3_look_l116 K h1 x2 (zI i) wd_big 0 m = K ν ∧ sgt ν (i + 1) e l D C ∧ ∀ a, ¬ (14 ≤ a ∧ a ≤ 17) → ν a = m a := by
  have p4 := pow4 hi
  have key : ∃ ν : wd_Mem, ((∀ S, S < 2 ^ i → ν 14 S = m 14 S ∧ ν 15 S = m 15 S ∧ ν 16 S = m 16 S ∧ ν 17 S = m 17 S) ∧ (∀ T, T < 2 ^ i → ν 14 (T + 2 ^ i) = zI (mnF e 1000 (i + 1) (T + 2 ^ i)) ∧ ν 15 (T + 2 ^ i) = zI (mxF l (-1000) (i + 1) (T + 2 ^ i)) ∧ ν 16 (T + 2 ^ i) = zI (mnF (fun j => e j + D j) 1000 (i + 1) (T + 2 ^ i)) ∧ ν 17 (T + 2 ^ i) = zI (smF (enF D C) (i + 1) (T + 2 ^ i))) ∧ ∀ a, ¬ (14 ≤ a ∧ a ≤ 17) → ν a = m a) ∧ X3_look_l116 K h1 x2 (zI i) wd_big (zI ((0 : Nat) : Int)) m = K ν := by
    refine wd_for0 (fun n r s => X3_look_l116 K h1 x2 (zI i) n (zI (r : Nat)) s) K (fun r ν => (∀ S, S < 2 ^ i → ν 14 S = m 14 S ∧ ν 15 S = m 15 S ∧ ν 16 S = m 16 S ∧ ν 17 S = m 17 S) ∧ (∀ T, T < r → ν 14 (T + 2 ^ i) = zI (mnF e 1000 (i + 1) (T + 2 ^ i)) ∧ ν 15 (T + 2 ^ i) = zI (mxF l (-1000) (i + 1) (T + 2 ^ i)) ∧ ν 16 (T + 2 ^ i) = zI (mnF (fun j => e j + D j) 1000 (i + 1) (T + 2 ^ i)) ∧ ν 17 (T + 2 ^ i) = zI (smF (enF D C) (i + 1) (T + 2 ^ i))) ∧ ∀ a, ¬ (14 ≤ a ∧ a ≤ 17) → ν a = m a) (2 ^ i) m (by omega) ⟨fun S _ => ⟨rfl, rfl, rfl, rfl⟩, fun T hT => by omega, fun _ _ => rfl⟩ (fun r s n hr hI => ?_) (fun s n _ => ?_)
    · obtain ⟨i1, i2, i3⟩ := hI
      obtain ⟨k1, k2, k3, k4⟩ := hS r hr
      obtain ⟨q1, q2, q3, q4⟩ := i1 r hr
      obtain ⟨j1, j2, j3, -⟩ := hJ i (Nat.le_refl i)
      obtain ⟨y1, y2, y3, y4, y5, y6, y7, y8⟩ := hB i (Nat.le_refl i)
      have d1 := mnF_bd (e := e) (b := 1000) (lo := -100) (by omega) (S := r) i (fun j hj => (hB j (by omega)).1)
      have d2 := mxF_bd (e := l) (b := -1000) (hi := 100) (by omega) (S := r) i (fun j hj => (hB j (by omega)).2.2.2.1)
      have d3 := mnF_bd (e := fun j => e j + D j) (b := 1000) (lo := -100) (by omega) (S := r) i (fun j hj => by have := hB j (by omega); show -100 ≤ e j + D j; omega)
      refine ⟨suM s (r + 2 ^ i) (min (mnF e 1000 i r) (e i)) (max (mxF l (-1000) i r) (l i)) (min (mnF (fun j => e j + D j) 1000 i r) (e i + D i)) (smF (enF D C) i r + D i * C i), ⟨fun S hS' => ?_, fun T hT => ?_, fun a ha => ?_⟩, ?_⟩
      · unfold suM
        have ne : S ≠ r + 2 ^ i := by omega
        rw [mset_j _ _ _ _ ne, mset_j _ _ _ _ ne, mset_j _ _ _ _ ne, mset_j _ _ _ _ ne, mset_j _ _ _ _ ne, mset_j _ _ _ _ ne, mset_j _ _ _ _ ne, mset_j _ _ _ _ ne, mset_j _ _ _ _ ne, mset_j _ _ _ _ ne, mset_j _ _ _ _ ne, mset_j _ _ _ _ ne, mset_j _ _ _ _ ne, mset_j _ _ _ _ ne, mset_j _ _ _ _ ne, mset_j _ _ _ _ ne]
        exact i1 S hS'
      · unfold suM
        by_cases hTr : T = r
        · subst hTr
          rw [mnF_S hi hr, mxF_S hi hr, mnF_S hi hr, smF_S hi hr]
          refine ⟨?_, ?_, ?_, ?_⟩
          · rw [mset_h _ _ _ _ (by decide), mset_h _ _ _ _ (by decide), mset_h _ _ _ _ (by decide), mset_eq]
          · rw [mset_h _ _ _ _ (by decide), mset_h _ _ _ _ (by decide), mset_eq]
          · rw [mset_h _ _ _ _ (by decide), mset_eq]
          · rw [mset_eq]; rfl
        · have ne : T + 2 ^ i ≠ r + 2 ^ i := by omega
          obtain ⟨f1, f2, f3, f4⟩ := i2 T (by omega)
          refine ⟨?_, ?_, ?_, ?_⟩ <;> rw [mset_j _ _ _ _ ne, mset_j _ _ _ _ ne, mset_j _ _ _ _ ne, mset_j _ _ _ _ ne]
          · exact f1
          · exact f2
          · exact f3
          · exact f4
      · unfold suM
        rw [mset_ne (by omega), mset_ne (by omega), mset_ne (by omega), mset_ne (by omega)]
        exact i3 a ha
      · show X3_look_c116 _ _ h1 s x2 (zI i) (zI r) = _
        unfold X3_look_c116
        rw [b_shl i (by omega), if_neg (by rw [zI_le (zR_small (by omega) (by omega)) (zR_small (by omega) (by omega))]; omega)]
        rw [sumUpX (a := mnF e 1000 i r) (b := mxF l (-1000) i r) (c := mnF (fun j => e j + D j) 1000 i r) (d := smF (enF D C) i r) (e := e i) (l := l i) (f := e i + D i) (D := D i) (C := C i) hi hr (by rw [q1, k1]) (by rw [q2, k2]) (by rw [q3, k3]) (by rw [q4, k4]) (by rw [i3 10 (by omega), j1]) (by rw [i3 11 (by omega), j2]) (by rw [i3 12 (by omega), j3]) (by rw [i3 4 (by omega), g4]) (by rw [i3 5 (by omega), g5]) (zR_small (by omega) (by omega)) (zR_small (by omega) (by omega)) (zR_small (by omega) (by omega)) (zR_small (by omega) (by omega)) (zR_small (by omega) (by omega)) (zR_small (by omega) (by omega))]
        simp only [Option.bind_some]
        rw [z_1, zI_add]
        rfl
    · show X3_look_c116 _ _ h1 s x2 (zI i) (zI ((2 ^ i : Nat) : Int)) = _
      unfold X3_look_c116
      rw [b_shl i (by omega), if_pos (Int32.le_refl _)]
  obtain ⟨ν, ⟨k1, k2, k3⟩, k4⟩ := key
  refine ⟨ν, by rw [z_0]; exact k4, ⟨fun j hj => ?_, fun S hS' => ?_⟩, k3⟩
  · rw [k3 10 (by omega), k3 11 (by omega), k3 12 (by omega), k3 13 (by omega)]
    exact hJ j (by omega)
  · by_cases h : S < 2 ^ i
    · obtain ⟨a1, a2, a3, a4⟩ := k1 S h
      obtain ⟨b1, b2, b3, b4⟩ := hS S h
      obtain ⟨c1, c2, c3, c4⟩ := tab_lo (e := e) (l := l) (f := fun j => e j + D j) (g := enF D C) hi h
      rw [a1, a2, a3, a4, c1, c2, c3, c4]
      exact ⟨b1, b2, b3, b4⟩
    · obtain ⟨T, rfl⟩ : ∃ T, S = T + 2 ^ i := ⟨S - 2 ^ i, by omega⟩
      rw [Nat.pow_succ] at hS'
      exact k2 T (by omega)
