/-! ===== of a set, on the reference's side ===== -/
theorem hasM_0 (μ : wd_Mem) {S i : Nat} (hS : S < 32) (hi : i < 5) : (X8_has μ (zI S) (zI i) = 0) ↔ S.testBit i = false := by
  rw [X8_has_eq μ hS hi]
  cases S.testBit i <;> decide
def bdV (n : Nat) (e l D C : Nat → Int) : Prop := ∀ i, i < n → -100 ≤ e i ∧ e i ≤ 100 ∧ -100 ≤ l i ∧ l i ≤ 100 ∧ 0 ≤ D i ∧ D i ≤ 9 ∧ 0 ≤ C i ∧ C i ≤ 9
theorem setEarlyM {ρ : wd_Mem} {n S : Nat} {R : Int} {e l D C : Nat → Int} (hn : n ≤ 5) (hB : bdV n e l D C) (hv : datV ρ n R e l D C) (hS : S < 32) : X8_setEarly ρ (zI S) = some (zI (mnF e 99 n S)) := by
  have key := wd_forF (fun q i x => X8_setEarly_l5 (fun x2 => X8_setEarly_b48 ρ x2) ρ (zI S) q x (zI (i : Nat))) (fun x => some x) (fun i => zI (mnF e 99 i S)) n (by omega) (fun i q hi => by
    show X8_setEarly_c5 _ _ ρ (zI S) (zI (mnF e 99 i S)) (zI i) = _
    have y := hB i hi
    have d1 := mnF_bd (e := e) (b := 99) (lo := -100) (by omega) (S := S) i (fun j hj => (hB j (by omega)).1)
    have e1 : zI (i : Int) + (1 : Int32) = zI ((i + 1 : Nat) : Int) := by rw [z_1, zI_add]; rfl
    unfold X8_setEarly_c5 X8_setEarly_b40 X8_setEarly_b41
    rw [hv.1, if_neg (by rw [zI_le (zR_small (by omega) (by omega)) (zR_small (by omega) (by omega))]; omega), wd_chk_in (by omega) (by omega) (by omega), zI_clN (by omega), (hv.2.2 i hi).1, e1]
    simp only [hasM_0 ρ hS (show i < 5 by omega), mnF]
    by_cases hbit : S.testBit i = true
    · rw [if_neg (by rw [hbit]; decide), if_pos hbit]
      by_cases hle : mnF e 99 i S ≤ e i
      · rw [if_pos (by rw [zI_le (zR_small (by omega) (by omega)) (zR_small (by omega) (by omega))]; exact hle), show min (mnF e 99 i S) (e i) = mnF e 99 i S by omega]
      · rw [if_neg (by rw [zI_le (zR_small (by omega) (by omega)) (zR_small (by omega) (by omega))]; exact hle), show min (mnF e 99 i S) (e i) = e i by omega]
    · rw [if_pos (by simpa using hbit), if_neg hbit]) (fun q => by
    show X8_setEarly_c5 _ _ ρ (zI S) (zI (mnF e 99 n S)) (zI n) = _
    unfold X8_setEarly_c5 X8_setEarly_b48
    rw [hv.1, if_pos (Int32.le_refl _)])
  unfold X8_setEarly X8_setEarly_b0
  rw [z_0, z_99]
  exact key
theorem energyM {ρ : wd_Mem} {n S : Nat} {R : Int} {e l D C : Nat → Int} (hn : n ≤ 5) (hv : datV ρ n R e l D C) (hS : S < 32) : X8_energy ρ (zI S) = some (zI (smF (enF D C) n S)) := by
  have key := wd_forF (fun q i x => X8_energy_l4 (fun x2 => X8_energy_b46 ρ x2) ρ (zI S) q x (zI (i : Nat))) (fun x => some x) (fun i => zI (smF (enF D C) i S)) n (by omega) (fun i q hi => by
    show X8_energy_c4 _ _ ρ (zI S) (zI (smF (enF D C) i S)) (zI i) = _
    have e1 : zI (i : Int) + (1 : Int32) = zI ((i + 1 : Nat) : Int) := by rw [z_1, zI_add]; rfl
    unfold X8_energy_c4 X8_energy_b38
    rw [hv.1, if_neg (by rw [zI_le (zR_small (by omega) (by omega)) (zR_small (by omega) (by omega))]; omega), wd_chk_in (by omega) (by omega) (by omega), zI_clN (by omega), (hv.2.2 i hi).2.2.1, (hv.2.2 i hi).2.2.2, e1]
    simp only [hasM_0 ρ hS (show i < 5 by omega), smF, zI_mul, zI_add]
    by_cases hbit : S.testBit i = true
    · rw [if_neg (by rw [hbit]; decide), if_pos hbit]; rfl
    · rw [if_pos (by simpa using hbit), if_neg hbit, z_0, zI_add, Int.add_zero]) (fun q => by
    show X8_energy_c4 _ _ ρ (zI S) (zI (smF (enF D C) n S)) (zI n) = _
    unfold X8_energy_c4 X8_energy_b46
    rw [hv.1, if_pos (Int32.le_refl _)])
  unfold X8_energy X8_energy_b0
  rw [z_0]
  exact key
/-- a set that isn't empty: its least is one of its tasks' -/
theorem mnF_base {e : Nat → Int} {b b' : Int} {S : Nat} : ∀ k, (∀ j, j < k → e j ≤ b ∧ e j ≤ b') → (∃ j, j < k ∧ S.testBit j = true) → mnF e b k S = mnF e b' k S
  | 0, _, h => by obtain ⟨j, hj, -⟩ := h; omega
  | k + 1, hB, h => by
    have hk := hB k (by omega)
    by_cases ex : ∃ j, j < k ∧ S.testBit j = true
    · have ih := mnF_base (e := e) (b := b) (b' := b') (S := S) k (fun j hj => hB j (by omega)) ex
      simp only [mnF, ih]
    · obtain ⟨j, hj, hb⟩ := h
      have hjk : j = k := by
        rcases Nat.lt_or_ge j k with q | q
        · exact absurd ⟨j, q, hb⟩ ex
        · omega
      subst hjk
      have none1 : ∀ c : Int, mnF e c j S = c := fun c => by
        have := mnF_congr (e := e) (b := c) (S := S) (T := 0) j (fun i hi => by
          rw [Nat.zero_testBit]
          cases hS : S.testBit i with
          | false => rfl
          | true => exact absurd ⟨i, hi, hS⟩ ex)
        rw [this, mnF_none]
      simp only [mnF, hb, if_true, none1]
      omega
