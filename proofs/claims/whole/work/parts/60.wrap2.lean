theorem hasSet_0 {μ : wd_Mem} {h n : Nat} (hn : n ≤ 5) (e : μ h 1 = zI n) {z : Int} (hz : zR z) : X4_hasSet h μ (zI z) = 0 ↔ ¬ (0 ≤ z ∧ z < (2 ^ n : Nat)) := by
  have p5 := pow5 hn
  unfold X4_hasSet X4_hasSet_b0 X4_hasSet_b18
  have r0 : zR 0 := zR_small (by omega) (by omega)
  have hpos : (0 : Int) ≤ ((2 ^ n : Nat) : Int) := Int.natCast_nonneg _
  have rn : zR ((2 ^ n : Nat) : Int) := zR_small (by omega) (by omega)
  rw [e, b_shl n (by omega), z_0]
  simp only [zI_lt hz r0, zI_le rn hz]
  by_cases h1 : z < 0
  · simp only [h1, if_true, true_iff]; omega
  · by_cases h2 : ((2 ^ n : Nat) : Int) ≤ z
    · simp only [h1, h2, if_false, if_true, true_iff]; omega
    · simp only [h1, h2, if_false]
      constructor
      · intro h; exact absurd h (by decide)
      · intro h; omega
theorem all_eq {μ : wd_Mem} {n : Nat} (hn : n ≤ 5) (e : μ 31 0 = zI n) : X8_all μ = zI (((2 ^ n : Nat) : Int) - 1) := by
  unfold X8_all X8_all_b0
  rw [e, b_shl n (by omega), z_1, zI_sub]
/-- both sights of the windows as they are: what the calls that only look need -/
theorem views {μ : wd_Mem} (h : wd_rel μ) : ∃ (n : Nat) (R : Int) (E L D C : Nat → Int) (ν ρ : wd_Mem), bnd n R E L D C ∧ datX μ n R E L D C ∧ datM μ n R E L D C ∧ X3_look 48 μ 0 = some ν ∧ sgt ν n E L D C ∧ (∀ a, ¬ (10 ≤ a ∧ a ≤ 17) → ν a = μ a) ∧ X8_asIs ν = some ρ ∧ datV ρ n R E L D C ∧ (∀ a, a ≠ 40 → a ≠ 41 → ρ a = ν a) ∧ wd_rel ρ := by
  have h' := h
  obtain ⟨hT, hS, hL, n, hK, hW, hH, hI⟩ := h
  obtain ⟨R, E, L, D, C, hb, hx, hm⟩ := rel_dat hK hW
  obtain ⟨ν, t1, t2, t3⟩ := lookX (s := 0) hb hx hS (by omega)
  obtain ⟨ρ, s1, s2, s3⟩ := asIsM (μ := ν) hb (datM_congr (t3 31 (by omega)) (t3 34 (by omega)) (t3 32 (by omega)) (t3 33 (by omega)) hm)
  refine ⟨n, R, E, L, D, C, ν, ρ, hb, hx, hm, by rw [z_0]; exact t1, t2, t3, s1, ⟨by rw [s3 31 (by decide) (by decide), t3 31 (by omega)]; exact hm.1, by rw [s3 31 (by decide) (by decide), t3 31 (by omega)]; exact hm.2.1, fun i hi => ⟨(s2 i hi).1, (s2 i hi).2, ?_, ?_⟩⟩, s3, ?_⟩
  · rw [s3 32 (by decide) (by decide), t3 32 (by omega)]; exact (hm.2.2 i hi).2.2.1
  · rw [s3 33 (by decide) (by decide), t3 33 (by omega)]; exact (hm.2.2 i hi).2.2.2
  · refine rel_scratch h' (fun a p1 p2 => by rw [s3 a (by omega) (by omega), t3 a (by omega)]) ?_ ?_
    · exact rSight_congr (s3 14 (by decide) (by decide)) (s3 15 (by decide) (by decide)) (s3 16 (by decide) (by decide)) (s3 17 (by decide) (by decide)) (sgt_sight t2)
    · exact rLoad_congr (by rw [s3 26 (by decide) (by decide), t3 26 (by omega)]) hL
theorem op_wrap (μ : wd_Mem) (x : Int32) (h : wd_rel μ) : ∃ (r : Int32) (μ1 μ2 : wd_Mem), X7_wrap μ x = some (r, μ1) ∧ X8_wrap μ1 x = some (r, μ2) ∧ wd_rel μ2 := by
  obtain ⟨n, R, E, L, D, C, ν, ρ, hb, hx, hm, t1, t2, t3, s1, hv, s3, hr⟩ := views h
  obtain ⟨z, rfl, hz⟩ := zI_x x
  have hn := hb.1
  have p5 := pow5 hn
  have r0 : zR 0 := zR_small (by omega) (by omega)
  have r1 : zR 1 := zR_small (by omega) (by omega)
  have hpos : (0 : Int) ≤ ((2 ^ n : Nat) : Int) := Int.natCast_nonneg _
  have ra : zR (((2 ^ n : Nat) : Int) - 1) := zR_small (by omega) (by omega)
  have k0 : (zI z = 0) ↔ z = 0 := by rw [z_0, zI_eq hz r0]
  have kM : ∀ w : wd_Mem, w 31 = μ 31 → ((X8_in w (zI z) 1 (X8_all w) = 0) ↔ (z < 1 ∨ ((2 ^ n : Nat) : Int) - 1 < z)) := fun w hw => by
    rw [all_eq hn (by rw [hw]; exact hm.1), X8_in_0, z_1, zI_lt hz r1, zI_lt ra hz]
  by_cases q : 0 < z ∧ z < (2 ^ n : Nat)
  · obtain ⟨S, rfl⟩ := Int.eq_ofNat_of_zero_le (show 0 ≤ z by omega)
    have hB : ∀ i, i < n → 0 ≤ E i ∧ E i ≤ 16 ∧ 0 ≤ D i ∧ D i ≤ 9 ∧ 0 ≤ C i ∧ C i ≤ 9 := fun i hi => by
      have := hb.2.2.2 i hi
      omega
    have hV : bdV n E L D C := fun i hi => by
      have := hb.2.2.2 i hi
      omega
    refine ⟨zI (wrF (wrG R E D C 1000 n) S 32 0 S), ν, ρ, ?_, ?_, hr⟩
    · unfold X7_wrap X7_wrap_b0
      rw [if_neg (by rw [k0]; omega), if_neg (by rw [hasSet_0 hn hx.1 hz]; omega), t1]
      simp only [Option.bind_some]
      rw [wrapX hn ⟨hb.2.1, hb.2.2.1⟩ hB (by rw [t3 3 (by omega)]; exact hx.2.1) t2 (by omega)]
      rfl
    · unfold X8_wrap X8_wrap_b0
      rw [if_neg (by rw [kM ν (t3 31 (by omega))]; omega), s1]
      simp only [Option.bind_some]
      rw [wrapM hn ⟨hb.2.1, hb.2.2.1⟩ hV hB hv (by omega), wrap_same hn ⟨hb.2.1, hb.2.2.1⟩ hB (by omega) (by omega)]
      rfl
  · refine ⟨-1, μ, μ, ?_, ?_, h⟩
    · unfold X7_wrap X7_wrap_b0 X7_wrap_b15
      by_cases q0 : z = 0
      · rw [if_pos (k0.mpr q0)]
      · rw [if_neg (by rw [k0]; exact q0), if_pos (by rw [hasSet_0 hn hx.1 hz]; omega)]
    · unfold X8_wrap X8_wrap_b0
      rw [if_pos (by rw [kM μ rfl]; omega)]
