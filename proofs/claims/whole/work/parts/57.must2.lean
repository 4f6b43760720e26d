/-- the reference's view: windows one way, with its own rows -/
def datV (ρ : wd_Mem) (n : Nat) (R : Int) (e l D C : Nat → Int) : Prop := ρ 31 0 = zI n ∧ ρ 31 1 = zI R ∧ ∀ i, i < n → ρ 40 i = zI (e i) ∧ ρ 41 i = zI (l i) ∧ ρ 32 i = zI (D i) ∧ ρ 33 i = zI (C i)
theorem startM {ρ : wd_Mem} {n i : Nat} {R : Int} {e l D C : Nat → Int} (hn : n ≤ 5) (hv : datV ρ n R e l D C) (hi : i < n) : X8_start ρ (zI i) = some (zI (l i - D i)) := by
  obtain ⟨c1, c2, c3, c4⟩ := hv.2.2 i hi
  unfold X8_start X8_start_b0
  rw [wd_chk_in (by omega) (by omega) (by omega), zI_clN (by omega), c2, c3, zI_sub]
theorem doneM {ρ : wd_Mem} {n i : Nat} {R : Int} {e l D C : Nat → Int} (hn : n ≤ 5) (hv : datV ρ n R e l D C) (hi : i < n) : X8_done ρ (zI i) = some (zI (e i + D i)) := by
  obtain ⟨c1, c2, c3, c4⟩ := hv.2.2 i hi
  unfold X8_done X8_done_b0
  rw [wd_chk_in (by omega) (by omega) (by omega), zI_clN (by omega), c1, c3, zI_add]
theorem mustM {ρ : wd_Mem} {n : Nat} {R : Int} {e l D C : Nat → Int} {t : Int} (hn : n ≤ 5) (hB : ∀ i, i < n → -100 ≤ e i ∧ e i ≤ 100 ∧ -100 ≤ l i ∧ l i ≤ 100 ∧ 0 ≤ D i ∧ D i ≤ 9 ∧ 0 ≤ C i ∧ C i ≤ 9) (ht : -100 ≤ t ∧ t ≤ 100) (hv : datV ρ n R e l D C) : X8_must_l20 (fun x2 => X8_must_b65 ρ x2) ρ (zI t) wd_big 0 0 = some (zI (sumF (mustT e l D C t (-9)) n), ρ) := by
  have key := wd_forF (fun q i x => X8_must_l20 (fun x2 => X8_must_b65 ρ x2) ρ (zI t) q x (zI (i : Nat))) (fun x => some (x, ρ)) (fun i => zI (sumF (mustT e l D C t (-9)) i)) n (by omega) (fun i q hi => by
    show X8_must_c20 _ _ ρ (zI t) (zI (sumF (mustT e l D C t (-9)) i)) (zI i) = _
    obtain ⟨y1, y2, y3, y4, y5, y6, y7, y8⟩ := hB i hi
    have e1 : zI (i : Int) + (1 : Int32) = zI ((i + 1 : Nat) : Int) := by rw [z_1, zI_add]; rfl
    unfold X8_must_c20 X8_must_b56 X8_must_b57
    rw [hv.1, if_neg (by rw [zI_le (zR_small (by omega) (by omega)) (zR_small (by omega) (by omega))]; omega), startM hn hv hi, doneM hn hv hi, wd_chk_in (by omega) (by omega) (by omega), zI_clN (by omega), (hv.2.2 i hi).2.2.2, e1]
    simp only [Option.bind_some, zI_lt (zR_small (show (-1000000 : Int) ≤ t by omega) (by omega)) (zR_small (show (-1000000 : Int) ≤ l i - D i by omega) (by omega)), zI_le (zR_small (show (-1000000 : Int) ≤ e i + D i by omega) (by omega)) (zR_small (show (-1000000 : Int) ≤ t by omega) (by omega)), zI_add]
    have e2 : sumF (mustT e l D C t (-9)) (i + 1) = sumF (mustT e l D C t (-9)) i + mustT e l D C t (-9) i := rfl
    rw [e2]
    unfold mustT
    by_cases h2 : t < l i - D i
    · rw [if_pos h2, if_pos (Or.inr (Or.inl h2)), z_0, zI_add]
    · by_cases h3 : e i + D i ≤ t
      · rw [if_neg h2, if_pos h3, if_pos (Or.inr (Or.inr h3)), z_0, zI_add]
      · rw [if_neg h2, if_neg h3, if_neg (by omega)]) (fun q => by
    show X8_must_c20 _ _ ρ (zI t) (zI (sumF (mustT e l D C t (-9)) n)) (zI n) = _
    unfold X8_must_c20 X8_must_b65
    rw [hv.1, if_pos (Int32.le_refl _)])
  rw [z_0]
  exact key
theorem op_must (μ : wd_Mem) (x : Int32) (h : wd_rel μ) : ∃ (r : Int32) (μ1 μ2 : wd_Mem), X7_must μ x = some (r, μ1) ∧ X8_must μ1 x = some (r, μ2) ∧ wd_rel μ2 := by
  have h' := h
  obtain ⟨hT, hS, hL, n, hK, hW, hH, hI⟩ := h
  obtain ⟨R, E, L, D, C, hb, hx, hm⟩ := rel_dat hK hW
  obtain ⟨t, rfl, hz⟩ := zI_x x
  have r0 : zR 0 := zR_small (by omega) (by omega)
  have r15 : zR 15 := zR_small (by omega) (by omega)
  have r16 : zR 16 := zR_small (by omega) (by omega)
  have k1 : (zI t < 0) ↔ t < 0 := by rw [z_0, zI_lt hz r0]
  have k2 : (zI t < 16) ↔ t < 16 := by rw [z_16, zI_lt hz r16]
  have k3 : ∀ ν : wd_Mem, (X8_in ν (zI t) 0 15 = 0) ↔ (t < 0 ∨ 15 < t) := fun ν => by rw [X8_in_0, z_0, z_15, zI_lt hz r0, zI_lt r15 hz]
  by_cases q : 0 ≤ t ∧ t < 16
  · have hB : ∀ i, i < n → -100 ≤ E i ∧ E i ≤ 100 ∧ -100 ≤ L i ∧ L i ≤ 100 ∧ 0 ≤ D i ∧ D i ≤ 9 ∧ 0 ≤ C i ∧ C i ≤ 9 := fun i hi => by
      have := hb.2.2.2 i hi
      omega
    obtain ⟨ν, t1, t2, t3⟩ := lookX (s := 0) hb hx hS (by omega)
    have t2' : sgt ν n E L D C := t2
    obtain ⟨ρ, s1, s2, s3⟩ := asIsM (μ := ν) hb (datM_congr (t3 31 (by omega)) (t3 34 (by omega)) (t3 32 (by omega)) (t3 33 (by omega)) hm)
    have hs := surelyX (b := -9) (t := t) hb.1 hB (by omega) (by omega) (by rw [t3 3 (by omega)]; exact hx.1) (fun i hi => by rw [t3 5 (by omega)]; exact (hx.2.2 i hi).2.2.2) t2'
    have hv : datV ρ n R E L D C := by
      refine ⟨by rw [s3 31 (by decide) (by decide), t3 31 (by omega)]; exact hm.1, by rw [s3 31 (by decide) (by decide), t3 31 (by omega)]; exact hm.2.1, fun i hi => ⟨(s2 i hi).1, (s2 i hi).2, ?_, ?_⟩⟩
      · rw [s3 32 (by decide) (by decide), t3 32 (by omega)]; exact (hm.2.2 i hi).2.2.1
      · rw [s3 33 (by decide) (by decide), t3 33 (by omega)]; exact (hm.2.2 i hi).2.2.2
    refine ⟨zI (sumF (mustT E L D C t (-9)) n), ν, ρ, ?_, ?_, ?_⟩
    · unfold X7_must X7_must_b0
      rw [if_neg (by rw [k1]; omega), if_pos (by rw [k2]; omega), show X3_look 48 μ 0 = some ν from by rw [z_0]; exact t1]
      simp only [Option.bind_some]
      rw [z_m9, hs]
      rfl
    · unfold X8_must X8_must_b0
      rw [if_neg (by rw [k3]; omega), s1]
      simp only [Option.bind_some]
      exact mustM hb.1 hB (by omega) hv
    · refine rel_scratch h' (fun a p1 p2 => by rw [s3 a (by omega) (by omega), t3 a (by omega)]) ?_ ?_
      · exact rSight_congr (s3 14 (by decide) (by decide)) (s3 15 (by decide) (by decide)) (s3 16 (by decide) (by decide)) (s3 17 (by decide) (by decide)) (sgt_sight t2')
      · exact rLoad_congr (by rw [s3 26 (by decide) (by decide), t3 26 (by omega)]) hL
  · refine ⟨-1, μ, μ, ?_, ?_, h'⟩
    · unfold X7_must X7_must_b0 X7_must_b10
      by_cases q1 : t < 0
      · rw [if_pos (k1.mpr q1)]
      · rw [if_neg (by rw [k1]; exact q1), if_neg (by rw [k2]; omega)]
    · unfold X8_must X8_must_b0
      rw [if_pos (by rw [k3]; omega)]
