/-! ===== desk ===== -/
theorem rText_T {μ : wd_Mem} (h : rText μ) : ∃ (T : Nat → Nat) (len : Nat), txX μ T len ∧ txM μ T len := by
  obtain ⟨len, h1, h2, h3, h4⟩ := h
  refine ⟨fun k => (μ 2 k).toInt.toNat, len, ⟨h1, h2, fun k hk => ?_⟩, ⟨h1, h3, fun k hk => ?_⟩⟩
  · obtain ⟨c, c1, c2, c3, c4⟩ := h4 k hk
    have : (μ 2 k).toInt = c := by rw [c3]; exact zI_toInt (by omega) (by omega)
    simp only [this]
    exact ⟨by rw [c3]; congr 1; omega, by omega⟩
  · obtain ⟨c, c1, c2, c3, c4⟩ := h4 k hk
    have : (μ 2 k).toInt = c := by rw [c3]; exact zI_toInt (by omega) (by omega)
    simp only [this]
    exact ⟨by rw [c4]; congr 1; omega, by omega⟩
theorem op_desk (μ : wd_Mem) (h : wd_rel μ) : ∃ (r : Int32) (μ1 μ2 : wd_Mem), X7_desk μ = some (r, μ1) ∧ X8_desk μ1 = some (r, μ2) ∧ wd_rel μ2 := by
  obtain ⟨hT, hS, hL, n, hK, hW, hH, hI⟩ := h
  obtain ⟨T, len, tX, tM⟩ := rText_T hT
  have hl := tX.1
  obtain ⟨ν0, hν0⟩ : ∃ q, q = mset (mset (mset μ 6 0 3) 6 1 0) 1 2 0 := ⟨_, rfl⟩
  have fν0 : frD μ ν0 := by
    rw [hν0]
    exact ⟨by rw [mset_j _ _ _ _ (by decide), mset_h _ _ _ _ (by decide), mset_h _ _ _ _ (by decide)], fun a h1 h2 h3 => by rw [mset_ne h1, mset_ne (by omega), mset_ne (by omega)]⟩
  have ok0 : okSt 0 3 (fun _ => 0) (fun _ => 0) (fun _ => 0) (fun _ => 0) := ⟨by omega, by omega, by omega, fun i hi => by omega⟩
  have to0 : toldX ν0 0 3 (fun _ => 0) (fun _ => 0) (fun _ => 0) (fun _ => 0) := by
    rw [hν0]
    exact ⟨by rw [mset_h _ _ _ _ (by decide), mset_eq]; rfl, by rw [mset_h _ _ _ _ (by decide), mset_j _ _ _ _ (by decide), mset_eq]; rfl, fun i hi => by omega⟩
  obtain ⟨τ, fD, hx⟩ := rdX (T := T) (len := len) (fun μ => X5_read_b97 6 52 μ) (len + 1) 0 0 0 3 wd_big _ _ _ _ ν0 (by omega) (by unfold wd_big; omega) (Nat.le_refl _) (Nat.zero_le _) (txX_D fν0 tX) (by rw [hν0, mset_eq]; rfl) to0 ok0 (fun _ => rfl)
  have fX := frD_trans fν0 fD
  have hrd : ∀ R : Int32, X5_read_l11 (fun μ => X5_read_b97 6 52 μ) 6 52 wd_big (zI ((0 : Nat) : Int)) ν0 = some (R, τ) → X5_read 6 52 μ = some (R, τ) := fun R hR => by
    unfold X5_read X5_read_b0 X4_forget X4_forget_b0
    simp only [Option.bind_some]
    rw [← hν0]
    exact hR
  have mside : ∀ (μ1 : wd_Mem), μ1 31 = μ 31 → μ1 38 = μ 38 → ∃ σ : wd_Mem, frR μ1 σ ∧ ((∃ x : Nat, rdF T len (len + 1) 0 (0, 3, fun _ => 0, fun _ => 0, fun _ => 0, fun _ => 0) 0 = (none, x) ∧ X8_desk μ1 = some (zI (-10 - (x : Int)), σ)) ∨ ∃ (k' m' r' x : Nat) (e' l' d' c' : Nat → Nat), rdF T len (len + 1) 0 (0, 3, fun _ => 0, fun _ => 0, fun _ => 0, fun _ => 0) 0 = (some (k', m', r', e', l', d', c'), x) ∧ X8_desk μ1 = X8_desk_b66 σ (zI (k' : Nat)) ∧ toldM σ m' r' e' l' d' c') := by
    intro μ1 g31 g38
    have t1 : txM μ1 T len := by
      unfold txM
      rw [g31, g38]
      exact tM
    obtain ⟨u0, hu0⟩ : ∃ q, q = mset (mset (mset μ1 31 12 0) 31 17 0) 31 18 3 := ⟨_, rfl⟩
    have fu0 : frR μ1 u0 := by
      rw [hu0]
      exact frR_trans (frR_31 (by omega)) (frR_trans (frR_31 (by omega)) (frR_31 (by omega)))
    obtain ⟨u1, b1, b2, b3⟩ := blanksM (T := T) (len := len) (ν := u0) (p := 0) (Nat.zero_le _) (txM_R fu0 t1) (by rw [hu0, mset_j _ _ _ _ (by decide), mset_j _ _ _ _ (by decide), mset_eq]; rfl)
    have to1 : toldM u1 0 3 (fun _ => 0) (fun _ => 0) (fun _ => 0) (fun _ => 0) := by
      refine toldM_N b3 ?_
      rw [hu0]
      exact ⟨by rw [mset_j _ _ _ _ (by decide), mset_eq]; rfl, by rw [mset_eq]; rfl, fun i hi => by omega⟩
    have fu1 := frR_trans fu0 (frR_N b3)
    obtain ⟨σ, s1, s2⟩ := rdM (T := T) (len := len) (fun x1 μ => X8_desk_b66 μ x1) (len + 1) 0 0 0 3 wd_big _ _ _ _ u1 (by omega) (by unfold wd_big; omega) (Nat.le_refl _) (Nat.zero_le _) (txM_R fu1 t1) b2 to1 ok0 (fun _ => rfl)
    have hdk : X8_desk μ1 = X8_desk_l21 (fun x1 μ => X8_desk_b66 μ x1) wd_big (zI ((0 : Nat) : Int)) u1 := by
      unfold X8_desk X8_desk_b0
      rw [← hu0, b1]
      rfl
    rw [hdk]
    exact ⟨σ, frR_trans fu1 s1, s2⟩
  rcases hx with ⟨x, e1, e2, e3⟩ | ⟨k', m', r', x, e', l', d', c', e1, e2, e3, e4, e5⟩
  · obtain ⟨σ, s1, s2⟩ := mside τ (fX.2 31 (by decide) (by omega) (by omega)) (fX.2 38 (by decide) (by omega) (by omega))
    rw [e1] at s2
    rcases s2 with ⟨x', f1, f2⟩ | ⟨k', m', r', x', e', l', d', c', f1, f2, f3⟩
    · cases f1
      refine ⟨zI (-10 - (x : Int)), τ, σ, ?_, f2, ?_⟩
      · unfold X7_desk X7_desk_b0
        rw [hrd _ e3]
        simp only [Option.bind_some]
        rw [z_0, zl_le (zR_small (by omega) (by omega)) (zR_small (by omega) (by omega)), if_neg (by omega)]
      · have g : ∀ a, a ≠ 1 → ¬ (6 ≤ a ∧ a ≤ 8) → ¬ (53 ≤ a ∧ a ≤ 55) → a ≠ 31 → a ≠ 39 → σ a = μ a := fun a h1 h2 h3 h4 h5 => by rw [s1.2 a h4 h5, fX.2 a h1 h2 h3]
        have g31 : ∀ j, ¬ (12 ≤ j ∧ j ≤ 18) → σ 31 j = μ 31 j := fun j hj => by rw [s1.1 j hj, fX.2 31 (by decide) (by omega) (by omega)]
        have g11 : σ 1 1 = μ 1 1 := by rw [s1.2 1 (by decide) (by decide), fX.1]
        refine ⟨?_, rSight_congr (g 14 (by decide) (by omega) (by omega) (by decide) (by decide)) (g 15 (by decide) (by omega) (by omega) (by decide) (by decide)) (g 16 (by decide) (by omega) (by omega) (by decide) (by decide)) (g 17 (by decide) (by omega) (by omega) (by decide) (by decide)) hS, rLoad_congr (g 26 (by decide) (by omega) (by omega) (by decide) (by decide)) hL, n, rTask_congr (g 3 (by decide) (by omega) (by omega) (by decide) (by decide)) (g 4 (by decide) (by omega) (by omega) (by decide) (by decide)) (g 5 (by decide) (by omega) (by omega) (by decide) (by decide)) (g 32 (by decide) (by omega) (by omega) (by decide) (by decide)) (g 33 (by decide) (by omega) (by omega) (by decide) (by decide)) (g31 0 (by omega)) (g31 1 (by omega)) hK, wdW_congr (g 49 (by decide) (by omega) (by omega) (by decide) (by decide)) (g 50 (by decide) (by omega) (by omega) (by decide) (by decide)) (g 51 (by decide) (by omega) (by omega) (by decide) (by decide)) (g 34 (by decide) (by omega) (by omega) (by decide) (by decide)) hW, rHist_congr (g 27 (by decide) (by omega) (by omega) (by decide) (by decide)) (g31 5 (by omega)) (g31 6 (by omega)) (fun a _ _ => g a (by omega) (by omega) (by omega) (by omega) (by omega)) (g 35 (by decide) (by omega) (by omega) (by decide) (by decide)) hH, rImg_congr (g 30 (by decide) (by omega) (by omega) (by decide) (by decide)) (g 36 (by decide) (by omega) (by omega) (by decide) (by decide)) (g 37 (by decide) (by omega) (by omega) (by decide) (by decide)) (fun a _ _ => g a (by omega) (by omega) (by omega) (by omega) (by omega)) hI⟩
        unfold rText
        rw [g11, g31 10 (by omega), g 2 (by decide) (by omega) (by omega) (by decide) (by decide), g 38 (by decide) (by omega) (by omega) (by decide) (by decide)]
        exact hT
    · cases f1
  · obtain ⟨w1, a1, a2, a3, a4, a5⟩ := takeT (ν := τ)
    obtain ⟨w2, b1, b2, b3⟩ := take_eq (μ := w1) (h0 := 48) (h1 := 52) (isW_of (by omega) (by omega) (by omega)) (isW_of (by omega) (by omega) (by omega)) (by omega)
    obtain ⟨w3, hw3⟩ : ∃ q, q = mset (mset w2 1 1 0) 27 2 0 := ⟨_, rfl⟩
    obtain ⟨μ1, c1, c2, c3⟩ := keptX (ν := w3) (x1 := zI (k' : Nat))
    have gW : ∀ a, a ≠ 1 → a ≠ 27 → a ≠ 30 → ¬ (3 ≤ a ∧ a ≤ 8) → ¬ (49 ≤ a ∧ a ≤ 51) → ¬ (53 ≤ a ∧ a ≤ 55) → μ1 a = μ a := fun a h1 h2 h3 h4 h5 h6 => by
      rw [c3 a h3, hw3, mset_ne h2, mset_ne h1, b3 a (by omega) (by omega) (by omega), a5 a (by omega) (by omega) (by omega), fX.2 a h1 (by omega) h6]
    obtain ⟨σ, s1, s2⟩ := mside μ1 (gW 31 (by decide) (by decide) (by decide) (by omega) (by omega) (by omega)) (gW 38 (by decide) (by decide) (by decide) (by omega) (by omega) (by omega))
    rw [e1] at s2
    rcases s2 with ⟨x', f1, f2⟩ | ⟨k2, m2, r2, x2, e2', l2, d2, c2', f1, f2, f3⟩
    · cases f1
    · cases f1
      obtain ⟨o1, o2, o3, o4⟩ := e5
      obtain ⟨ρ, y1, y2, y3, y4, y5, y6, y7, y8, y9, y10⟩ := endD (x1 := zI (k' : Nat)) o1 f3
      refine ⟨zI (k' : Nat), μ1, ρ, ?_, by rw [f2, y1], ?_⟩
      · unfold X7_desk X7_desk_b0
        rw [hrd _ e3]
        simp only [Option.bind_some]
        rw [if_pos (by rw [z_0, zI_le (zR_small (by omega) (by omega)) (zR_small (by omega) (by omega))]; omega), a1]
        simp only [Option.bind_some]
        rw [b1]
        simp only [Option.bind_some]
        rw [← hw3]
        exact c1
      · have g : ∀ a, a ≠ 31 → a ≠ 32 → a ≠ 33 → a ≠ 34 → a ≠ 36 → a ≠ 39 → ρ a = μ1 a := fun a h1 h2 h3 h4 h5 h6 => by rw [y10 a h1 h2 h3 h4 h5, s1.2 a h1 h6]
        have q3 : ∀ a, a ≠ 1 → a ≠ 27 → a ≠ 30 → μ1 a = w2 a := fun a h1 h2 h3 => by rw [c3 a h3, hw3, mset_ne h2, mset_ne h1]
        have r3 : ρ 3 = τ 3 ∨ True := Or.inr trivial
        have h30 : ρ 3 0 = zI (r' : Nat) := by rw [g 3 (by decide) (by decide) (by decide) (by decide) (by decide) (by decide), q3 3 (by decide) (by decide) (by decide), b3 3 (by omega) (by omega) (by omega), a2, e4.2.1]
        have h31 : ρ 3 1 = zI (m' : Nat) := by rw [g 3 (by decide) (by decide) (by decide) (by decide) (by decide) (by decide), q3 3 (by decide) (by decide) (by decide), b3 3 (by omega) (by omega) (by omega), a3, e4.1]
        have h4 : ∀ i, i < m' → ρ 4 i = zI (d' i : Nat) ∧ ρ 5 i = zI (c' i : Nat) := fun i hi => by
          rw [g 4 (by decide) (by decide) (by decide) (by decide) (by decide) (by decide), g 5 (by decide) (by decide) (by decide) (by decide) (by decide) (by decide), q3 4 (by decide) (by decide) (by decide), q3 5 (by decide) (by decide) (by decide), b3 4 (by omega) (by omega) (by omega), b3 5 (by omega) (by omega) (by omega), (a4 i (by omega)).1, (a4 i (by omega)).2]
          obtain ⟨-, -, -, -, -, -, z7, z8⟩ := e4.2.2 i hi
          exact ⟨z7, z8⟩
        have hw : ∀ b, b < 10 → ρ 49 b = τ 53 b ∧ ρ 50 b = τ 54 b ∧ ρ 51 b = τ 55 b := fun b hb => by
          rw [g 49 (by decide) (by decide) (by decide) (by decide) (by decide) (by decide), g 50 (by decide) (by decide) (by decide) (by decide) (by decide) (by decide), g 51 (by decide) (by decide) (by decide) (by decide) (by decide) (by decide), q3 49 (by decide) (by decide) (by decide), q3 50 (by decide) (by decide) (by decide), q3 51 (by decide) (by decide) (by decide)]
          have hb2 := b2 b hb
          rw [a5 _ (by decide) (by decide) (by decide), a5 _ (by decide) (by decide) (by decide), a5 _ (by decide) (by decide) (by decide)] at hb2
          exact hb2
        have gA : ∀ a, a ≠ 1 → a ≠ 27 → a ≠ 30 → ¬ (3 ≤ a ∧ a ≤ 8) → ¬ (49 ≤ a ∧ a ≤ 51) → ¬ (53 ≤ a ∧ a ≤ 55) → ¬ (31 ≤ a ∧ a ≤ 34) → a ≠ 36 → a ≠ 39 → ρ a = μ a := fun a h1 h2 h3 h4 h5 h6 h7 h8 h9 => by rw [g a (by omega) (by omega) (by omega) (by omega) h8 h9, gW a h1 h2 h3 h4 h5 h6]
        obtain ⟨u, p, u1, u2, u3, u4, u5, u6, u7⟩ := hH
        refine ⟨⟨0, by omega, ?_, y4, fun i hi => by omega⟩, rSight_congr (gA 14 (by decide) (by decide) (by decide) (by omega) (by omega) (by omega) (by omega) (by decide) (by decide)) (gA 15 (by decide) (by decide) (by decide) (by omega) (by omega) (by omega) (by omega) (by decide) (by decide)) (gA 16 (by decide) (by decide) (by decide) (by omega) (by omega) (by omega) (by omega) (by decide) (by decide)) (gA 17 (by decide) (by decide) (by decide) (by omega) (by omega) (by omega) (by omega) (by decide) (by decide)) hS, rLoad_congr (gA 26 (by decide) (by decide) (by decide) (by omega) (by omega) (by omega) (by omega) (by decide) (by decide)) hL, m', ⟨o1, h31, y5, (r' : Int), by omega, by omega, h30, y6, fun i hi => ?_⟩, fun i hi => ?_, ⟨0, p, by omega, u2, ?_, y7, ?_, ?_, fun k hk => by omega⟩, fun b hb => Or.inl ⟨?_, y8 b hb⟩⟩
        · rw [g 1 (by decide) (by decide) (by decide) (by decide) (by decide) (by decide), c3 1 (by decide), hw3, mset_h _ _ _ _ (by decide), mset_eq]
          rfl
        · obtain ⟨v1, v2, v3, v4, v5, v6, v7⟩ := o4 i hi
          obtain ⟨z1, z2, z3, z4⟩ := y2 i hi
          exact ⟨(d' i : Int), (c' i : Int), by omega, by omega, by omega, by omega, by omega, (h4 i hi).1, z3, (h4 i hi).2, z4⟩
        · obtain ⟨v1, v2, v3, v4, v5, v6, v7⟩ := o4 i hi
          obtain ⟨z1, z2, z3, z4⟩ := y2 i hi
          obtain ⟨t1, t2, t3, t4, t5, t6, t7, t8⟩ := e4.2.2 i hi
          simp only [Nat.reduceAdd, Nat.zero_add]
          refine ⟨⟨(e' i : Int), (l' i : Int), by omega, by omega, by omega, by omega, ?_, z1, ?_, z2⟩, ?_, ?_, ?_, ?_⟩
          · rw [(hw i (by omega)).1, t1]
          · rw [(hw (5 + i) (by omega)).1, t2]
          · rw [(hw i (by omega)).2.1, t3, y3 _ (by omega) (by omega)]
          · rw [(hw (5 + i) (by omega)).2.1, t4, y3 _ (by omega) (by omega)]
          · rw [(hw i (by omega)).2.2, t5, y3 _ (by omega) (by omega)]
          · rw [(hw (5 + i) (by omega)).2.2, t6, y3 _ (by omega) (by omega)]
        · rw [g 27 (by decide) (by decide) (by decide) (by decide) (by decide) (by decide), c3 27 (by decide), hw3, mset_eq]
          rfl
        · rw [g 27 (by decide) (by decide) (by decide) (by decide) (by decide) (by decide), c3 27 (by decide), hw3, mset_j _ _ _ _ (by decide), mset_ne (by decide), b3 27 (by omega) (by omega) (by omega), a5 27 (by decide) (by decide) (by decide), fX.2 27 (by decide) (by omega) (by omega), u5]
        · rw [y9 6 (by decide) (by decide) (by decide) (by decide), s1.1 6 (by omega), gW 31 (by decide) (by decide) (by decide) (by omega) (by omega) (by omega), u6]
        · rw [g 30 (by decide) (by decide) (by decide) (by decide) (by decide) (by decide), c2 b hb]
