/-! ===== tightens ===== -/
def outG (n : Nat) (g g' : Nat → Int32) : Prop := ∀ k, k < 10 → ((n ≤ k ∧ k < 5) ∨ 5 + n ≤ k) → g' k = g k
section
variable {n : Nat} {R : Int} {D C : Nat → Int}
theorem out_sd {r s : Nat} {g : Nat → Int32} (hn : n ≤ 5) (hs : s < 2) : outG n g (sdG n R D C r s g) := by
  intro k hk hk2
  unfold sdG psF
  rw [up3_lo hk]
  unfold upA
  rw [if_neg (by omega)]
theorem out_trans {a b c : Nat → Int32} (h1 : outG n a b) (h2 : outG n b c) : outG n a c := fun k hk q => by rw [h2 k hk q, h1 k hk q]
theorem out_ru {r : Nat} {g : Nat → Int32} (hn : n ≤ 5) : outG n g (ruG n R D C r g) := by
  unfold ruG
  split
  · exact out_sd hn (by omega)
  · exact out_trans (out_sd hn (by omega)) (out_sd hn (by omega))
theorem out_sq {g : Nat → Int32} (hn : n ≤ 5) : ∀ t, outG n g (sqG n R D C g t)
  | 0 => fun _ _ _ => rfl
  | t + 1 => by
    show outG n g (stG n R D C (t % 4) (sqG n R D C g t))
    unfold stG
    split
    · exact out_sq hn t
    · exact out_trans (out_sq hn t) (out_ru hn)
def dfG (g g' : Nat → Int32) (k : Nat) : Int := if g' k = g k then 0 else 1
theorem df_bd {g g' : Nat → Int32} (k : Nat) : 0 ≤ dfG g g' k ∧ dfG g g' k ≤ 1 := by
  unfold dfG
  split <;> omega
theorem df_sum {g g' : Nat → Int32} (hn : n ≤ 5) (ho : outG n g g') : sumF (dfG g g') 10 = sumF (fun i => dfG g g' i + dfG g g' (5 + i)) n := by
  have z : ∀ k, k < 10 → ((n ≤ k ∧ k < 5) ∨ 5 + n ≤ k) → dfG g g' k = 0 := fun k hk q => by
    unfold dfG
    rw [if_pos (ho k hk q)]
  rcases (show n = 0 ∨ n = 1 ∨ n = 2 ∨ n = 3 ∨ n = 4 ∨ n = 5 by omega) with rfl | rfl | rfl | rfl | rfl | rfl
  · simp only [sumF, z 0 (by omega) (by omega), z 1 (by omega) (by omega), z 2 (by omega) (by omega), z 3 (by omega) (by omega), z 4 (by omega) (by omega), z 5 (by omega) (by omega), z 6 (by omega) (by omega), z 7 (by omega) (by omega), z 8 (by omega) (by omega), z 9 (by omega) (by omega)]
    rfl
  · simp only [sumF, Nat.reduceAdd, z 1 (by omega) (by omega), z 2 (by omega) (by omega), z 3 (by omega) (by omega), z 4 (by omega) (by omega), z 6 (by omega) (by omega), z 7 (by omega) (by omega), z 8 (by omega) (by omega), z 9 (by omega) (by omega)]
    omega
  · simp only [sumF, Nat.reduceAdd, z 2 (by omega) (by omega), z 3 (by omega) (by omega), z 4 (by omega) (by omega), z 7 (by omega) (by omega), z 8 (by omega) (by omega), z 9 (by omega) (by omega)]
    omega
  · simp only [sumF, Nat.reduceAdd, z 3 (by omega) (by omega), z 4 (by omega) (by omega), z 8 (by omega) (by omega), z 9 (by omega) (by omega)]
    omega
  · simp only [sumF, Nat.reduceAdd, z 4 (by omega) (by omega), z 9 (by omega) (by omega)]
    omega
  · simp only [sumF, Nat.reduceAdd]
    omega
theorem othersX {τ : wd_Mem} {h : Nat} {g g' : Nat → Int32} (hn : n ≤ 5) (hc : clG τ n g') (hh : ∀ k, k < 10 → ((k < n) ∨ (5 ≤ k ∧ k < 5 + n)) → τ (h + 1) k = g k) : X6_others 48 h τ (zI (n : Nat)) = some (zI (sumF (fun i => dfG g g' i + dfG g g' (5 + i)) n)) := by
  have key := wd_forF (fun q i x => X6_others_l5 (fun x3 => X6_others_b67 48 h τ x3) 48 h τ (zI (n : Nat)) q x (zI (i : Nat))) (fun x => some x) (fun i => zI (sumF (fun i => dfG g g' i + dfG g g' (5 + i)) i)) n (by omega) (fun i q hi => by
    show X6_others_c5 _ _ 48 h τ (zI (n : Nat)) (zI (sumF _ i)) (zI i) = _
    have c1 := (hc i hi 0 (by omega)).1
    have c2 := (hc i hi 1 (by omega)).1
    simp only [Nat.mul_zero, Nat.zero_add, Nat.mul_one] at c1 c2
    have d1 := hh i (by omega) (by omega)
    have d2 := hh (5 + i) (by omega) (by omega)
    have z0 : (0 : Int32) = zI ((0 : Nat) : Int) := z_0
    have z1 : (1 : Int32) = zI ((1 : Nat) : Int) := z_1
    have a0 := edge_eq (μ := τ) (h := 48) (i := i) (s := 0) (by omega) (by omega)
    have a1 := edge_eq (μ := τ) (h := 48) (i := i) (s := 1) (by omega) (by omega)
    have b0 := edge_eq (μ := τ) (h := h) (i := i) (s := 0) (by omega) (by omega)
    have b1 := edge_eq (μ := τ) (h := h) (i := i) (s := 1) (by omega) (by omega)
    simp only [Nat.mul_zero, Nat.zero_add, Nat.mul_one, Nat.reduceAdd, c1, c2, d1, d2] at a0 a1 b0 b1
    have e1 : zI (i : Int) + (1 : Int32) = zI ((i + 1 : Nat) : Int) := by rw [z_1, zI_add]; rfl
    unfold X6_others_c5
    rw [if_neg (by rw [zI_le (zR_small (by omega) (by omega)) (zR_small (by omega) (by omega))]; omega), show X6_edge 48 τ (zI i) 0 = some (g' i) from a0, show X6_edge h τ (zI i) 0 = some (g i) from b0]
    simp only [Option.bind_some]
    have fin : ∀ (u v : Int), dfG g g' i = u → dfG g g' (5 + i) = v → X6_others_l5 (fun x3 => X6_others_b67 48 h τ x3) 48 h τ (zI (n : Nat)) q (zI (sumF (fun i => dfG g g' i + dfG g g' (5 + i)) i) + zI u + zI v) (zI i + 1) = X6_others_l5 (fun x3 => X6_others_b67 48 h τ x3) 48 h τ (zI (n : Nat)) q (zI (sumF (fun i => dfG g g' i + dfG g g' (5 + i)) (i + 1))) (zI ((i + 1 : Nat) : Int)) := by
      intro u v hu hv
      rw [e1, zI_add, zI_add]
      simp only [sumF]
      rw [hu, hv, Int.add_assoc]
    unfold X6_others_b34 X6_others_b59
    rw [show X6_edge 48 τ (zI i) 1 = some (g' (5 + i)) from a1, show X6_edge h τ (zI i) 1 = some (g (5 + i)) from b1]
    simp only [Option.bind_some]
    by_cases k1 : g' i = g i
    · rw [if_pos k1]
      by_cases k2 : g' (5 + i) = g (5 + i)
      · rw [if_pos k2]
        exact fin 0 0 (by unfold dfG; rw [if_pos k1]) (by unfold dfG; rw [if_pos k2])
      · rw [if_neg k2]
        exact fin 0 1 (by unfold dfG; rw [if_pos k1]) (by unfold dfG; rw [if_neg k2])
    · rw [if_neg k1]
      by_cases k2 : g' (5 + i) = g (5 + i)
      · rw [if_pos k2]
        exact fin 1 0 (by unfold dfG; rw [if_neg k1]) (by unfold dfG; rw [if_pos k2])
      · rw [if_neg k2]
        exact fin 1 1 (by unfold dfG; rw [if_neg k1]) (by unfold dfG; rw [if_neg k2])) (fun q => by
    show X6_others_c5 _ _ 48 h τ (zI (n : Nat)) (zI (sumF _ n)) (zI n) = _
    unfold X6_others_c5 X6_others_b67
    rw [if_pos (Int32.le_refl _)])
  unfold X6_others X6_others_b0
  rw [z_0]
  exact key
theorem unlikeM {τ : wd_Mem} {g : Nat → Int32} (hh : ∀ k, k < 30 → τ 44 k = g k) : X8_unlike τ = some (zI (sumF (dfG g (τ 34)) 10)) := by
  have key := wd_forF (fun q i x => X8_unlike_l4 (fun x1 => X8_unlike_b39 τ x1) τ q x (zI (i : Nat))) (fun x => some x) (fun i => zI (sumF (dfG g (τ 34)) i)) 10 (by omega) (fun i q hi => by
    show X8_unlike_c4 _ _ τ (zI (sumF _ i)) (zI i) = _
    have e1 : zI (i : Int) + (1 : Int32) = zI ((i + 1 : Nat) : Int) := by rw [z_1, zI_add]; rfl
    unfold X8_unlike_c4 X8_unlike_b31
    rw [if_neg (by rw [z_10, zI_le (zR_small (by omega) (by omega)) (zR_small (by omega) (by omega))]; omega), wd_chk_in (by omega) (by omega) (by omega), zI_clN (by omega), hh i (by omega), e1]
    have e2 : sumF (dfG g (τ 34)) (i + 1) = sumF (dfG g (τ 34)) i + dfG g (τ 34) i := rfl
    rw [e2]
    by_cases k1 : τ 34 i = g i
    · rw [if_pos k1, show dfG g (τ 34) i = 0 from by unfold dfG; rw [if_pos k1], z_0, zI_add]
    · rw [if_neg k1, show dfG g (τ 34) i = 1 from by unfold dfG; rw [if_neg k1], z_1, zI_add]) (fun q => by
    show X8_unlike_c4 _ _ τ (zI (sumF _ 10)) (zI 10) = _
    unfold X8_unlike_c4 X8_unlike_b39
    rw [if_pos (by rw [z_10]; exact Int32.le_refl _)])
  unfold X8_unlike X8_unlike_b0
  rw [z_0]
  exact key
/-- what a call of tightens makes of the row -/
def tgG (n : Nat) (R : Int) (D C : Nat → Int) (r : Nat) (g : Nat → Int32) : Nat → Int32 := if r = 4 then enG n R D C g else ruG n R D C r g
theorem tg_ok {r : Nat} {g : Nat → Int32} (ho : okG n R D C g) (hb : brG n D g = false) : okG n R D C (tgG n R D C r g) ∧ outG n g (tgG n R D C r g) := by
  unfold tgG
  split
  · exact ⟨sq_ok ho 644, out_sq ho.1 644⟩
  · exact ⟨(ru_ok ho hb).1, out_ru ho.1⟩
theorem tgX {ν : wd_Mem} {r : Nat} {g : Nat → Int32} (ho : okG n R D C g) (hb : brG n D g = false) (ht : tkX ν n R D C) (hc : clG ν n g) (hS : rSight ν) (hr : r ≤ 4) : ∃ τ : wd_Mem, (if zI (r : Nat) = (4 : Int32) then (X1_tightenByAll 48 ν).bind (fun r10 => X7_tightens_b71 r10) else (X1_tighten 48 ν (zI (r : Nat))).bind (fun r7 => X7_tightens_b71 r7.2)) = X7_tightens_b71 τ ∧ clG τ n (tgG n R D C r g) ∧ rSight τ ∧ frX ν τ := by
  unfold tgG
  have z4 : (4 : Int32) = zI 4 := zI_lit 4
  by_cases h4 : r = 4
  · rw [if_pos (by rw [h4]; rfl), if_pos h4]
    obtain ⟨τ, a1, a2⟩ := allX ho ht hc hS
    exact ⟨τ, by rw [a1]; rfl, a2⟩
  · rw [if_neg (by rw [z4, zI_eq (zR_small (by omega) (by omega)) (zR_small (by omega) (by omega))]; omega), if_neg h4]
    obtain ⟨τ, a1, a2⟩ := ruleX (r := r) ho hb ht hc hS (by omega)
    exact ⟨τ, by rw [a1]; rfl, a2⟩
theorem tgM {ν : wd_Mem} {r : Nat} (ho : okG n R D C (ν 34)) (hb : brG n D (ν 34) = false) (ht : tdM ν n R D C) (hr : r ≤ 4) : ∃ τ : wd_Mem, X8_tightens_b51 ν (zI (r : Nat)) = X8_tightens_b117 τ ∧ τ 34 = tgG n R D C r (ν 34) ∧ frM ν τ := by
  unfold tgG X8_tightens_b51
  have z4 : (4 : Int32) = zI 4 := zI_lit 4
  by_cases h4 : r = 4
  · rw [if_pos (by rw [h4]; exact Int32.le_refl _), if_pos h4]
    obtain ⟨τ, a1, a2⟩ := loopM (fun μ => X8_tightens_b117 μ) ho 163 0 wd_big (-99) ν (by omega) (by unfold wd_big; omega) (Or.inl ⟨rfl, rfl⟩) rfl ht
    exact ⟨τ, a1, a2⟩
  · rw [if_neg (by rw [z4, zI_le (zR_small (by omega) (by omega)) (zR_small (by omega) (by omega))]; omega), if_neg h4]
    obtain ⟨τ, a1, a2⟩ := ruleM (r := r) ho hb ht (by omega)
    exact ⟨τ, by rw [a1]; rfl, a2⟩
end
theorem rel_G {μ : wd_Mem} {n : Nat} (hK : rTask μ n) (hW : wdW μ n 48 34 0) : ∃ (R : Int) (D C : Nat → Int), okG n R D C (μ 34) ∧ tkX μ n R D C ∧ tdM μ n R D C ∧ clG μ n (μ 34) := by
  obtain ⟨R, E, L, D, C, hb, hx, hm⟩ := rel_dat hK hW
  refine ⟨R, D, C, ⟨hb.1, hb.2.1, hb.2.2.1, fun i hi => ?_⟩, ⟨hx.1, hx.2.1, fun i hi => (hx.2.2 i hi).2.2⟩, ⟨hm.1, hm.2.1, fun i hi => (hm.2.2 i hi).2.2⟩, fun j hj t ht => ?_⟩
  · have y := hb.2.2.2 i hi
    obtain ⟨c1, c2, -⟩ := hm.2.2 i hi
    have e1 : eG (μ 34) i = E i := by unfold eG; rw [c1, zI_toInt (by omega) (by omega)]
    have e2 : lG (μ 34) i = L i := by unfold lG; rw [c2, zI_toInt (by omega) (by omega)]
    rw [e1, e2]
    exact y
  · obtain ⟨⟨e, -, -, e1, e2⟩, f1, f2⟩ := wdW_iff.mp hW j hj t ht
    simp only [Nat.zero_add, Nat.reduceAdd] at e1 e2 f1 f2
    exact ⟨by rw [e1, e2], f1, f2⟩
theorem wdW_G {σ : wd_Mem} {n : Nat} {R : Int} {D C : Nat → Int} (ho : okG n R D C (σ 34)) (hc : clG σ n (σ 34)) : wdW σ n 48 34 0 := by
  rw [wdW_iff]
  intro j hj t ht
  obtain ⟨c1, c2, c3⟩ := hc j hj t ht
  have y := ho.2.2.2 j hj
  simp only [Nat.zero_add, Nat.reduceAdd]
  refine ⟨⟨(σ 34 (5 * t + j)).toInt, ?_, ?_, by rw [c1]; exact (zI_of _).symm, (zI_of _).symm⟩, c2, c3⟩
  · rcases (show t = 0 ∨ t = 1 by omega) with rfl | rfl
    · rw [show 5 * 0 + j = j by omega]; exact y.1
    · exact y.2.2.1
  · rcases (show t = 0 ∨ t = 1 by omega) with rfl | rfl
    · rw [show 5 * 0 + j = j by omega]; exact y.2.1
    · exact y.2.2.2.1
theorem op_tightens (μ : wd_Mem) (x1 : Int32) (h : wd_rel μ) : ∃ (r : Int32) (μ1 μ2 : wd_Mem), X7_tightens μ x1 = some (r, μ1) ∧ X8_tightens μ1 x1 = some (r, μ2) ∧ wd_rel μ2 := by
  have h' := h
  obtain ⟨hT, hS, hL, n, hK, hW, ⟨u, p, w1, w2, w3, w4, w5, w6, w7⟩, hI⟩ := h
  obtain ⟨R, D, C, ho, htx, htm, hc⟩ := rel_G hK hW
  have hn := hK.1
  obtain ⟨z, rfl, hz⟩ := zI_x x1
  have r0 : zR 0 := zR_small (by omega) (by omega)
  have r4 : zR 4 := zR_small (by omega) (by omega)
  have z4 : (4 : Int32) = zI 4 := zI_lit 4
  by_cases q1 : 0 ≤ z ∧ z ≤ 4
  · obtain ⟨r, rfl⟩ := Int.eq_ofNat_of_zero_le q1.1
    have kx : X7_tightens μ (zI r) = (X6_isBroken 48 3 μ).bind (fun r3 => (if r3 = 0 then (X0_add 48 μ).bind (fun r5 => (if zI r = (4 : Int32) then (X1_tightenByAll 48 r5).bind (fun r10 => X7_tightens_b71 r10) else (X1_tighten 48 r5 (zI r)).bind (fun r7 => X7_tightens_b71 r7.2))) else some ((-2 : Int32), μ))) := by
      unfold X7_tightens X7_tightens_b0
      rw [if_neg (by rw [z_0, zI_lt hz r0]; omega), if_pos (by rw [z4, zI_le hz r4]; omega)]
    have km : ∀ ν : wd_Mem, X8_tightens ν (zI r) = (X8_isBroken ν).bind (fun r2 => (if r2 = 0 then (X8_remember ν).bind (fun r4 => X8_tightens_l27 (fun μ => X8_tightens_b51 μ (zI r)) (zI r) wd_big (0 : Int32) r4) else some ((-2 : Int32), ν))) := by
      intro ν
      unfold X8_tightens X8_tightens_b0
      rw [if_neg]
      rw [X8_in_0, z_0, z4, zI_lt hz r0, zI_lt r4 hz]
      omega
    cases hbr : brG n D (μ 34) with
    | true =>
      have e : brk n (eG (μ 34)) (lG (μ 34)) D = true := hbr
      refine ⟨-2, μ, μ, ?_, ?_, h'⟩
      · rw [kx, broX ho (datX_G htx hc), e]; rfl
      · rw [km, broM ho (datM_G htm), e]; rfl
    | false =>
      have e : brk n (eG (μ 34)) (lG (μ 34)) D = false := hbr
      have hq : (p + 1) % 10 < 10 := Nat.mod_lt _ (by omega)
      obtain ⟨ν, t1, t2, t3, t4, t5⟩ := addX w1 w2 w5 w3
      have fν : ∀ a, a ≠ 27 → a < 64 → ν a = μ a := fun a h1 h2 => t5 a h1 (by omega) (by omega) (by omega)
      have cν : clG ν n (μ 34) := fun j hj t ht => by
        rw [fν 49 (by decide) (by decide), fν 50 (by decide) (by decide), fν 51 (by decide) (by decide)]
        exact hc j hj t ht
      obtain ⟨τ, a1, a2, a3, a4⟩ := tgX (r := r) ho hbr (tkX_congr (fν 3 (by decide) (by decide)) (fν 4 (by decide) (by decide)) (fν 5 (by decide) (by decide)) htx) cν (rSight_congr (fν 14 (by decide) (by decide)) (fν 15 (by decide) (by decide)) (fν 16 (by decide) (by decide)) (fν 17 (by decide) (by decide)) hS) (by omega)
      obtain ⟨o2, ou⟩ := tg_ok (r := r) ho hbr
      have f : ∀ a, a ≠ 27 → a ≠ 49 → a ≠ 50 → a ≠ 51 → a < 64 → ¬ (10 ≤ a ∧ a ≤ 20) → τ a = μ a := fun a x y w k l v => by rw [a4 a v y w k, fν a x l]
      have f34 : τ 34 = μ 34 := f 34 (by decide) (by decide) (by decide) (by decide) (by decide) (by omega)
      have f31 : τ 31 = μ 31 := f 31 (by decide) (by decide) (by decide) (by decide) (by decide) (by omega)
      have tmτ : tdM τ n R D C := by
        unfold tdM
        rw [f31, f 32 (by decide) (by decide) (by decide) (by decide) (by decide) (by omega), f 33 (by decide) (by decide) (by decide) (by decide) (by decide) (by omega)]
        exact htm
      have τ27 : τ 27 = ν 27 := a4 27 (by omega) (by decide) (by decide) (by decide)
      have τR : ∀ a, 64 ≤ a → τ a = ν a := fun a ha => a4 a (by omega) (by omega) (by omega) (by omega)
      obtain ⟨ρ, s1, s2, s3, s4, s5, s6, s7⟩ := remM (s0 := τ) w1 w2 (by rw [f31]; exact w6) (by rw [f31]; exact w4)
      have key := cp_for (fun n i s => X8_tightens_l27 (fun μ => X8_tightens_b51 μ (zI r)) (zI r) n (zI (i : Nat)) s) (fun s => X8_tightens_b51 s (zI r)) 44 34 0 0 ρ (by decide) (fun i s n hi hf => by
        show X8_tightens_c27 _ _ s (zI r) (zI i) = _
        unfold X8_tightens_c27 cpM
        rw [if_neg (le30 hi), wd_chk_in (by omega) (by omega) (by omega), zI_clN (by omega), z_1, zI_add, Nat.zero_add]
        rfl) (fun s n _ => by
        show X8_tightens_c27 _ _ s (zI r) (zI 30) = _
        unfold X8_tightens_c27
        rw [if_pos (by rw [z_30]; exact Int32.le_refl _)])
      obtain ⟨ρ2, k1, k2, -, k4⟩ := key
      have g34 : ρ2 34 = μ 34 := by rw [k4 34 (by decide), s7 34 (by decide) (by decide), f34]
      have tmρ : tdM ρ2 n R D C := by
        unfold tdM
        rw [k4 31 (by decide), k4 32 (by decide), k4 33 (by decide), s6 0 (by decide) (by decide), s6 1 (by decide) (by decide), s7 32 (by decide) (by decide), s7 33 (by decide) (by decide)]
        exact tmτ
      obtain ⟨σ, m1, m2, m3⟩ := tgM (r := r) (by rw [g34]; exact ho) (by rw [g34]; exact hbr) tmρ (by omega)
      rw [g34] at m2
      have F : ∀ a, ¬ (10 ≤ a ∧ a ≤ 20) → a ≠ 27 → a ≠ 31 → a ≠ 34 → a ≠ 35 → ¬ (40 ≤ a ∧ a ≤ 44) → ¬ (49 ≤ a ∧ a ≤ 51) → a < 64 → σ a = μ a := fun a x1 x2 x3 x4 x5 x6 x7 x8 => by rw [m3 a x4 (by omega) (by omega) (by omega) (by omega), k4 a (by omega), s7 a x3 x5, f a x2 (by omega) (by omega) (by omega) x8 x1]
      have F31 : ∀ j, j ≠ 5 → j ≠ 6 → σ 31 j = μ 31 j := fun j x y => by rw [m3 31 (by decide) (by decide) (by decide) (by decide) (by decide), k4 31 (by decide), s6 j x y, f31]
      have Fτ : ∀ a, a ≠ 31 → a ≠ 34 → a ≠ 35 → ¬ (40 ≤ a ∧ a ≤ 44) → σ a = τ a := fun a x1 x2 x3 x4 => by rw [m3 a x2 (by omega) (by omega) (by omega) (by omega), k4 a (by omega), s7 a x1 x3]
      refine ⟨zI (sumF (fun i => dfG (μ 34) (tgG n R D C r (μ 34)) i + dfG (μ 34) (tgG n R D C r (μ 34)) (5 + i)) n), τ, σ, ?_, ?_, ?_⟩
      · rw [kx, broX ho (datX_G htx hc), e]
        simp only [Option.bind_some]
        rw [if_pos (by decide), t1]
        simp only [Option.bind_some]
        rw [a1]
        unfold X7_tightens_b71 X0_latest X0_latest_b0
        rw [τ27, t2, wd_chk_in (by omega) (by omega) (by omega), zI_clN (by omega), ring_at hq]
        simp only [Option.bind_some]
        rw [a4 3 (by omega) (by decide) (by decide) (by decide), fν 3 (by decide) (by decide), htx.1, othersX (g := μ 34) hn a2 (fun k hk hk2 => by
          rw [τR _ (by omega), (t4 k hk).1]
          rcases hk2 with hk2 | hk2
          · have := (hc k hk2 0 (by omega)).1
            simpa using this
          · have := (hc (k - 5) (by omega) 1 (by omega)).1
            rw [show 5 * 1 + (k - 5) = k by omega] at this
            exact this)]
        rfl
      · rw [km, broM (by rw [f34]; exact ho) (datM_G tmτ), f34, e]
        simp only [Option.bind_some]
        rw [if_pos (by decide), s1]
        simp only [Option.bind_some]
        have k1' : X8_tightens_l27 (fun μ => X8_tightens_b51 μ (zI r)) (zI r) wd_big 0 ρ = _ := k1
        rw [k1', m1]
        unfold X8_tightens_b117
        rw [unlikeM (g := μ 34) (fun k hk => by rw [m3 44 (by decide) (by decide) (by decide) (by decide) (by decide)]; have := k2 k hk; rw [Nat.zero_add, s7 34 (by decide) (by decide), f34] at this; exact this), m2, df_sum hn ou]
        rfl
      · have b27 : ∀ j, σ 27 j = ν 27 j := fun j => by rw [Fτ 27 (by decide) (by decide) (by decide) (by omega), τ27]
        have bR : ∀ a, 64 ≤ a → σ a = ν a := fun a ha => by rw [Fτ a (by omega) (by omega) (by omega) (by omega), τR a ha]
        have b5 : σ 35 = ρ 35 := by rw [m3 35 (by decide) (by decide) (by decide) (by decide) (by decide), k4 35 (by decide)]
        have b31 : σ 31 = ρ 31 := by rw [m3 31 (by decide) (by decide) (by decide) (by decide) (by decide), k4 31 (by decide)]
        refine ⟨rText_congr (F 1 (by omega) (by decide) (by decide) (by decide) (by decide) (by omega) (by omega) (by omega)) (F 2 (by omega) (by decide) (by decide) (by decide) (by decide) (by omega) (by omega) (by omega)) (F31 10 (by decide) (by decide)) (F 38 (by omega) (by decide) (by decide) (by decide) (by decide) (by omega) (by omega) (by omega)) hT, rSight_congr (Fτ 14 (by decide) (by decide) (by decide) (by omega)) (Fτ 15 (by decide) (by decide) (by decide) (by omega)) (Fτ 16 (by decide) (by decide) (by decide) (by omega)) (Fτ 17 (by decide) (by decide) (by decide) (by omega)) a3, rLoad_congr (F 26 (by omega) (by decide) (by decide) (by decide) (by decide) (by omega) (by omega) (by omega)) hL, n, rTask_congr (F 3 (by omega) (by decide) (by decide) (by decide) (by decide) (by omega) (by omega) (by omega)) (F 4 (by omega) (by decide) (by decide) (by decide) (by decide) (by omega) (by omega) (by omega)) (F 5 (by omega) (by decide) (by decide) (by decide) (by decide) (by omega) (by omega) (by omega)) (F 32 (by omega) (by decide) (by decide) (by decide) (by decide) (by omega) (by omega) (by omega)) (F 33 (by omega) (by decide) (by decide) (by decide) (by decide) (by omega) (by omega) (by omega)) (F31 0 (by decide) (by decide)) (F31 1 (by decide) (by decide)) hK, ?_, ?_, rImg_congr (F 30 (by omega) (by decide) (by decide) (by decide) (by decide) (by omega) (by omega) (by omega)) (F 36 (by omega) (by decide) (by decide) (by decide) (by decide) (by omega) (by omega) (by omega)) (F 37 (by omega) (by decide) (by decide) (by decide) (by decide) (by omega) (by omega) (by omega)) (fun a _ _ => F a (by omega) (by omega) (by omega) (by omega) (by omega) (by omega) (by omega) (by omega)) hI⟩
        · refine wdW_G (R := R) (D := D) (C := C) (by rw [m2]; exact o2) (fun j hj t ht => ?_)
          rw [Fτ 49 (by decide) (by decide) (by decide) (by omega), Fτ 50 (by decide) (by decide) (by decide) (by omega), Fτ 51 (by decide) (by decide) (by decide) (by omega), m2]
          exact a2 j hj t ht
        · refine hist_push (μ := μ) hn w1 w2 w7 hW (by rw [b27, t2]) (by rw [b27, t3]) (by rw [b31, s2]) (by rw [b31, s3]) (fun b hb => ?_) (fun a x1 x2 x3 x4 x5 => ?_) (fun k hk => ?_) (fun j hj => ?_)
          · rw [bR _ (by omega), bR _ (by omega), bR _ (by omega)]
            exact t4 b hb
          · rw [bR a x1, t5 a (by omega) x3 x4 x5]
          · rw [b5, s4 k hk, f34]
          · rw [b5, s5 j hj, f 35 (by decide) (by decide) (by decide) (by decide) (by decide) (by omega)]
  · refine ⟨-1, μ, μ, ?_, ?_, h'⟩
    · unfold X7_tightens X7_tightens_b0 X7_tightens_b9
      by_cases q2 : z < 0
      · rw [if_pos (by rw [z_0, zI_lt hz r0]; exact q2)]
      · rw [if_neg (by rw [z_0, zI_lt hz r0]; exact q2), if_neg (by rw [z4, zI_le hz r4]; omega)]
    · unfold X8_tightens X8_tightens_b0
      rw [if_pos]
      rw [X8_in_0, z_0, z4, zI_lt hz r0, zI_lt r4 hz]
      omega
