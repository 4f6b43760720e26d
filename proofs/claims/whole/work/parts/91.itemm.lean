/-! ===== an item of the reference ===== -/
def otM (ν : wd_Mem) (L : Option (Int32 × wd_Mem)) (o : Option pSt × Nat) : Prop := ∃ τ : wd_Mem, frR ν τ ∧ ((∃ f : Nat, o = (none, f) ∧ L = some (0, τ) ∧ τ 31 16 = zI (f : Nat)) ∨ ∃ (m r : Nat) (e l d c : Nat → Nat) (p : Nat), o = (some (m, r, e, l, d, c), p) ∧ L = some (1, τ) ∧ toldM τ m r e l d c ∧ τ 31 12 = zI (p : Nat))
theorem frR_39 {ν : wd_Mem} {j : Nat} {x : Int32} : frR ν (mset ν 39 j x) := ⟨fun k _ => mset_h _ _ _ _ (by decide), fun a _ h2 => mset_ne h2⟩
theorem frR_31 {ν : wd_Mem} {j : Nat} {x : Int32} (h : 12 ≤ j ∧ j ≤ 18) : frR ν (mset ν 31 j x) := ⟨fun k hk => mset_j _ _ _ _ (by omega), fun a h1 _ => mset_ne h1⟩
theorem toldM_39 {ν : wd_Mem} {m r j : Nat} {e l d c : Nat → Nat} {x : Int32} (hj : 4 * m ≤ j) (h : toldM ν m r e l d c) : toldM (mset ν 39 j x) m r e l d c := by
  obtain ⟨h1, h2, h3⟩ := h
  refine ⟨by rw [mset_h _ _ _ _ (by decide)]; exact h1, by rw [mset_h _ _ _ _ (by decide)]; exact h2, fun i hi => ?_⟩
  rw [mset_j _ _ _ _ (by omega), mset_j _ _ _ _ (by omega), mset_j _ _ _ _ (by omega), mset_j _ _ _ _ (by omega)]
  exact h3 i hi
section
variable {T : Nat → Nat} {len : Nat}
theorem endSM {ν : wd_Mem} {p m r : Nat} {e l d c : Nat → Nat} (hp : p ≤ len) (ht : txM ν T len) (hpl : ν 31 12 = zI (p : Nat)) (ho : toldM ν m r e l d c) : otM ν ((X8_ends ν).bind (fun r16 => wd_chk (wd_bit r16.1) (some (r16.1, r16.2)))) (if tkK T len p = 59 then (some (m, r, e, l, d, c), tkN T len p) else (none, tkP T len p)) := by
  obtain ⟨τ, a1, a2, a3, a4⟩ := endM' hp ht hpl
  rw [a1]
  simp only [Option.bind_some]
  rw [wd_chk_t (bI_bit _)]
  refine ⟨τ, frR_N a4, ?_⟩
  by_cases q : tkK T len p = 59
  · rw [if_pos q, decide_eq_true q]
    exact Or.inr ⟨m, r, e, l, d, c, _, rfl, rfl, toldM_N a4 ho, a2⟩
  · rw [if_neg q, decide_eq_false q]
    exact Or.inl ⟨_, rfl, rfl, a3 q⟩
theorem otM_R {ν τ : wd_Mem} {L : Option (Int32 × wd_Mem)} {o : Option pSt × Nat} (f : frR ν τ) (h : otM τ L o) : otM ν L o := by
  obtain ⟨σ, h1, h2⟩ := h
  exact ⟨σ, frR_trans f h1, h2⟩
theorem taskM' {ν : wd_Mem} {p m r : Nat} {e l d c : Nat → Nat} (hp : p ≤ len) (ht : txM ν T len) (hpl : ν 31 12 = zI (p : Nat)) (hm : m < 5) (hr : 1 ≤ r ∧ r ≤ 20) (ho : toldM ν m r e l d c) : otM ν (X8_readsTask ν) (taskI T len m r e l d c p (tkN T len p) (tkN T len (tkN T len p)) (tkN T len (tkN T len (tkN T len p))) (tkN T len (tkN T len (tkN T len (tkN T len p))))) := by
  have b1 := tk_bd (T := T) hp
  obtain ⟨p2, hp2⟩ : ∃ q, q = tkN T len p := ⟨_, rfl⟩
  rw [← hp2] at b1 ⊢
  have b2 := tk_bd (T := T) (show p2 ≤ len by omega)
  obtain ⟨p3, hp3⟩ : ∃ q, q = tkN T len p2 := ⟨_, rfl⟩
  rw [← hp3] at b2 ⊢
  have b3 := tk_bd (T := T) (show p3 ≤ len by omega)
  obtain ⟨p4, hp4⟩ : ∃ q, q = tkN T len p3 := ⟨_, rfl⟩
  rw [← hp4] at b3 ⊢
  have b4 := tk_bd (T := T) (show p4 ≤ len by omega)
  obtain ⟨p5, hp5⟩ : ∃ q, q = tkN T len p4 := ⟨_, rfl⟩
  rw [← hp5] at b4 ⊢
  have e4 : (4 : Int32) * zI (m : Nat) = zI ((4 * m : Nat) : Int) := by
    rw [z_4, zI_mul]
    congr 1
  have f1 : zI ((4 * m : Nat) : Int) + (1 : Int32) = zI ((4 * m + 1 : Nat) : Int) := by
    rw [z_1, zI_add]
    congr 1
  have f2 : zI ((4 * m : Nat) : Int) + (2 : Int32) = zI ((4 * m + 2 : Nat) : Int) := by
    rw [z_2, zI_add]
    congr 1
  have f3 : zI ((4 * m : Nat) : Int) + (3 : Int32) = zI ((4 * m + 3 : Nat) : Int) := by
    rw [z_3, zI_add]
    congr 1
  unfold X8_readsTask X8_readsTask_b0 taskI
  rw [ho.1, if_neg (by rw [z_5, zI_eq (zR_small (by omega) (by omega)) (zR_small (by omega) (by omega))]; omega), e4, f1]
  obtain ⟨τ1, a1, a2, a3, a4, a5⟩ := numM (lo := 0) (hi := 15) (by omega) (by omega) hp ht hpl
  have a1' : X8_number ν 0 15 = _ := a1
  rw [a1']
  simp only [Option.bind_some]
  by_cases q1 : rnB T len 0 15 p = true
  · rw [q1] at a3 ⊢
    have r1 := rn_bd q1
    rw [if_neg (by decide), if_pos rfl, wd_chk_in (by omega) (by omega) (by omega), zI_clN (by omega), zI_clN (by omega), a3 rfl]
    obtain ⟨σ1, hσ1⟩ : ∃ q, q = mset τ1 39 (4 * m) (zI (tkV T len p : Nat)) := ⟨_, rfl⟩
    rw [← hσ1]
    have g1 : frR ν σ1 := by rw [hσ1]; exact frR_trans (frR_N a5) frR_39
    have o1 : toldM σ1 m r e l d c := by rw [hσ1]; exact toldM_39 (by omega) (toldM_N a5 ho)
    have v1 : σ1 39 (4 * m) = zI (tkV T len p : Nat) := by rw [hσ1, mset_eq]
    have t1 := txM_R g1 ht
    have k1 : σ1 31 12 = zI (p2 : Nat) := by rw [hσ1, mset_h _ _ _ _ (by decide), a2, hp2]
    obtain ⟨τ2, c1, c2, c3, c4, c5⟩ := numM (lo := tkV T len p + 1) (hi := 16) (by omega) (by omega) (show p2 ≤ len by omega) t1 k1
    have c1' : X8_number σ1 (zI (tkV T len p : Nat) + 1) 16 = some (bI (rnB T len (tkV T len p + 1) 16 p2), τ2) := by rw [z_1, zI_add]; exact c1
    rw [v1, c1']
    simp only [Option.bind_some]
    by_cases q2 : rnB T len (tkV T len p + 1) 16 p2 = true
    · rw [q2] at c3 ⊢
      have r2 := rn_bd q2
      rw [if_neg (by decide), if_pos rfl, wd_chk_in (by omega) (by omega) (by omega), c3 rfl]
      obtain ⟨σ2, hσ2⟩ : ∃ q, q = mset τ2 39 (4 * m + 1) (zI (tkV T len p2 : Nat)) := ⟨_, rfl⟩
      rw [← hσ2]
      have g2 : frR ν σ2 := by rw [hσ2]; exact frR_trans g1 (frR_trans (frR_N c5) frR_39)
      have o2 : toldM σ2 m r e l d c := by rw [hσ2]; exact toldM_39 (by omega) (toldM_N c5 o1)
      have v21 : σ2 39 (4 * m + 1) = zI (tkV T len p2 : Nat) := by rw [hσ2, mset_eq]
      have v20 : σ2 39 (4 * m) = zI (tkV T len p : Nat) := by rw [hσ2, mset_j _ _ _ _ (by omega), c5.2 39 (by decide), v1]
      have t2 := txM_R g2 ht
      have k2 : σ2 31 12 = zI (p3 : Nat) := by rw [hσ2, mset_h _ _ _ _ (by decide), c2, hp3]
      rw [v21, v20, zI_sub]
      have ehi : (if (9 : Int32) ≤ zI ((tkV T len p2 : Int) - (tkV T len p : Int)) then X8_readsTask_b103 σ2 (zI ((4 * m : Nat) : Int)) 1 9 else X8_readsTask_b103 σ2 (zI ((4 * m : Nat) : Int)) 1 (zI ((tkV T len p2 : Int) - (tkV T len p : Int)))) = X8_readsTask_b103 σ2 (zI ((4 * m : Nat) : Int)) 1 (zI ((min 9 (tkV T len p2 - tkV T len p) : Nat) : Int)) := by
        rw [z_9, zl_le (zR_small (by omega) (by omega)) (zR_small (by omega) (by omega))]
        by_cases z : 9 ≤ tkV T len p2 - tkV T len p
        · rw [if_pos (by omega)]; congr 2; omega
        · rw [if_neg (by omega)]; congr 2; omega
      rw [ehi]
      unfold X8_readsTask_b103
      obtain ⟨τ3, d1, d2, d3, d4, d5⟩ := numM (lo := 1) (hi := min 9 (tkV T len p2 - tkV T len p)) (by omega) (by omega) (show p3 ≤ len by omega) t2 k2
      have d1' : X8_number σ2 1 (zI ((min 9 (tkV T len p2 - tkV T len p) : Nat) : Int)) = _ := d1
      rw [d1', f2]
      simp only [Option.bind_some]
      by_cases q3 : rnB T len 1 (min 9 (tkV T len p2 - tkV T len p)) p3 = true
      · rw [q3] at d3 ⊢
        rw [if_neg (by decide), if_pos rfl, wd_chk_in (by omega) (by omega) (by omega), zI_clN (by omega), d3 rfl]
        have o2' := toldM_N d5 o2
        obtain ⟨σ3, hσ3⟩ : ∃ q, q = mset τ3 39 (4 * m + 2) (zI (tkV T len p3 : Nat)) := ⟨_, rfl⟩
        rw [← hσ3, o2'.2.1]
        have g3 : frR ν σ3 := by rw [hσ3]; exact frR_trans g2 (frR_trans (frR_N d5) frR_39)
        have o3 : toldM σ3 m r e l d c := by rw [hσ3]; exact toldM_39 (by omega) o2'
        have v32 : σ3 39 (4 * m + 2) = zI (tkV T len p3 : Nat) := by rw [hσ3, mset_eq]
        have v31 : σ3 39 (4 * m + 1) = zI (tkV T len p2 : Nat) := by rw [hσ3, mset_j _ _ _ _ (by omega), d5.2 39 (by decide), v21]
        have v30 : σ3 39 (4 * m) = zI (tkV T len p : Nat) := by rw [hσ3, mset_j _ _ _ _ (by omega), d5.2 39 (by decide), v20]
        have t3 := txM_R g3 ht
        have k3 : σ3 31 12 = zI (p4 : Nat) := by rw [hσ3, mset_h _ _ _ _ (by decide), d2, hp4]
        have ehi2 : (if (9 : Int32) ≤ zI (r : Nat) then X8_readsTask_b143 σ3 (zI ((4 * m : Nat) : Int)) 1 9 else X8_readsTask_b143 σ3 (zI ((4 * m : Nat) : Int)) 1 (zI (r : Nat))) = X8_readsTask_b143 σ3 (zI ((4 * m : Nat) : Int)) 1 (zI ((min 9 r : Nat) : Int)) := by
          rw [z_9, zl_le (zR_small (by omega) (by omega)) (zR_small (by omega) (by omega))]
          by_cases z : 9 ≤ r
          · rw [if_pos (by omega)]; congr 2; omega
          · rw [if_neg (by omega)]; congr 2; omega
        rw [ehi2]
        unfold X8_readsTask_b143
        obtain ⟨τ4, e1, e2, e3, e4', e5⟩ := numM (lo := 1) (hi := min 9 r) (by omega) (by omega) (show p4 ≤ len by omega) t3 k3
        have e1' : X8_number σ3 1 (zI ((min 9 r : Nat) : Int)) = _ := e1
        rw [e1', f3]
        simp only [Option.bind_some]
        by_cases q4 : rnB T len 1 (min 9 r) p4 = true
        · rw [q4] at e3 ⊢
          have o3' := toldM_N e5 o3
          have em : zI (m : Int) + (1 : Int32) = zI ((m + 1 : Nat) : Int) := by rw [z_1, zI_add]; rfl
          rw [if_neg (by decide), if_pos rfl, wd_chk_in (by omega) (by omega) (by omega), zI_clN (by omega), e3 rfl, o3'.1, em]
          obtain ⟨σ4, hσ4⟩ : ∃ q, q = mset (mset τ4 39 (4 * m + 3) (zI (tkV T len p4 : Nat))) 31 17 (zI ((m + 1 : Nat) : Int)) := ⟨_, rfl⟩
          rw [← hσ4]
          have g4 : frR ν σ4 := by rw [hσ4]; exact frR_trans g3 (frR_trans (frR_N e5) (frR_trans frR_39 (frR_31 (by omega))))
          have w : ∀ j, j ≠ 4 * m + 3 → σ4 39 j = σ3 39 j := fun j hj => by rw [hσ4, mset_h _ _ _ _ (by decide), mset_j _ _ _ _ hj, e5.2 39 (by decide)]
          have o4 : toldM σ4 (m + 1) r (bset e m (tkV T len p)) (bset l m (tkV T len p2)) (bset d m (tkV T len p3)) (bset c m (tkV T len p4)) := by
            refine ⟨by rw [hσ4, mset_eq], by rw [hσ4, mset_j _ _ _ _ (by decide), mset_h _ _ _ _ (by decide)]; exact o3'.2.1, fun i hi => ?_⟩
            by_cases z : i = m
            · subst z
              rw [bset_eq, bset_eq, bset_eq, bset_eq, w _ (by omega), w _ (by omega), w _ (by omega), v30, v31, v32]
              exact ⟨rfl, rfl, rfl, by rw [hσ4, mset_h _ _ _ _ (by decide), mset_eq]⟩
            · rw [bset_ne z, bset_ne z, bset_ne z, bset_ne z, w _ (by omega), w _ (by omega), w _ (by omega), w _ (by omega)]
              exact o3.2.2 i (by omega)
          have k4 : σ4 31 12 = zI (p5 : Nat) := by rw [hσ4, mset_j _ _ _ _ (by decide), mset_h _ _ _ _ (by decide), e2, hp5]
          exact otM_R g4 (endSM (show p5 ≤ len by omega) (txM_R g4 ht) k4 o4)
        · have q4' := Bool.eq_false_iff.mpr q4
          rw [q4', if_pos (by decide), if_neg (by decide)]
          exact ⟨τ4, frR_trans g3 (frR_N e5), Or.inl ⟨_, rfl, rfl, e4' q4'⟩⟩
      · have q3' := Bool.eq_false_iff.mpr q3
        rw [q3', if_pos (by decide), if_neg (by decide)]
        exact ⟨τ3, frR_trans g2 (frR_N d5), Or.inl ⟨_, rfl, rfl, d4 q3'⟩⟩
    · have q2' := Bool.eq_false_iff.mpr q2
      rw [q2', if_pos (by decide), if_neg (by decide)]
      exact ⟨τ2, frR_trans g1 (frR_N c5), Or.inl ⟨_, rfl, rfl, c4 q2'⟩⟩
  · have q1' := Bool.eq_false_iff.mpr q1
    rw [q1', if_pos (by decide), if_neg (by decide)]
    exact ⟨τ1, frR_N a5, Or.inl ⟨_, rfl, rfl, a4 q1'⟩⟩
theorem roomM' {ν : wd_Mem} {p m r : Nat} {e l d c : Nat → Nat} (hp : p ≤ len) (ht : txM ν T len) (hpl : ν 31 12 = zI (p : Nat)) (ho : toldM ν m r e l d c) : otM ν ((X8_number ν (1 : Int32) (20 : Int32)).bind (fun r7 => (if r7.1 = 0 then some ((0 : Int32), r7.2) else (X8_ends (mset r7.2 31 18 (r7.2 31 15))).bind (fun r9 => wd_chk (wd_bit r9.1) (some (r9.1, r9.2)))))) (roomI T len m e l d c p) := by
  have b1 := tk_bd (T := T) hp
  obtain ⟨τ1, a1, a2, a3, a4, a5⟩ := numM (lo := 1) (hi := 20) (by omega) (by omega) hp ht hpl
  have a1' : X8_number ν 1 20 = _ := a1
  unfold roomI
  rw [a1']
  simp only [Option.bind_some]
  by_cases q1 : rnB T len 1 20 p = true
  · rw [q1] at a3 ⊢
    rw [if_neg (by decide), if_pos rfl, a3 rfl]
    have g1 : frR ν (mset τ1 31 18 (zI (tkV T len p : Nat))) := frR_trans (frR_N a5) (frR_31 (by omega))
    have ho1 := toldM_N a5 ho
    have o1 : toldM (mset τ1 31 18 (zI (tkV T len p : Nat))) m (tkV T len p) e l d c := by
      refine ⟨by rw [mset_j _ _ _ _ (by decide)]; exact ho1.1, mset_eq _ _ _ _, fun i hi => ?_⟩
      rw [mset_ne (show 39 ≠ 31 by decide)]
      exact ho1.2.2 i hi
    exact otM_R g1 (endSM (p := tkN T len p) (by omega) (txM_R g1 ht) (by rw [mset_j _ _ _ _ (by decide), a2]) o1)
  · have q1' := Bool.eq_false_iff.mpr q1
    rw [q1', if_pos (by decide), if_neg (by decide)]
    exact ⟨τ1, frR_N a5, Or.inl ⟨_, rfl, rfl, a4 q1'⟩⟩
theorem failM {ν : wd_Mem} {f : Nat} (h : ν 31 13 = zI (f : Nat)) : otM ν ((X8_fails ν).bind (fun r4 => wd_chk (wd_bit r4.1) (some (r4.1, r4.2)))) (none, f) := by
  unfold X8_fails X8_fails_b0
  simp only [Option.bind_some]
  rw [wd_chk_t (by decide), h]
  exact ⟨_, frR_31 (by omega), Or.inl ⟨f, rfl, rfl, mset_eq _ _ _ _⟩⟩
theorem bitM {ν : wd_Mem} {L : Option (Int32 × wd_Mem)} {o : Option pSt × Nat} (h : otM ν L o) : otM ν (L.bind (fun r11 => wd_chk (wd_bit r11.1) (some (r11.1, r11.2)))) o := by
  obtain ⟨τ, h1, ⟨f, k1, k2, k3⟩ | ⟨m, r, e, l, d, c, p, k1, k2, k3, k4⟩⟩ := h
  · refine ⟨τ, h1, Or.inl ⟨f, k1, ?_, k3⟩⟩
    rw [k2]
    rfl
  · refine ⟨τ, h1, Or.inr ⟨m, r, e, l, d, c, p, k1, ?_, k3, k4⟩⟩
    rw [k2]
    rfl
theorem itemM {ν : wd_Mem} {p m r : Nat} {e l d c : Nat → Nat} {b : Bool} (hp : p ≤ len) (ht : txM ν T len) (hpl : ν 31 12 = zI (p : Nat)) (hm : m ≤ 5) (hr : 1 ≤ r ∧ r ≤ 20) (ho : toldM ν m r e l d c) : otM ν (X8_readsItem ν (bI b)) (itm T len b m r e l d c p) := by
  obtain ⟨τ, a1, a2, a3, a4, a5, a6⟩ := nextM hp ht hpl
  have bd := tk_bd (T := T) hp
  have rg := mK_rng (p := p) (fun j hj => (ht.2.2 j hj).2)
  have t1 := txM_f a6 ht
  have o1 := toldM_N a6 ho
  have hc : mK T len p = 99 ↔ tkK T len p = 99 := mK_c (T := T) (len := len) (p := p) (x := 99) (by omega)
  have htt : mK T len p = 116 ↔ tkK T len p = 116 := mK_c (T := T) (len := len) (p := p) (x := 116) (by omega)
  refine otM_R (frR_N a6) ?_
  unfold X8_readsItem X8_readsItem_b0 X8_readsItem_b31 itm
  rw [a1]
  simp only [Option.bind_some]
  rw [a4, z_116, zl_eq (zR_small (by omega) (by omega)) (zR_small (by omega) (by omega)), z_99, zl_eq (zR_small (by omega) (by omega)) (zR_small (by omega) (by omega))]
  by_cases q1 : tkK T len p = 99
  · rw [if_pos q1, if_neg (by omega), if_pos (hc.mpr q1)]
    cases b with
    | true =>
      rw [if_neg (by decide), if_pos rfl]
      exact roomM' (p := tkN T len p) (by omega) t1 a2 o1
    | false =>
      rw [if_pos (by decide), if_neg (by decide)]
      exact failM a3
  · rw [if_neg q1]
    by_cases q2 : tkK T len p = 116
    · rw [if_pos q2, if_pos (htt.mpr q2)]
      by_cases q3 : 5 ≤ m
      · rw [if_pos q3]
        refine bitM ?_
        unfold X8_readsTask X8_readsTask_b0
        rw [o1.1, if_pos (by rw [z_5]; congr 1; omega)]
        exact failM a3
      · rw [if_neg q3]
        exact bitM (taskM' (p := tkN T len p) (by omega) t1 a2 (by omega) hr o1)
    · rw [if_neg q2, if_neg (fun w => q2 (htt.mp w)), if_neg (fun w => q1 (hc.mp w))]
      exact failM a3
theorem rdM (K : Int32 → wd_Mem → Option (Int32 × wd_Mem)) : ∀ (f k p m r q : Nat) (e l d c : Nat → Nat) (ν : wd_Mem), len - p < f → f ≤ q → k ≤ p → p ≤ len → txM ν T len → ν 31 12 = zI (tkP T len p : Nat) → toldM ν m r e l d c → okSt m r e l d c → (k = 0 → m = 0) → ∃ τ : wd_Mem, frR ν τ ∧ ((∃ x : Nat, rdF T len f k (m, r, e, l, d, c) p = (none, x) ∧ X8_desk_l21 K q (zI (k : Nat)) ν = some (zI (-10 - (x : Int)), τ)) ∨ ∃ (k' m' r' x : Nat) (e' l' d' c' : Nat → Nat), rdF T len f k (m, r, e, l, d, c) p = (some (k', m', r', e', l', d', c'), x) ∧ X8_desk_l21 K q (zI (k : Nat)) ν = K (zI (k' : Nat)) τ ∧ toldM τ m' r' e' l' d' c') := by
  intro f
  induction f with
  | zero =>
    intro k p m r q e l d c ν h1
    omega
  | succ f ih =>
    intro k p m r q e l d c ν h1 h2 h3 hp ht hpl ho ok hk
    obtain ⟨q, rfl⟩ : ∃ a, q = a + 1 := ⟨q - 1, by omega⟩
    have hl := ht.1
    have bd := tk_bd (T := T) hp
    have hk0 : zI (k : Nat) = 0 ↔ k = 0 := by
      rw [z_0, zI_eq (zR_small (by omega) (by omega)) (zR_small (by omega) (by omega))]
      omega
    have hL : X8_desk_l21 K (q + 1) (zI (k : Nat)) ν = (if len ≤ tkP T len p then K (zI (k : Nat)) ν else X8_desk_b42 (X8_desk_l21 K q) K ν (zI (k : Nat)) (bI (decide (k = 0)))) := by
      show X8_desk_c21 _ _ ν _ = _
      unfold X8_desk_c21
      rw [ht.2.1, hpl, zl_le (zR_small (by omega) (by omega)) (zR_small (by omega) (by omega))]
      by_cases z : len ≤ tkP T len p
      · rw [if_pos (by omega), if_pos z]
      · rw [if_neg (by omega), if_neg z]
        by_cases y : k = 0
        · rw [if_pos (hk0.mpr y), decide_eq_true y]; rfl
        · rw [if_neg (fun w => y (hk0.mp w)), decide_eq_false y]; rfl
    simp only [rdF]
    rw [hL]
    by_cases hge : len ≤ tkP T len p
    · refine ⟨ν, ⟨fun _ _ => rfl, fun _ _ _ => rfl⟩, Or.inr ⟨k, m, r, p, e, l, d, c, ?_, ?_, ho⟩⟩
      · rw [if_pos hge]
      · rw [if_pos hge]
    · have gd := itm_ok (b := decide (k = 0)) hp (show tkP T len p < len by omega) (fun w => hk (of_decide_eq_true w)) ok
      obtain ⟨τ, fD, hh⟩ := itemM (b := decide (k = 0)) (p := tkP T len p) (by omega) ht hpl ok.1 ⟨ok.2.1, ok.2.2.1⟩ ho
      rw [itm_tk hp] at hh
      rw [if_neg hge, if_neg hge]
      unfold X8_desk_b42
      rcases hh with ⟨x, e1, e2, e3⟩ | ⟨m', r', e', l', d', c', p', e1, e2, e3, e4⟩
      · rw [e1] at gd ⊢
        refine ⟨τ, fD, Or.inl ⟨x, rfl, ?_⟩⟩
        rw [e2]
        simp only [Option.bind_some, if_true]
        rw [e3, show (-10 : Int32) = zI (-10) from rfl, zI_sub]
      · rw [e1] at gd ⊢
        obtain ⟨g1, g2⟩ := gd
        obtain ⟨g2, g3⟩ := g2 _ rfl
        simp only at g1 g2 g3
        have e5 : zI (k : Int) + (1 : Int32) = zI ((k + 1 : Nat) : Int) := by rw [z_1, zI_add]; rfl
        have t1 := txM_R fD ht
        obtain ⟨τ2, y1, y2, y3⟩ := blanksM g1 t1 e4
        obtain ⟨σ, s1, s2⟩ := ih (k + 1) p' m' r' q e' l' d' c' τ2 (by omega) (by omega) (by omega) g1 (txM_f y3 t1) y2 (toldM_N y3 e3) g3 (fun w => by omega)
        rw [e2]
        simp only [Option.bind_some]
        rw [if_neg (by decide), y1]
        simp only [Option.bind_some]
        rw [e5]
        exact ⟨σ, frR_trans fD (frR_trans (frR_N y3) s1), s2⟩
end
