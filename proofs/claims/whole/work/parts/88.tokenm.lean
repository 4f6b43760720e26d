/-! ===== tokens of the reference; numbers and ends of items of both ===== -/
def mK (T : Nat → Nat) (len p : Nat) : Int := if len ≤ tkP T len p then -1 else if 48 ≤ T (tkP T len p) ∧ T (tkP T len p) ≤ 57 then (if tkV T len p ≤ 99 ∧ ¬ (T (tkP T len p) = 48 ∧ 1 < (tkE T len p).1 - tkP T len p) then 0 else -2) else if T (tkP T len p) = 99 ∨ T (tkP T len p) = 116 ∨ T (tkP T len p) = 59 then (T (tkP T len p) : Int) else -2
section
variable {T : Nat → Nat} {len : Nat}
theorem mK_0 {p : Nat} : mK T len p = 0 ↔ tkK T len p = -2 ∧ tkV T len p ≤ 99 := by
  unfold mK tkK
  by_cases q1 : len ≤ tkP T len p
  · rw [if_pos q1, if_pos q1]; omega
  · rw [if_neg q1, if_neg q1]
    by_cases q2 : 48 ≤ T (tkP T len p) ∧ T (tkP T len p) ≤ 57
    · rw [if_pos q2, if_pos q2]
      by_cases q3 : T (tkP T len p) = 48 ∧ 1 < (tkE T len p).1 - tkP T len p
      · rw [if_neg (fun w => w.2 q3), if_pos q3]; omega
      · rw [if_neg q3]
        by_cases q4 : tkV T len p ≤ 99
        · rw [if_pos ⟨q4, q3⟩]; omega
        · rw [if_neg (fun w => q4 w.1)]; omega
    · rw [if_neg q2, if_neg q2]
      split <;> omega
theorem mK_c {p x : Nat} (hx : x = 99 ∨ x = 116 ∨ x = 59) : mK T len p = (x : Int) ↔ tkK T len p = (x : Int) := by
  unfold mK tkK
  by_cases q1 : len ≤ tkP T len p
  · rw [if_pos q1, if_pos q1]
  · rw [if_neg q1, if_neg q1]
    by_cases q2 : 48 ≤ T (tkP T len p) ∧ T (tkP T len p) ≤ 57
    · rw [if_pos q2, if_pos q2]
      split <;> split <;> omega
    · rw [if_neg q2, if_neg q2]
      split <;> omega
theorem tkK_rng {p : Nat} (hT : ∀ k, k < len → T k ≤ 255) : -2 ≤ tkK T len p ∧ tkK T len p ≤ 255 := by
  unfold tkK
  by_cases q1 : len ≤ tkP T len p
  · rw [if_pos q1]; omega
  · rw [if_neg q1]
    have := hT (tkP T len p) (by omega)
    split
    · split <;> omega
    · omega
theorem mK_rng {p : Nat} (hT : ∀ k, k < len → T k ≤ 255) : -2 ≤ mK T len p ∧ mK T len p ≤ 255 := by
  unfold mK
  by_cases q1 : len ≤ tkP T len p
  · rw [if_pos q1]; omega
  · rw [if_neg q1]
    have := hT (tkP T len p) (by omega)
    split
    · split <;> omega
    · split <;> omega
theorem blM (K : wd_Mem → Option wd_Mem) : ∀ (f p q : Nat) (ν : wd_Mem), len - p ≤ f → p ≤ len → f < q → txM ν T len → ν 31 12 = zI (p : Nat) → ∃ τ : wd_Mem, X8_blanks_l0 K q ν = K τ ∧ τ 31 12 = zI (skF T len f p : Nat) ∧ frN ν τ := by
  have stop : ∀ (p q : Nat) (ν : wd_Mem), p ≤ len → txM ν T len → ν 31 12 = zI (p : Nat) → ¬ (p < len ∧ T p = 32) → X8_blanks_l0 K (q + 1) ν = K ν := by
    intro p q ν hp ht h2 hno
    show X8_blanks_c0 _ _ ν = _
    unfold X8_blanks_c0
    obtain ⟨t1, t2, t3⟩ := ht
    rw [t2, h2]
    by_cases q1 : len ≤ p
    · rw [if_pos (by rw [zI_le (zR_small (by omega) (by omega)) (zR_small (by omega) (by omega))]; omega)]
    · obtain ⟨u1, u2⟩ := t3 p (by omega)
      rw [if_neg (by rw [zI_le (zR_small (by omega) (by omega)) (zR_small (by omega) (by omega))]; omega), wd_chk_in (by omega) (by omega) (by omega), zI_clN (by omega), u1, z32, if_neg (by rw [zI_eq (zR_small (by omega) (by omega)) (zR_small (by omega) (by omega))]; omega)]
  intro f
  induction f with
  | zero =>
    intro p q ν h1 hp h2 ht hpl
    obtain ⟨q, rfl⟩ : ∃ a, q = a + 1 := ⟨q - 1, by omega⟩
    exact ⟨ν, stop p q ν hp ht hpl (by omega), hpl, frN_refl⟩
  | succ f ih =>
    intro p q ν h1 hp h2 ht hpl
    obtain ⟨q, rfl⟩ : ∃ a, q = a + 1 := ⟨q - 1, by omega⟩
    simp only [skF]
    by_cases hb : p < len ∧ T p = 32
    · rw [if_pos hb]
      obtain ⟨t1, t2, t3⟩ := ht
      obtain ⟨u1, u2⟩ := t3 p hb.1
      have e1 : zI (p : Int) + (1 : Int32) = zI ((p + 1 : Nat) : Int) := by rw [z_1, zI_add]; rfl
      have hk : X8_blanks_l0 K (q + 1) ν = X8_blanks_l0 K q (mset ν 31 12 (zI ((p + 1 : Nat) : Int))) := by
        show X8_blanks_c0 _ _ ν = _
        unfold X8_blanks_c0
        rw [t2, hpl, if_neg (by rw [zI_le (zR_small (by omega) (by omega)) (zR_small (by omega) (by omega))]; omega), wd_chk_in (by omega) (by omega) (by omega), zI_clN (by omega), u1, z32, if_pos (by rw [hb.2]; rfl), e1]
      have fs : frN ν (mset ν 31 12 (zI ((p + 1 : Nat) : Int))) := frN_set (by omega)
      obtain ⟨τ, k1, k2, k3⟩ := ih (p + 1) q (mset ν 31 12 (zI ((p + 1 : Nat) : Int))) (by omega) (by omega) (by omega) (txM_f fs ⟨t1, t2, t3⟩) (mset_eq _ _ _ _)
      exact ⟨τ, by rw [hk, k1], k2, frN_trans fs k3⟩
    · rw [if_neg hb]
      exact ⟨ν, stop p q ν hp ht hpl hb, hpl, frN_refl⟩
theorem blanksM {ν : wd_Mem} {p : Nat} (hp : p ≤ len) (ht : txM ν T len) (hpl : ν 31 12 = zI (p : Nat)) : ∃ τ : wd_Mem, X8_blanks ν = some τ ∧ τ 31 12 = zI (tkP T len p : Nat) ∧ frN ν τ := by
  obtain ⟨τ, a1, a2, a3⟩ := blM (T := T) (fun μ => X8_blanks_b38 μ) (len - p) p wd_big ν (Nat.le_refl _) hp (by have := ht.1; unfold wd_big; omega) ht hpl
  exact ⟨τ, a1, a2, a3⟩
theorem figM {ν : wd_Mem} {p : Nat} (hp : p ≤ len) (ht : txM ν T len) (hpl : ν 31 12 = zI (p : Nat)) : X8_isFigure ν = some (bI (decide (p < len ∧ (48 ≤ T p ∧ T p ≤ 57)))) := by
  obtain ⟨t1, t2, t3⟩ := ht
  unfold X8_isFigure X8_isFigure_b0 X8_isFigure_b34
  rw [t2, hpl]
  by_cases q1 : len ≤ p
  · rw [if_pos (by rw [zI_le (zR_small (by omega) (by omega)) (zR_small (by omega) (by omega))]; omega), decide_eq_false (by omega)]; rfl
  · obtain ⟨u1, u2⟩ := t3 p (by omega)
    rw [if_neg (by rw [zI_le (zR_small (by omega) (by omega)) (zR_small (by omega) (by omega))]; omega), wd_chk_in (by omega) (by omega) (by omega), zI_clN (by omega), u1, X8_in_eq, z48, z57]
    simp only [zI_lt (zR_small (show (-1000000 : Int) ≤ (T p : Int) by omega) (by omega)) (zR_small (show (-1000000 : Int) ≤ 48 by omega) (by omega)), zI_lt (zR_small (show (-1000000 : Int) ≤ 57 by omega) (by omega)) (zR_small (show (-1000000 : Int) ≤ (T p : Int) by omega) (by omega))]
    by_cases q2 : 48 ≤ T p ∧ T p ≤ 57
    · rw [if_neg (show ¬ ((T p : Int) < 48 ∨ 57 < (T p : Int)) by omega), if_neg (by decide), decide_eq_true ⟨by omega, q2⟩]; rfl
    · rw [if_pos (show ((T p : Int) < 48 ∨ 57 < (T p : Int)) by omega), if_pos rfl, decide_eq_false (fun w => q2 w.2)]; rfl
theorem nuM (K : wd_Mem → Option wd_Mem) : ∀ (f p q vm : Nat) (ν : wd_Mem), len - p ≤ f → p ≤ len → f < q → vm ≤ 1000 → txM ν T len → ν 31 12 = zI (p : Nat) → ν 31 15 = zI (vm : Nat) → ∃ (τ : wd_Mem) (v' : Nat), X8_next_l43 K q ν = K τ ∧ τ 31 12 = zI ((nuF T len f p (min 100 vm)).1 : Nat) ∧ τ 31 15 = zI (v' : Nat) ∧ (nuF T len f p (min 100 vm)).2 = min 100 v' ∧ v' ≤ 1000 ∧ τ 31 13 = ν 31 13 ∧ frN ν τ := by
  have stop : ∀ (p q : Nat) (ν : wd_Mem), p ≤ len → txM ν T len → ν 31 12 = zI (p : Nat) → ¬ (p < len ∧ (48 ≤ T p ∧ T p ≤ 57)) → X8_next_l43 K (q + 1) ν = K ν := by
    intro p q ν hp ht h2 hno
    show X8_next_c43 _ _ ν = _
    unfold X8_next_c43
    rw [figM hp ht h2, decide_eq_false hno]
    rfl
  intro f
  induction f with
  | zero =>
    intro p q v ν h1 hp h2 hv ht hpl hvl
    obtain ⟨q, rfl⟩ : ∃ a, q = a + 1 := ⟨q - 1, by omega⟩
    exact ⟨ν, v, stop p q ν hp ht hpl (by omega), hpl, hvl, rfl, hv, rfl, frN_refl⟩
  | succ f ih =>
    intro p q v ν h1 hp h2 hv ht hpl hvl
    obtain ⟨q, rfl⟩ : ∃ a, q = a + 1 := ⟨q - 1, by omega⟩
    simp only [nuF]
    by_cases hb : p < len ∧ (48 ≤ T p ∧ T p ≤ 57)
    · rw [if_pos hb]
      have ht' := ht
      obtain ⟨t1, t2, t3⟩ := ht
      obtain ⟨u1, u2⟩ := t3 p hb.1
      have e1 : zI (p : Int) + (1 : Int32) = zI ((p + 1 : Nat) : Int) := by rw [z_1, zI_add]; rfl
      obtain ⟨V, hV⟩ : ∃ V, V = if v ≤ 99 then 10 * v + (T p - 48) else v := ⟨_, rfl⟩
      have hVb : V ≤ 1000 := by rw [hV]; split <;> omega
      have hVm : min 100 V = min 100 (min 100 v * 10 + (T p - 48)) := by
        rw [hV]
        split <;> omega
      have hk : X8_next_l43 K (q + 1) ν = X8_next_l43 K q (mset (mset ν 31 15 (zI (V : Nat))) 31 12 (zI ((p + 1 : Nat) : Int))) := by
        show X8_next_c43 _ _ ν = _
        unfold X8_next_c43 X8_next_b87
        rw [figM hp ht' hpl, decide_eq_true hb]
        simp only [Option.bind_some]
        rw [if_neg (by decide), hvl, hpl, e1, z_99, zl_le (zR_small (by omega) (by omega)) (zR_small (by omega) (by omega)), wd_chk_in (by omega) (by omega) (by omega), zI_clN (by omega), u1, z_10, zI_mul, zI_add, z48, zI_sub]
        by_cases hs : v ≤ 99
        · rw [if_pos (by omega), hV, if_pos hs, show 10 * (v : Int) + (T p : Int) - 48 = ((10 * v + (T p - 48) : Nat) : Int) by omega]
        · rw [if_neg (by omega), hV, if_neg hs]
      have fs : frN ν (mset (mset ν 31 15 (zI (V : Nat))) 31 12 (zI ((p + 1 : Nat) : Int))) := frN_trans (frN_set (by omega)) (frN_set (by omega))
      obtain ⟨τ, v', k1, k2, k3, k4, k5, k6, k7⟩ := ih (p + 1) q V (mset (mset ν 31 15 (zI (V : Nat))) 31 12 (zI ((p + 1 : Nat) : Int))) (by omega) (by omega) (by omega) hVb (txM_f fs ht') (mset_eq _ _ _ _) (by rw [mset_j _ _ _ _ (by decide), mset_eq])
      rw [hVm] at k2 k4
      exact ⟨τ, v', by rw [hk, k1], k2, k3, k4, k5, by rw [k6, mset_j _ _ _ _ (by decide), mset_j _ _ _ _ (by decide)], frN_trans fs k7⟩
    · rw [if_neg hb]
      exact ⟨ν, v, stop p q ν hp ht hpl hb, hpl, hvl, rfl, hv, rfl, frN_refl⟩
theorem nextM {ν : wd_Mem} {p : Nat} (hp : p ≤ len) (ht : txM ν T len) (hpl : ν 31 12 = zI (p : Nat)) : ∃ τ : wd_Mem, X8_next ν = some τ ∧ τ 31 12 = zI (tkN T len p : Nat) ∧ τ 31 13 = zI (tkP T len p : Nat) ∧ τ 31 14 = zI (mK T len p) ∧ (mK T len p = 0 → τ 31 15 = zI (tkV T len p : Nat)) ∧ frN ν τ := by
  obtain ⟨τ, a1, a2, a3⟩ := blanksM hp ht hpl
  have ht1 := txM_f a3 ht
  have bd := tk_bd (T := T) hp
  unfold X8_next X8_next_b0
  rw [a1]
  simp only [Option.bind_some]
  have ht1' := ht1
  obtain ⟨t1, t2, t3⟩ := ht1
  obtain ⟨P, hP⟩ : ∃ P, P = tkP T len p := ⟨_, rfl⟩
  have hVdef : tkV T len p = (nuF T len (len - P) P 0).2 := by unfold tkV tkE; rw [← hP]
  have hEdef : (tkE T len p).1 = (nuF T len (len - P) P 0).1 := by unfold tkE; rw [← hP]
  unfold tkN mK
  rw [← hP] at bd a2 ⊢
  rw [t2, a2]
  by_cases q1 : len ≤ P
  · have : P = len := by omega
    rw [if_pos (by rw [this]), if_pos q1, if_pos q1]
    refine ⟨_, rfl, ?_, ?_, ?_, fun h => by omega, frN_trans a3 (frN_trans (frN_set (by omega)) (frN_set (by omega)))⟩
    · rw [mset_j _ _ _ _ (by decide), mset_j _ _ _ _ (by decide), a2]
    · rw [mset_j _ _ _ _ (by decide), mset_eq]
    · rw [mset_eq]; rfl
  · obtain ⟨u1, u2⟩ := t3 P (by omega)
    have f1 : frN τ (mset τ 31 13 (zI (P : Nat))) := frN_set (by omega)
    rw [if_neg (by rw [zI_eq (zR_small (by omega) (by omega)) (zR_small (by omega) (by omega))]; omega), if_neg q1, if_neg q1, figM (p := P) (by omega) (txM_f f1 ht1') (by rw [mset_j _ _ _ _ (by decide), a2])]
    simp only [Option.bind_some]
    by_cases q2 : 48 ≤ T P ∧ T P ≤ 57
    · rw [decide_eq_true ⟨by omega, q2⟩, if_neg (by decide), if_pos q2, if_pos q2]
      have f2 : frN τ (mset (mset τ 31 13 (zI (P : Nat))) 31 15 0) := frN_trans f1 (frN_set (by omega))
      obtain ⟨σ, v', b1, b2, b3, b4, b5, b6, b7⟩ := nuM (T := T) (fun μ => X8_next_b103 μ) (len - P) P wd_big 0 (mset (mset τ 31 13 (zI (P : Nat))) 31 15 0) (Nat.le_refl _) (by omega) (by unfold wd_big; omega) (by omega) (txM_f f2 ht1') (by rw [mset_j _ _ _ _ (by decide), mset_j _ _ _ _ (by decide), a2]) (by rw [mset_eq]; rfl)
      have b6' : σ 31 13 = zI (P : Nat) := by rw [b6, mset_j _ _ _ _ (by decide), mset_eq]
      have fσ := frN_trans f2 b7
      rw [show min 100 0 = 0 by decide] at b2 b4
      rw [hVdef, hEdef]
      obtain ⟨Q, hQ⟩ : ∃ Q, Q = (nuF T len (len - P) P 0).1 := ⟨_, rfl⟩
      obtain ⟨V, hV⟩ : ∃ V, V = (nuF T len (len - P) P 0).2 := ⟨_, rfl⟩
      rw [← hQ] at b2 ⊢
      rw [← hV] at b4 ⊢
      have hQb := nu_bd (T := T) (len - P) P 0 (show P ≤ len by omega) (by omega)
      rw [← hQ] at hQb
      rw [b1]
      unfold X8_next_b103 X8_next_b140 X8_next_b145 X8_next_b146
      rw [b3, z_99, zl_lt (zR_small (by omega) (by omega)) (zR_small (by omega) (by omega)), b6', b2, wd_chk_in (by omega) (by omega) (by omega), zI_clN (by omega), fσ.2 38 (by decide), u1, z48, zI_sub, z_1]
      by_cases q5 : 99 < v'
      · rw [if_pos (by omega), if_neg (fun w => by omega)]
        exact ⟨_, rfl, by rw [mset_j _ _ _ _ (by decide), b2], by rw [mset_j _ _ _ _ (by decide), b6'], by rw [mset_eq]; rfl, fun h => by omega, frN_trans a3 (frN_trans fσ (frN_set (by omega)))⟩
      · rw [if_neg (by omega)]
        by_cases q3 : T P = 48 ∧ 1 < Q - P
        · rw [if_pos (by rw [q3.1]; rfl), if_neg (by rw [zI_le (zR_small (by omega) (by omega)) (zR_small (by omega) (by omega))]; omega), if_neg (fun w => w.2 q3)]
          exact ⟨_, rfl, by rw [mset_j _ _ _ _ (by decide), b2], by rw [mset_j _ _ _ _ (by decide), b6'], by rw [mset_eq]; rfl, fun h => by omega, frN_trans a3 (frN_trans fσ (frN_set (by omega)))⟩
        · rw [if_pos (show V ≤ 99 ∧ ¬ (T P = 48 ∧ 1 < Q - P) from ⟨by omega, q3⟩)]
          refine ⟨mset σ 31 14 0, ?_, by rw [mset_j _ _ _ _ (by decide), b2], by rw [mset_j _ _ _ _ (by decide), b6'], by rw [mset_eq]; rfl, fun _ => by rw [mset_j _ _ _ _ (by decide), b3]; congr 2; omega, frN_trans a3 (frN_trans fσ (frN_set (by omega)))⟩
          by_cases q4 : T P = 48
          · rw [if_pos (by rw [q4]; rfl), if_pos (by rw [zI_le (zR_small (by omega) (by omega)) (zR_small (by omega) (by omega))]; omega)]
          · rw [if_neg (by rw [zI_eq (zR_small (by omega) (by omega)) (zR_small (by omega) (by omega))]; omega)]
    · rw [decide_eq_false (fun w => q2 w.2), if_pos (by decide), if_neg q2, if_neg q2]
      have e1 : zI (P : Int) + (1 : Int32) = zI ((P + 1 : Nat) : Int) := by rw [z_1, zI_add]; rfl
      unfold X8_next_b181 X8_next_b187
      have gp : (mset τ 31 13 (zI (P : Nat))) 31 12 = zI (P : Nat) := by rw [mset_j _ _ _ _ (by decide), a2]
      rw [wd_chk_in (by omega) (by omega) (by omega), zI_clN (by omega), u1, z_99, show (116 : Int32) = zI 116 from zI_lit 116, show (59 : Int32) = zI 59 from zI_lit 59, zl_eq (zR_small (by omega) (by omega)) (zR_small (by omega) (by omega)), zl_eq (zR_small (by omega) (by omega)) (zR_small (by omega) (by omega)), zl_eq (zR_small (by omega) (by omega)) (zR_small (by omega) (by omega)), gp, e1]
      have fin : ∀ (x : Int), x ≠ 0 → ∃ σ : wd_Mem, some (mset (mset (mset τ 31 13 (zI (P : Nat))) 31 14 (zI x)) 31 12 (zI ((P + 1 : Nat) : Int))) = some σ ∧ σ 31 12 = zI ((P + 1 : Nat) : Int) ∧ σ 31 13 = zI (P : Nat) ∧ σ 31 14 = zI x ∧ (x = 0 → σ 31 15 = zI (tkV T len p : Nat)) ∧ frN ν σ := fun x hx => ⟨_, rfl, mset_eq _ _ _ _, by rw [mset_j _ _ _ _ (by decide), mset_j _ _ _ _ (by decide), mset_eq], by rw [mset_j _ _ _ _ (by decide), mset_eq], fun h => absurd h hx, frN_trans a3 (frN_trans (frN_trans f1 (frN_set (by omega))) (frN_set (by omega)))⟩
      by_cases q3 : T P = 99 ∨ T P = 116 ∨ T P = 59
      · rw [if_pos q3]
        have hf := fin (T P : Int) (by omega)
        by_cases r1 : (T P : Int) = 99
        · rw [if_pos r1]; exact hf
        · rw [if_neg r1]
          by_cases r2 : (T P : Int) = 116
          · rw [if_pos r2]; exact hf
          · rw [if_neg r2, if_pos (by omega)]; exact hf
      · rw [if_neg q3, if_neg (by omega), if_neg (by omega), if_neg (by omega)]
        exact fin (-2) (by omega)
def rnB (T : Nat → Nat) (len lo hi p : Nat) : Bool := decide (tkK T len p = -2 ∧ lo ≤ tkV T len p ∧ tkV T len p ≤ hi)
theorem numX {ν : wd_Mem} {p lo hi : Nat} (hlo : lo ≤ 99) (hhi : hi ≤ 99) (hp : p ≤ len) (ht : txX ν T len) (hpl : ν 1 2 = zI (p : Nat)) : ∃ τ : wd_Mem, X5_readNumber ν (zI (lo : Nat)) (zI (hi : Nat)) = some (bI (rnB T len lo hi p), τ) ∧ τ 1 2 = zI (tkN T len p : Nat) ∧ τ 1 4 = zI (tkP T len p : Nat) ∧ (rnB T len lo hi p = true → τ 1 5 = zI (tkV T len p : Nat)) ∧ fr1 ν τ := by
  obtain ⟨τ, a1, a2, a3, a4, a5, a6⟩ := nextX hp ht hpl
  have bd := tk_bd (T := T) hp
  have rg := tkK_rng (p := p) (fun k hk => (ht.2.2 k hk).2)
  unfold X5_readNumber X5_readNumber_b0 X5_readNumber_b33
  rw [a1]
  simp only [Option.bind_some]
  refine ⟨τ, ?_, a2, a3, fun h => a5 (of_decide_eq_true h).1, a6⟩
  rw [a4, z_m2, zl_eq (zR_small (by omega) (by omega)) (zR_small (by omega) (by omega))]
  unfold rnB
  by_cases q1 : tkK T len p = -2
  · rw [if_pos q1, a5 q1, zl_lt (zR_small (by omega) (by omega)) (zR_small (by omega) (by omega)), zl_lt (zR_small (by omega) (by omega)) (zR_small (by omega) (by omega))]
    by_cases q2 : lo ≤ tkV T len p
    · rw [if_neg (by omega)]
      by_cases q3 : tkV T len p ≤ hi
      · rw [if_neg (by omega), decide_eq_true ⟨q1, q2, q3⟩]; rfl
      · rw [if_pos (by omega), decide_eq_false (fun w => q3 w.2.2)]; rfl
    · rw [if_pos (by omega), decide_eq_false (fun w => q2 w.2.1)]; rfl
  · rw [if_neg q1, decide_eq_false (fun w => q1 w.1)]; rfl
theorem numM {ν : wd_Mem} {p lo hi : Nat} (hlo : lo ≤ 99) (hhi : hi ≤ 99) (hp : p ≤ len) (ht : txM ν T len) (hpl : ν 31 12 = zI (p : Nat)) : ∃ τ : wd_Mem, X8_number ν (zI (lo : Nat)) (zI (hi : Nat)) = some (bI (rnB T len lo hi p), τ) ∧ τ 31 12 = zI (tkN T len p : Nat) ∧ (rnB T len lo hi p = true → τ 31 15 = zI (tkV T len p : Nat)) ∧ (rnB T len lo hi p = false → τ 31 16 = zI (tkP T len p : Nat)) ∧ frN ν τ := by
  obtain ⟨τ, a1, a2, a3, a4, a5, a6⟩ := nextM hp ht hpl
  have bd := tk_bd (T := T) hp
  have rg := mK_rng (p := p) (fun k hk => (ht.2.2 k hk).2)
  have h0 := mK_0 (T := T) (len := len) (p := p)
  have hk : X8_number ν (zI (lo : Nat)) (zI (hi : Nat)) = (if rnB T len lo hi p = true then some ((1 : Int32), τ) else some ((0 : Int32), mset τ 31 16 (τ 31 13))) := by
    unfold X8_number X8_number_b0 X8_number_b23 X8_number_b30 X8_fails X8_fails_b0
    rw [a1]
    simp only [Option.bind_some, if_true]
    rw [a4, z_0, zl_eq (zR_small (by omega) (by omega)) (zR_small (by omega) (by omega))]
    unfold rnB
    by_cases q1 : mK T len p = 0
    · have q1' := h0.mp q1
      rw [if_pos q1, a5 q1, X8_in_eq]
      simp only [zI_lt (zR_small (show (-1000000 : Int) ≤ (tkV T len p : Int) by omega) (by omega)) (zR_small (show (-1000000 : Int) ≤ (lo : Int) by omega) (by omega)), zI_lt (zR_small (show (-1000000 : Int) ≤ (hi : Int) by omega) (by omega)) (zR_small (show (-1000000 : Int) ≤ (tkV T len p : Int) by omega) (by omega))]
      by_cases q2 : lo ≤ tkV T len p ∧ tkV T len p ≤ hi
      · rw [if_neg (show ¬ ((tkV T len p : Int) < (lo : Int) ∨ (hi : Int) < (tkV T len p : Int)) by omega), if_neg (by decide), if_pos (decide_eq_true ⟨q1'.1, q2⟩)]
      · rw [if_pos (show ((tkV T len p : Int) < (lo : Int) ∨ (hi : Int) < (tkV T len p : Int)) by omega), if_pos (by decide), if_neg (fun w => q2 (of_decide_eq_true w).2)]
    · rw [if_neg q1, if_neg (fun w => by
        have w' := of_decide_eq_true w
        exact q1 (h0.mpr ⟨w'.1, by omega⟩))]
  rw [hk]
  by_cases hr : rnB T len lo hi p = true
  · rw [if_pos hr, hr]
    exact ⟨τ, rfl, a2, fun _ => a5 (h0.mpr ⟨(of_decide_eq_true hr).1, by have := (of_decide_eq_true hr).2; omega⟩), fun h => absurd h (by decide), a6⟩
  · have hr' : rnB T len lo hi p = false := Bool.eq_false_iff.mpr hr
    rw [if_neg hr, hr']
    exact ⟨_, rfl, by rw [mset_j _ _ _ _ (by decide), a2], fun h => absurd h (by decide), fun _ => by rw [mset_eq, a3], frN_trans a6 (frN_set (by omega))⟩
theorem endX' {ν : wd_Mem} {p : Nat} (hp : p ≤ len) (ht : txX ν T len) (hpl : ν 1 2 = zI (p : Nat)) : ∃ τ : wd_Mem, X5_readItemEnd ν = some (bI (decide (tkK T len p = 59)), τ) ∧ τ 1 2 = zI (tkN T len p : Nat) ∧ τ 1 4 = zI (tkP T len p : Nat) ∧ fr1 ν τ := by
  obtain ⟨τ, a1, a2, a3, a4, a5, a6⟩ := nextX hp ht hpl
  have rg := tkK_rng (p := p) (fun k hk => (ht.2.2 k hk).2)
  unfold X5_readItemEnd X5_readItemEnd_b0
  rw [a1]
  simp only [Option.bind_some]
  refine ⟨τ, ?_, a2, a3, a6⟩
  rw [a4, show (59 : Int32) = zI 59 from zI_lit 59, zl_eq (zR_small (by omega) (by omega)) (zR_small (by omega) (by omega))]
  by_cases q1 : tkK T len p = 59
  · rw [if_pos q1, decide_eq_true q1]; rfl
  · rw [if_neg q1, decide_eq_false q1]; rfl
theorem endM' {ν : wd_Mem} {p : Nat} (hp : p ≤ len) (ht : txM ν T len) (hpl : ν 31 12 = zI (p : Nat)) : ∃ τ : wd_Mem, X8_ends ν = some (bI (decide (tkK T len p = 59)), τ) ∧ τ 31 12 = zI (tkN T len p : Nat) ∧ (¬ tkK T len p = 59 → τ 31 16 = zI (tkP T len p : Nat)) ∧ frN ν τ := by
  obtain ⟨τ, a1, a2, a3, a4, a5, a6⟩ := nextM hp ht hpl
  have rg := mK_rng (p := p) (fun k hk => (ht.2.2 k hk).2)
  have hc : mK T len p = 59 ↔ tkK T len p = 59 := mK_c (T := T) (len := len) (p := p) (x := 59) (by omega)
  unfold X8_ends X8_ends_b0 X8_ends_b20 X8_fails X8_fails_b0
  rw [a1]
  simp only [Option.bind_some, if_true]
  rw [a4, show (59 : Int32) = zI 59 from zI_lit 59, zl_eq (zR_small (by omega) (by omega)) (zR_small (by omega) (by omega))]
  by_cases q1 : tkK T len p = 59
  · rw [if_pos (hc.mpr q1), decide_eq_true q1]
    exact ⟨τ, rfl, a2, fun h => absurd q1 h, a6⟩
  · rw [if_neg (fun w => q1 (hc.mp w)), decide_eq_false q1]
    exact ⟨_, rfl, by rw [mset_j _ _ _ _ (by decide), a2], fun _ => by rw [mset_eq, a3], frN_trans a6 (frN_set (by omega))⟩
end
