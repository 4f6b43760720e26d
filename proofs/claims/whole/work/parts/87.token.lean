/-! ===== tokens ===== -/
def skF (T : Nat → Nat) (len : Nat) : Nat → Nat → Nat
  | 0, p => p
  | f + 1, p => if p < len ∧ T p = 32 then skF T len f (p + 1) else p
def nuF (T : Nat → Nat) (len : Nat) : Nat → Nat → Nat → Nat × Nat
  | 0, p, v => (p, v)
  | f + 1, p, v => if p < len ∧ (48 ≤ T p ∧ T p ≤ 57) then nuF T len f (p + 1) (min 100 (v * 10 + (T p - 48))) else (p, v)
def tkP (T : Nat → Nat) (len p : Nat) : Nat := skF T len (len - p) p
def tkE (T : Nat → Nat) (len p : Nat) : Nat × Nat := nuF T len (len - tkP T len p) (tkP T len p) 0
def dgP (x : Nat) : Prop := 48 ≤ x ∧ x ≤ 57
def tkN (T : Nat → Nat) (len p : Nat) : Nat := if len ≤ tkP T len p then tkP T len p else if 48 ≤ T (tkP T len p) ∧ T (tkP T len p) ≤ 57 then (tkE T len p).1 else tkP T len p + 1
def tkV (T : Nat → Nat) (len p : Nat) : Nat := (tkE T len p).2
def tkK (T : Nat → Nat) (len p : Nat) : Int := if len ≤ tkP T len p then -1 else if 48 ≤ T (tkP T len p) ∧ T (tkP T len p) ≤ 57 then (if T (tkP T len p) = 48 ∧ 1 < (tkE T len p).1 - tkP T len p then -1 else -2) else (T (tkP T len p) : Int)
section
variable {T : Nat → Nat} {len : Nat}
theorem sk_bd : ∀ (f p : Nat), p ≤ len → p ≤ skF T len f p ∧ skF T len f p ≤ len
  | 0, p, h => ⟨Nat.le_refl _, h⟩
  | f + 1, p, h => by
    simp only [skF]
    split
    · rename_i q
      have := sk_bd f (p + 1) (by omega)
      omega
    · omega
theorem nu_bd : ∀ (f p v : Nat), p ≤ len → v ≤ 100 → p ≤ (nuF T len f p v).1 ∧ (nuF T len f p v).1 ≤ len ∧ (nuF T len f p v).2 ≤ 100
  | 0, p, v, h, hv => ⟨Nat.le_refl _, h, hv⟩
  | f + 1, p, v, h, hv => by
    simp only [nuF]
    split
    · rename_i q
      have := nu_bd f (p + 1) (min 100 (v * 10 + (T p - 48))) (by omega) (Nat.min_le_left _ _)
      omega
    · exact ⟨Nat.le_refl _, h, hv⟩
theorem tk_bd {p : Nat} (h : p ≤ len) : p ≤ tkP T len p ∧ tkP T len p ≤ len ∧ tkP T len p ≤ tkN T len p ∧ tkN T len p ≤ len ∧ (tkP T len p < len → tkP T len p < tkN T len p) ∧ tkV T len p ≤ 100 := by
  have h1 := sk_bd (T := T) (len - p) p h
  have h2 := nu_bd (T := T) (len - tkP T len p) (tkP T len p) 0 h1.2 (by omega)
  have h3 : tkE T len p = nuF T len (len - tkP T len p) (tkP T len p) 0 := rfl
  rw [← h3] at h2
  have h1' : p ≤ tkP T len p ∧ tkP T len p ≤ len := h1
  refine ⟨h1'.1, h1'.2, ?_, ?_, ?_, h2.2.2⟩
  · unfold tkN
    split
    · exact Nat.le_refl _
    · split
      · exact h2.1
      · omega
  · unfold tkN
    split
    · exact h1'.2
    · split
      · exact h2.2.1
      · omega
  · intro hlt
    unfold tkN
    rw [if_neg (by omega)]
    split
    · rename_i q
      rw [h3]
      obtain ⟨f, hf⟩ : ∃ f, len - tkP T len p = f + 1 := ⟨len - tkP T len p - 1, by omega⟩
      rw [hf]
      simp only [nuF]
      rw [if_pos ⟨hlt, q⟩]
      have := nu_bd (T := T) (len := len) f (tkP T len p + 1) (min 100 (0 * 10 + (T (tkP T len p) - 48))) (by omega) (Nat.min_le_left _ _)
      omega
    · omega
def txX (ν : wd_Mem) (T : Nat → Nat) (len : Nat) : Prop := len ≤ 100 ∧ ν 1 1 = zI (len : Nat) ∧ ∀ k, k < len → ν 2 k = zI (T k : Nat) ∧ T k ≤ 255
def txM (ν : wd_Mem) (T : Nat → Nat) (len : Nat) : Prop := len ≤ 100 ∧ ν 31 10 = zI (len : Nat) ∧ ∀ k, k < len → ν 38 k = zI (T k : Nat) ∧ T k ≤ 255
def fr1 (ν τ : wd_Mem) : Prop := τ 1 1 = ν 1 1 ∧ ∀ a, a ≠ 1 → τ a = ν a
theorem fr1_trans {a b c : wd_Mem} (h : fr1 a b) (k : fr1 b c) : fr1 a c := ⟨by rw [k.1, h.1], fun x hx => by rw [k.2 x hx, h.2 x hx]⟩
theorem fr1_refl {a : wd_Mem} : fr1 a a := ⟨rfl, fun _ _ => rfl⟩
theorem fr1_set {a : wd_Mem} {j : Nat} {x : Int32} (h : j ≠ 1) : fr1 a (mset a 1 j x) := ⟨mset_j _ _ _ _ (fun w => h w.symm), fun _ hx => mset_ne hx⟩
theorem txX_f {ν τ : wd_Mem} (f : fr1 ν τ) (h : txX ν T len) : txX τ T len := by
  unfold txX
  rw [f.1, f.2 2 (by decide)]
  exact h
def frN (ν τ : wd_Mem) : Prop := (∀ j, ¬ (12 ≤ j ∧ j ≤ 16) → τ 31 j = ν 31 j) ∧ ∀ a, a ≠ 31 → τ a = ν a
theorem frN_trans {a b c : wd_Mem} (h : frN a b) (k : frN b c) : frN a c := ⟨fun j hj => by rw [k.1 j hj, h.1 j hj], fun x hx => by rw [k.2 x hx, h.2 x hx]⟩
theorem frN_refl {a : wd_Mem} : frN a a := ⟨fun _ _ => rfl, fun _ _ => rfl⟩
theorem frN_set {a : wd_Mem} {j : Nat} {x : Int32} (h : 12 ≤ j ∧ j ≤ 16) : frN a (mset a 31 j x) := ⟨fun k hk => mset_j _ _ _ _ (by omega), fun _ hx => mset_ne hx⟩
theorem txM_f {ν τ : wd_Mem} (f : frN ν τ) (h : txM ν T len) : txM τ T len := by
  unfold txM
  rw [f.1 10 (by omega), f.2 38 (by decide)]
  exact h
theorem z48 : (48 : Int32) = zI 48 := zI_lit 48
theorem z57 : (57 : Int32) = zI 57 := zI_lit 57
theorem z32 : (32 : Int32) = zI 32 := zI_lit 32
theorem digX {μ : wd_Mem} {x : Nat} (h : x ≤ 255) : X5_isDigit μ (zI (x : Nat)) = bI (decide (48 ≤ x ∧ x ≤ 57)) := by
  unfold X5_isDigit X5_isDigit_b0 X5_isDigit_b16
  rw [z48, z57, zl_lt (zR_small (by omega) (by omega)) (zR_small (by omega) (by omega)), zl_lt (zR_small (by omega) (by omega)) (zR_small (by omega) (by omega))]
  by_cases q : 48 ≤ x ∧ x ≤ 57
  · rw [if_neg (by omega), if_neg (by omega), decide_eq_true q]; rfl
  · rw [decide_eq_false q]
    by_cases q2 : x < 48
    · rw [if_pos (by omega)]; rfl
    · rw [if_neg (by omega), if_pos (by omega)]; rfl
theorem skX (K : wd_Mem → Option wd_Mem) : ∀ (f p q : Nat) (ν : wd_Mem), len - p ≤ f → p ≤ len → f < q → txX ν T len → ν 1 2 = zI (p : Nat) → ∃ τ : wd_Mem, X5_nextToken_l0 K q ν = K τ ∧ τ 1 2 = zI (skF T len f p : Nat) ∧ fr1 ν τ := by
  have stop : ∀ (p q : Nat) (ν : wd_Mem), p ≤ len → txX ν T len → ν 1 2 = zI (p : Nat) → ¬ (p < len ∧ T p = 32) → X5_nextToken_l0 K (q + 1) ν = K ν := by
    intro p q ν hp ht h2 hno
    show X5_nextToken_c0 _ _ ν = _
    unfold X5_nextToken_c0
    obtain ⟨t1, t2, t3⟩ := ht
    rw [t2, h2]
    by_cases q1 : len ≤ p
    · rw [if_pos (by rw [zI_le (zR_small (by omega) (by omega)) (zR_small (by omega) (by omega))]; omega)]
    · obtain ⟨u1, u2⟩ := t3 p (by omega)
      rw [if_neg (by rw [zI_le (zR_small (by omega) (by omega)) (zR_small (by omega) (by omega))]; omega), wd_chk_in (by omega) (by omega) (by omega), zI_clN (by omega), u1, z32, if_neg (by rw [zI_eq (zR_small (by omega) (by omega)) (zR_small (by omega) (by omega))]; omega)]
  intro f
  induction f with
  | zero =>
    intro p q ν h1 hp h2 ht hpl
    obtain ⟨q, rfl⟩ : ∃ a, q = a + 1 := ⟨q - 1, by omega⟩
    exact ⟨ν, stop p q ν hp ht hpl (by omega), hpl, fr1_refl⟩
  | succ f ih =>
    intro p q ν h1 hp h2 ht hpl
    obtain ⟨q, rfl⟩ : ∃ a, q = a + 1 := ⟨q - 1, by omega⟩
    simp only [skF]
    by_cases hb : p < len ∧ T p = 32
    · rw [if_pos hb]
      obtain ⟨t1, t2, t3⟩ := ht
      obtain ⟨u1, u2⟩ := t3 p hb.1
      have e1 : zI (p : Int) + (1 : Int32) = zI ((p + 1 : Nat) : Int) := by rw [z_1, zI_add]; rfl
      have hk : X5_nextToken_l0 K (q + 1) ν = X5_nextToken_l0 K q (mset ν 1 2 (zI ((p + 1 : Nat) : Int))) := by
        show X5_nextToken_c0 _ _ ν = _
        unfold X5_nextToken_c0
        rw [t2, hpl, if_neg (by rw [zI_le (zR_small (by omega) (by omega)) (zR_small (by omega) (by omega))]; omega), wd_chk_in (by omega) (by omega) (by omega), zI_clN (by omega), u1, z32, if_pos (by rw [hb.2]; rfl), e1]
      have fs : fr1 ν (mset ν 1 2 (zI ((p + 1 : Nat) : Int))) := fr1_set (by decide)
      obtain ⟨τ, k1, k2, k3⟩ := ih (p + 1) q (mset ν 1 2 (zI ((p + 1 : Nat) : Int))) (by omega) (by omega) (by omega) (txX_f fs ⟨t1, t2, t3⟩) (mset_eq _ _ _ _)
      exact ⟨τ, by rw [hk, k1], k2, fr1_trans fs k3⟩
    · rw [if_neg hb]
      exact ⟨ν, stop p q ν hp ht hpl hb, hpl, fr1_refl⟩
theorem nuX (K : wd_Mem → Option wd_Mem) : ∀ (f p q v : Nat) (ν : wd_Mem), len - p ≤ f → p ≤ len → f < q → v ≤ 100 → txX ν T len → ν 1 2 = zI (p : Nat) → ν 1 5 = zI (v : Nat) → ∃ τ : wd_Mem, X5_nextNumber_l5 K q ν = K τ ∧ τ 1 2 = zI ((nuF T len f p v).1 : Nat) ∧ τ 1 5 = zI ((nuF T len f p v).2 : Nat) ∧ τ 1 4 = ν 1 4 ∧ fr1 ν τ := by
  have stop : ∀ (p q : Nat) (ν : wd_Mem), p ≤ len → txX ν T len → ν 1 2 = zI (p : Nat) → ¬ (p < len ∧ (48 ≤ T p ∧ T p ≤ 57)) → X5_nextNumber_l5 K (q + 1) ν = K ν := by
    intro p q ν hp ht h2 hno
    show X5_nextNumber_c5 _ _ ν = _
    unfold X5_nextNumber_c5
    obtain ⟨t1, t2, t3⟩ := ht
    rw [t2, h2]
    by_cases q1 : len ≤ p
    · rw [if_pos (by rw [zI_le (zR_small (by omega) (by omega)) (zR_small (by omega) (by omega))]; omega)]
    · obtain ⟨u1, u2⟩ := t3 p (by omega)
      rw [if_neg (by rw [zI_le (zR_small (by omega) (by omega)) (zR_small (by omega) (by omega))]; omega), wd_chk_in (by omega) (by omega) (by omega), zI_clN (by omega), u1, digX u2, decide_eq_false (fun w => hno ⟨by omega, w⟩), if_pos (by decide)]
  intro f
  induction f with
  | zero =>
    intro p q v ν h1 hp h2 hv ht hpl hvl
    obtain ⟨q, rfl⟩ : ∃ a, q = a + 1 := ⟨q - 1, by omega⟩
    exact ⟨ν, stop p q ν hp ht hpl (by omega), hpl, hvl, rfl, fr1_refl⟩
  | succ f ih =>
    intro p q v ν h1 hp h2 hv ht hpl hvl
    obtain ⟨q, rfl⟩ : ∃ a, q = a + 1 := ⟨q - 1, by omega⟩
    simp only [nuF]
    by_cases hb : p < len ∧ (48 ≤ T p ∧ T p ≤ 57)
    · rw [if_pos hb]
      obtain ⟨t1, t2, t3⟩ := ht
      obtain ⟨u1, u2⟩ := t3 p hb.1
      have e1 : zI (p : Int) + (1 : Int32) = zI ((p + 1 : Nat) : Int) := by rw [z_1, zI_add]; rfl
      have hk : X5_nextNumber_l5 K (q + 1) ν = X5_nextNumber_l5 K q (mset (mset ν 1 5 (zI ((min 100 (v * 10 + (T p - 48)) : Nat) : Int))) 1 2 (zI ((p + 1 : Nat) : Int))) := by
        show X5_nextNumber_c5 _ _ ν = _
        unfold X5_nextNumber_c5
        rw [t2, hpl, if_neg (by rw [zI_le (zR_small (by omega) (by omega)) (zR_small (by omega) (by omega))]; omega), wd_chk_in (by omega) (by omega) (by omega), zI_clN (by omega), u1, digX u2, decide_eq_true hb.2, if_neg (by decide), e1, hvl, z_10, zI_mul, zI_add, z48, zI_sub, z_100]
        have hif : (if zI ((v : Int) * 10 + (T p : Int) - 48) < zI 100 then zI ((v : Int) * 10 + (T p : Int) - 48) else zI 100) = zI ((min 100 (v * 10 + (T p - 48)) : Nat) : Int) := by
          by_cases hs : v * 10 + (T p - 48) < 100
          · rw [if_pos (by rw [zI_lt (zR_small (by omega) (by omega)) (zR_small (by omega) (by omega))]; omega)]
            congr 1
            omega
          · rw [if_neg (by rw [zI_lt (zR_small (by omega) (by omega)) (zR_small (by omega) (by omega))]; omega)]
            congr 1
            omega
        rw [hif]
      have fs : fr1 ν (mset (mset ν 1 5 (zI ((min 100 (v * 10 + (T p - 48)) : Nat) : Int))) 1 2 (zI ((p + 1 : Nat) : Int))) := fr1_trans (fr1_set (by decide)) (fr1_set (by decide))
      obtain ⟨τ, k1, k2, k3, k4, k5⟩ := ih (p + 1) q (min 100 (v * 10 + (T p - 48))) (mset (mset ν 1 5 (zI ((min 100 (v * 10 + (T p - 48)) : Nat) : Int))) 1 2 (zI ((p + 1 : Nat) : Int))) (by omega) (by omega) (by omega) (Nat.min_le_left _ _) (txX_f fs ⟨t1, t2, t3⟩) (mset_eq _ _ _ _) (by rw [mset_j _ _ _ _ (by decide), mset_eq])
      exact ⟨τ, by rw [hk, k1], k2, k3, by rw [k4, mset_j _ _ _ _ (by decide), mset_j _ _ _ _ (by decide)], fr1_trans fs k5⟩
    · rw [if_neg hb]
      exact ⟨ν, stop p q ν hp ht hpl hb, hpl, hvl, rfl, fr1_refl⟩
theorem nextX {ν : wd_Mem} {p : Nat} (hp : p ≤ len) (ht : txX ν T len) (hpl : ν 1 2 = zI (p : Nat)) : ∃ τ : wd_Mem, X5_nextToken ν = some τ ∧ τ 1 2 = zI (tkN T len p : Nat) ∧ τ 1 4 = zI (tkP T len p : Nat) ∧ τ 1 3 = zI (tkK T len p) ∧ (tkK T len p = -2 → τ 1 5 = zI (tkV T len p : Nat)) ∧ fr1 ν τ := by
  obtain ⟨τ, a1, a2, a3⟩ := skX (fun μ => X5_nextToken_b38 μ) (len - p) p wd_big ν (Nat.le_refl _) hp (by have := ht.1; unfold wd_big; omega) ht hpl
  have a2' : τ 1 2 = zI (tkP T len p : Nat) := a2
  have ht1 := txX_f a3 ht
  have bd := tk_bd (T := T) hp
  have e0 : X5_nextToken ν = X5_nextToken_b38 τ := a1
  rw [e0]
  unfold X5_nextToken_b38
  obtain ⟨t1, t2, t3⟩ := ht1
  obtain ⟨P, hP⟩ : ∃ P, P = tkP T len p := ⟨_, rfl⟩
  unfold tkN tkK
  rw [← hP] at bd a2' ⊢
  rw [t2, a2']
  by_cases q1 : len ≤ P
  · rw [if_neg (by rw [zI_lt (zR_small (by omega) (by omega)) (zR_small (by omega) (by omega))]; omega), if_pos q1, if_pos q1]
    refine ⟨_, rfl, ?_, ?_, ?_, fun h => by omega, fr1_trans a3 (fr1_trans (fr1_set (by decide)) (fr1_set (by decide)))⟩
    · rw [mset_j _ _ _ _ (by decide), mset_j _ _ _ _ (by decide), a2']
    · rw [mset_j _ _ _ _ (by decide), mset_eq]
    · rw [mset_eq]; rfl
  · obtain ⟨u1, u2⟩ := t3 P (by omega)
    rw [if_pos (by rw [zI_lt (zR_small (by omega) (by omega)) (zR_small (by omega) (by omega))]; omega), if_neg q1, if_neg q1, wd_chk_in (by omega) (by omega) (by omega), zI_clN (by omega), u1, digX u2]
    by_cases q2 : 48 ≤ T P ∧ T P ≤ 57
    · rw [decide_eq_true q2, if_neg (by decide), if_pos q2, if_pos q2]
      have f1 : fr1 τ (mset (mset τ 1 4 (zI (P : Nat))) 1 3 (-1)) := fr1_trans (fr1_set (by decide)) (fr1_set (by decide))
      have f2 : fr1 τ (mset (mset (mset τ 1 4 (zI (P : Nat))) 1 3 (-1)) 1 5 0) := fr1_trans f1 (fr1_set (by decide))
      obtain ⟨σ, b1, b2, b3, b4, b5⟩ := nuX (T := T) (fun μ => X5_nextNumber_b73 μ) (len - P) P wd_big 0 (mset (mset (mset τ 1 4 (zI (P : Nat))) 1 3 (-1)) 1 5 0) (Nat.le_refl _) (by omega) (by unfold wd_big; omega) (by omega) (txX_f f2 ⟨t1, t2, t3⟩) (by rw [mset_j _ _ _ _ (by decide), mset_j _ _ _ _ (by decide), mset_j _ _ _ _ (by decide), a2']) (by rw [mset_eq]; rfl)
      have b4' : σ 1 4 = zI (P : Nat) := by rw [b4, mset_j _ _ _ _ (by decide), mset_j _ _ _ _ (by decide), mset_eq]
      have fσ := fr1_trans f2 b5
      have e1 : X5_nextNumber (mset (mset τ 1 4 (zI (P : Nat))) 1 3 (-1)) = X5_nextNumber_b73 σ := b1
      have hE : tkE T len p = nuF T len (len - P) P 0 := by unfold tkE; rw [← hP]
      unfold tkV
      rw [hE]
      obtain ⟨Q, hQ⟩ : ∃ Q, Q = (nuF T len (len - P) P 0).1 := ⟨_, rfl⟩
      rw [← hQ] at b2 ⊢
      have hQb := nu_bd (T := T) (len - P) P 0 (show P ≤ len by omega) (by omega)
      rw [← hQ] at hQb
      rw [e1]
      unfold X5_nextNumber_b73 X5_nextNumber_b104 X5_nextNumber_b105 X5_nextNumber_b117
      rw [b4', b2, wd_chk_in (by omega) (by omega) (by omega), zI_clN (by omega), fσ.2 2 (by decide), u1, z48, zI_sub, z_1]
      by_cases q3 : T P = 48 ∧ 1 < Q - P
      · rw [if_pos (by rw [q3.1]; rfl), if_neg (by rw [zI_le (zR_small (by omega) (by omega)) (zR_small (by omega) (by omega))]; omega), if_neg (by decide), if_pos q3]
        refine ⟨_, rfl, by rw [mset_j _ _ _ _ (by decide), b2], by rw [mset_j _ _ _ _ (by decide), b4'], by rw [mset_eq]; rfl, fun h => by omega, fr1_trans a3 (fr1_trans fσ (fr1_set (by decide)))⟩
      · rw [if_neg q3]
        refine ⟨mset σ 1 3 (-2), ?_, by rw [mset_j _ _ _ _ (by decide), b2], by rw [mset_j _ _ _ _ (by decide), b4'], by rw [mset_eq]; rfl, fun _ => by rw [mset_j _ _ _ _ (by decide), b3], fr1_trans a3 (fr1_trans fσ (fr1_set (by decide)))⟩
        by_cases q4 : T P = 48
        · rw [if_pos (by rw [q4]; rfl), if_pos (by rw [zI_le (zR_small (by omega) (by omega)) (zR_small (by omega) (by omega))]; omega)]
          rfl
        · rw [if_neg (by rw [zI_eq (zR_small (by omega) (by omega)) (zR_small (by omega) (by omega))]; omega)]
          rfl
    · rw [decide_eq_false q2, if_pos (by decide), if_neg q2, if_neg q2]
      have e1 : zI (P : Int) + (1 : Int32) = zI ((P + 1 : Nat) : Int) := by rw [z_1, zI_add]; rfl
      refine ⟨_, rfl, by rw [mset_eq, e1], ?_, ?_, fun h => by omega, fr1_trans a3 (fr1_trans (fr1_trans (fr1_trans (fr1_set (by decide)) (fr1_set (by decide))) (fr1_set (by decide))) (fr1_set (by decide)))⟩
      · rw [mset_j _ _ _ _ (by decide), mset_j _ _ _ _ (by decide), mset_j _ _ _ _ (by decide), mset_eq]
      · rw [mset_j _ _ _ _ (by decide), mset_eq]
end
