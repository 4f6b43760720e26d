/-! ===== the reference: all beginnings, up to a limit ===== -/
section
variable {n R : Nat} {e L D c : Nat → Nat} {U lim : Nat} {T A : Int} {K : Int32 → wd_Mem → Option (Int32 × wd_Mem)}
def lsM (R : Nat) (e L D c : Nat → Nat) (U : Nat) (T A : Int) (m i : Nat) (w b : Nat → Nat) (r x : Nat) : List (Nat → Nat) := enP (fun x => enL R e (lU L U) D c (qT T A) m (i + 1) (flN w x (D i) (c i)) (bset b i x)) (okS R D c (qT T A) w i) r x
def outM (n R : Nat) (e L D c : Nat → Nat) (U lim : Nat) (T A : Int) (K : Int32 → wd_Mem → Option (Int32 × wd_Mem)) (i : Nat) (w b : Nat → Nat) (cost k q : Nat) (ν : wd_Mem) (ls : List (Nat → Nat)) : Prop :=
  (k + ls.length < lim ∧ ∃ (q' : Nat) (τ : wd_Mem) (x' : Nat), q ≤ q' + cost ∧ lU L U i < x' + D i ∧ x' ≤ 17 ∧ stM τ n R e L D c i x' w b ∧ (∀ a, a ≠ 45 → a ≠ 46 → τ a = ν a) ∧ X8_schedules_l53 K (zI (lim : Nat)) (zI (U : Nat)) (zI T) (zI A) q (zI (k : Nat)) (zI (i : Nat)) ν = X8_schedules_l53 K (zI (lim : Nat)) (zI (U : Nat)) (zI T) (zI A) q' (zI ((k + ls.length : Nat) : Int)) (zI (i : Nat)) τ) ∨
  (lim ≤ k + ls.length ∧ ∃ (τ : wd_Mem) (b' : Nat → Nat), ls[lim - 1 - k]? = some b' ∧ (∀ j, j < n → τ 45 j = zI (b' j : Nat)) ∧ (∀ a, a ≠ 45 → a ≠ 46 → τ a = ν a) ∧ X8_schedules_l53 K (zI (lim : Nat)) (zI (U : Nat)) (zI T) (zI A) q (zI (k : Nat)) (zI (i : Nat)) ν = some (zI (lim : Nat), τ))
theorem coreM (hb : bdS n R e (lU L U) D c) (hL : ∀ i, i < n → L i ≤ 16) (hU : U ≤ 16) (hT : -9 ≤ T ∧ T ≤ 5) (hA : 0 ≤ A ∧ A ≤ 100) (hlim : 1 ≤ lim ∧ lim ≤ 9999) : ∀ (m r i x : Nat) (w b : Nat → Nat) (k q : Nat) (ν : wd_Mem), i + m + 1 = n → r = lU L U i + 1 - (x + D i) → x ≤ 17 → stM ν n R e L D c i x w b → (∀ t, w t ≤ R) → k < lim → r * (1 + gC m) < q → outM n R e L D c U lim T A K i w b (r * (1 + gC m)) k q ν (lsM R e L D c U T A m i w b r x) := by
  have hn := hb.1
  intro m
  induction m with
  | zero =>
    intro r
    induction r with
    | zero =>
      intro i x w b k q ν h1 h2 h3 hs hw hk hq
      refine Or.inl ⟨by show k + 0 < lim; omega, q, ν, x, by omega, by omega, h3, hs, fun _ _ _ => rfl, rfl⟩
    | succ r ihr =>
      intro i x w b k q ν h1 h2 h3 hs hw hk hq
      obtain ⟨q, rfl⟩ : ∃ a, q = a + 1 := ⟨q - 1, by omega⟩
      have y := hb.2.2 i (by omega)
      have hx : x + D i ≤ lU L U i := by omega
      have g0 : gC 0 = 0 := rfl
      have s1 := stM_at hs
      have cd := candM (K := K) (lim := lim) (k := k) (q := q) hb hL hU hT hA (show i < n by omega) hw hs hx
      have hl : lsM R e L D c U T A 0 i w b (r + 1) x = (if okS R D c (qT T A) w i x = true then [bset b i x] else []) ++ lsM R e L D c U T A 0 i w b r (x + 1) := rfl
      rw [hl]
      by_cases ho : okS R D c (qT T A) w i x = true
      · rw [if_pos ho] at cd ⊢
        have e31 : (mset ν 45 i (zI (x : Nat))) 31 0 - (1 : Int32) = zI (i : Nat) := by rw [s1.1.1, z_1, zI_sub]; congr 1; omega
        have ek : zI (k : Int) + (1 : Int32) = zI ((k + 1 : Nat) : Int) := by rw [z_1, zI_add]; rfl
        rw [e31, if_pos rfl, ek] at cd
        by_cases hk1 : k + 1 = lim
        · rw [if_pos (by rw [hk1])] at cd
          refine Or.inr ⟨by simp only [List.length_append, List.length_cons, List.length_nil]; omega, mset ν 45 i (zI (x : Nat)), bset b i x, ?_, fun j hj => ?_, fun a p q => mset_ne p, by rw [cd, hk1]⟩
          · rw [show lim - 1 - k = 0 by omega]; rfl
          · by_cases z : j = i
            · rw [z, mset_eq, bset_eq]
            · rw [s1.2.2.1 j (by omega), bset_ne z]
        · rw [if_neg (by rw [zI_eq (zR_small (by omega) (by omega)) (zR_small (by omega) (by omega))]; omega)] at cd
          have ih := ihr i (x + 1) w b (k + 1) q (mset ν 45 i (zI (x : Nat))) h1 (by omega) (by omega) s1 hw (by omega) (by rw [g0] at hq ⊢; omega)
          unfold outM at ih ⊢
          simp only [List.length_append, List.length_cons, List.length_nil, Nat.zero_add]
          rcases ih with ⟨i1, q', τ, x', i2, i3, i4, i5, i6, i7⟩ | ⟨i1, τ, b', i2, i3, i4, i5⟩
          · exact Or.inl ⟨by omega, q', τ, x', by rw [g0] at i2 ⊢; omega, i3, i4, i5, fun a p q => by rw [i6 a p q, mset_ne p], by rw [cd, i7, Nat.add_assoc]⟩
          · refine Or.inr ⟨by omega, τ, b', ?_, i3, fun a p q => by rw [i4 a p q, mset_ne p], by rw [cd, i5]⟩
            rw [show lim - 1 - k = (lim - 1 - (k + 1)) + 1 by omega]
            exact i2
      · rw [if_neg ho] at cd ⊢
        rw [List.nil_append]
        have ih := ihr i (x + 1) w b k q (mset ν 45 i (zI (x : Nat))) h1 (by omega) (by omega) s1 hw (by omega) (by rw [g0] at hq ⊢; omega)
        unfold outM at ih ⊢
        rcases ih with ⟨i1, q', τ, x', i2, i3, i4, i5, i6, i7⟩ | ⟨i1, τ, b', i2, i3, i4, i5⟩
        · exact Or.inl ⟨i1, q', τ, x', by rw [g0] at i2 ⊢; omega, i3, i4, i5, fun a p q => by rw [i6 a p q, mset_ne p], by rw [cd, i7]⟩
        · exact Or.inr ⟨i1, τ, b', i2, i3, fun a p q => by rw [i4 a p q, mset_ne p], by rw [cd, i5]⟩
  | succ m ihm =>
    intro r
    induction r with
    | zero =>
      intro i x w b k q ν h1 h2 h3 hs hw hk hq
      refine Or.inl ⟨by show k + 0 < lim; omega, q, ν, x, by omega, by omega, h3, hs, fun _ _ _ => rfl, rfl⟩
    | succ r ihr =>
      intro i x w b k q ν h1 h2 h3 hs hw hk hq
      obtain ⟨q, rfl⟩ : ∃ a, q = a + 1 := ⟨q - 1, by omega⟩
      have y := hb.2.2 i (by omega)
      have y1 := hb.2.2 (i + 1) (by omega)
      have hx : x + D i ≤ lU L U i := by omega
      have s1 := stM_at hs
      have cd := candM (K := K) (lim := lim) (k := k) (q := q) hb hL hU hT hA (show i < n by omega) hw hs hx
      have eM : (r + 1) * (1 + gC (m + 1)) = r * (1 + gC (m + 1)) + (1 + gC (m + 1)) := by rw [Nat.add_mul, Nat.one_mul]
      rw [eM] at hq ⊢
      obtain ⟨M, hM⟩ : ∃ M, M = r * (1 + gC (m + 1)) := ⟨_, rfl⟩
      have hl : lsM R e L D c U T A (m + 1) i w b (r + 1) x = (if okS R D c (qT T A) w i x = true then enL R e (lU L U) D c (qT T A) (m + 1) (i + 1) (flN w x (D i) (c i)) (bset b i x) else []) ++ lsM R e L D c U T A (m + 1) i w b r (x + 1) := rfl
      rw [hl]
      by_cases ho : okS R D c (qT T A) w i x = true
      · rw [if_pos ho] at cd ⊢
        have hf : ftB R w (c i) x (D i) = true := by
          unfold okS at ho
          rw [Bool.and_eq_true] at ho
          exact ho.2
        have e31 : (mset ν 45 i (zI (x : Nat))) 31 0 - (1 : Int32) = zI ((n : Int) - 1) := by rw [s1.1.1, z_1, zI_sub]
        have ei : zI (i : Int) + (1 : Int32) = zI ((i + 1 : Nat) : Int) := by rw [z_1, zI_add]; rfl
        have e0 : (0 : Int32) + zI ((i + 1 : Nat) : Int) = zI ((i + 1 : Nat) : Int) := by rw [z_0, zI_add]; congr 1; omega
        obtain ⟨τ1, a1, a2, a3⟩ := runUp hn y.2.2.2.1 s1.1 s1.2.1 (show i < n by omega) (mset_eq _ _ _ _) (show x + D i ≤ 16 by omega)
        have s2 := schM_congr (fun a p q => a3 a q) s1.1
        obtain ⟨c1, c2, c3, c4⟩ := s2.2.2 (i + 1) (by omega)
        rw [e31, if_neg (by rw [zI_eq (zR_small (by omega) (by omega)) (zR_small (by omega) (by omega))]; omega), a1] at cd
        simp only [Option.bind_some] at cd
        rw [ei, e0, wd_chk_in (by omega) (by omega) (by omega), wd_chk_in (by omega) (by omega) (by omega), zI_clN (by omega), c1, z_1, zI_sub] at cd
        have s3 : stM (mset τ1 45 (i + 1) (zI ((e (i + 1) : Nat) - 1))) n R e L D c (i + 1) (e (i + 1)) (flN w x (D i) (c i)) (bset b i x) := by
          refine ⟨schM_congr (fun a p q => mset_ne p) s2, fun t ht => by rw [mset_h _ _ _ _ (by decide)]; exact a2 t ht, fun j hj => ?_, by rw [mset_eq]⟩
          rw [mset_j _ _ _ _ (by omega), a3 45 (by decide)]
          by_cases z : j = i
          · rw [z, mset_eq, bset_eq]
          · rw [s1.2.2.1 j (by omega), bset_ne z]
        have hr0 : (lU L U (i + 1) + 1 - (e (i + 1) + D (i + 1))) * (1 + gC m) ≤ 17 * (1 + gC m) := Nat.mul_le_mul_right _ (by omega)
        have gm : gC (m + 1) = 17 * (1 + gC m) + 1 := rfl
        have sub := ihm (lU L U (i + 1) + 1 - (e (i + 1) + D (i + 1))) (i + 1) (e (i + 1)) (flN w x (D i) (c i)) (bset b i x) k q (mset τ1 45 (i + 1) (zI ((e (i + 1) : Nat) - 1))) (by omega) rfl (by omega) s3 (fl_R hw hf) hk (by omega)
        obtain ⟨ls0, hls0⟩ : ∃ ls, ls = enL R e (lU L U) D c (qT T A) (m + 1) (i + 1) (flN w x (D i) (c i)) (bset b i x) := ⟨_, rfl⟩
        have hls1 : lsM R e L D c U T A m (i + 1) (flN w x (D i) (c i)) (bset b i x) (lU L U (i + 1) + 1 - (e (i + 1) + D (i + 1))) (e (i + 1)) = ls0 := hls0.symm
        rw [hls1] at sub
        rw [← hls0]
        have fr1 : ∀ a, a ≠ 45 → a ≠ 46 → (mset τ1 45 (i + 1) (zI ((e (i + 1) : Nat) - 1))) a = ν a := fun a p q => by rw [mset_ne p, a3 a q, mset_ne p]
        rcases sub with ⟨i1, q', τ, x', i2, i3, i4, i5, i6, i7⟩ | ⟨i1, τ, b', i2, i3, i4, i5⟩
        · obtain ⟨q', rfl⟩ : ∃ a, q' = a + 1 := ⟨q' - 1, by omega⟩
          obtain ⟨τ2, j1, j2, j3⟩ := exitM (K := K) (lim := lim) (T := T) (A := A) (k := k + ls0.length) (q := q') hb hL hU (show i + 1 < n by omega) i4 i5 bset_eq (show x + D i ≤ 16 by omega) i3
          have s4 : stM τ2 n R e L D c i (x + 1) w b := ⟨j2.1, j2.2.1, fun j hj => by rw [j2.2.2.1 j hj, bset_ne (by omega)], j2.2.2.2⟩
          have ih := ihr i (x + 1) w b (k + ls0.length) q' τ2 h1 (by omega) (by omega) s4 hw i1 (by rw [← hM] at hq ⊢; omega)
          rw [← hM] at ih ⊢
          unfold outM at ih ⊢
          simp only [List.length_append]
          have fr2 : ∀ a, a ≠ 45 → a ≠ 46 → τ2 a = ν a := fun a p q => by rw [j3 a p q, i6 a p q, fr1 a p q]
          rcases ih with ⟨k1, q'', τ3, x'', k2, k3, k4, k5, k6, k7⟩ | ⟨k1, τ3, b', k2, k3, k4, k5⟩
          · exact Or.inl ⟨by omega, q'', τ3, x'', by omega, k3, k4, k5, fun a p q => by rw [k6 a p q, fr2 a p q], by rw [cd, i7, j1, k7, Nat.add_assoc]⟩
          · refine Or.inr ⟨by omega, τ3, b', ?_, k3, fun a p q => by rw [k4 a p q, fr2 a p q], by rw [cd, i7, j1, k5]⟩
            rw [List.getElem?_append_right (by omega), show lim - 1 - k - ls0.length = lim - 1 - (k + ls0.length) by omega]
            exact k2
        · rw [← hM]
          unfold outM
          simp only [List.length_append]
          refine Or.inr ⟨by omega, τ, b', ?_, i3, fun a p q => by rw [i4 a p q, fr1 a p q], by rw [cd, i5]⟩
          rw [List.getElem?_append_left (by omega)]
          exact i2
      · rw [if_neg ho] at cd ⊢
        rw [List.nil_append]
        have ih := ihr i (x + 1) w b k q (mset ν 45 i (zI (x : Nat))) h1 (by omega) (by omega) s1 hw (by omega) (by rw [← hM] at hq ⊢; omega)
        rw [← hM] at ih ⊢
        unfold outM at ih ⊢
        rcases ih with ⟨i1, q', τ, x', i2, i3, i4, i5, i6, i7⟩ | ⟨i1, τ, b', i2, i3, i4, i5⟩
        · exact Or.inl ⟨i1, q', τ, x', by omega, i3, i4, i5, fun a p q => by rw [i6 a p q, mset_ne p], by rw [cd, i7]⟩
        · exact Or.inr ⟨i1, τ, b', i2, i3, fun a p q => by rw [i4 a p q, mset_ne p], by rw [cd, i5]⟩
theorem gC_bd {m : Nat} (h : m ≤ 4) : gC m ≤ 2000000 := by
  rcases (show m = 0 ∨ m = 1 ∨ m = 2 ∨ m = 3 ∨ m = 4 by omega) with rfl | rfl | rfl | rfl | rfl <;> decide
theorem schedM {ν : wd_Mem} (hb : bdS n R e (lU L U) D c) (hL : ∀ i, i < n → L i ≤ 16) (hU : U ≤ 16) (hT : -9 ≤ T ∧ T ≤ 5) (hA : 0 ≤ A ∧ A ≤ 100) (hlim : 1 ≤ lim ∧ lim ≤ 9999) (hs : schM ν n R e L D c) : ∃ τ : wd_Mem, X8_schedules ν (zI (lim : Nat)) (zI (U : Nat)) (zI T) (zI A) = some (zI ((min lim (aL n R e (lU L U) D c (qT T A)).length : Nat) : Int), τ) ∧ (∀ b', (aL n R e (lU L U) D c (qT T A))[lim - 1]? = some b' → ∀ j, j < n → τ 45 j = zI (b' j : Nat)) ∧ ∀ a, a ≠ 45 → a ≠ 46 → τ a = ν a := by
  have hn := hb.1
  have key : ∃ ρ : wd_Mem, ((∀ t, t < 16 → ρ 46 t = zI ((0 : Nat) : Int)) ∧ ∀ a, a ≠ 46 → ρ a = ν a) ∧ X8_schedules_l3 (fun μ => X8_schedules_b24 μ (zI (lim : Nat)) (zI (U : Nat)) (zI T) (zI A)) (zI (lim : Nat)) (zI (U : Nat)) (zI T) (zI A) wd_big (zI ((0 : Nat) : Int)) ν = X8_schedules_b24 ρ (zI (lim : Nat)) (zI (U : Nat)) (zI T) (zI A) := by
    refine wd_for0 (fun q j m => X8_schedules_l3 (fun μ => X8_schedules_b24 μ (zI (lim : Nat)) (zI (U : Nat)) (zI T) (zI A)) (zI (lim : Nat)) (zI (U : Nat)) (zI T) (zI A) q (zI (j : Nat)) m) (fun m => X8_schedules_b24 m (zI (lim : Nat)) (zI (U : Nat)) (zI T) (zI A)) (fun j ρ => (∀ t, t < j → ρ 46 t = zI ((0 : Nat) : Int)) ∧ ∀ a, a ≠ 46 → ρ a = ν a) 16 ν (by omega) ⟨fun t ht => by omega, fun _ _ => rfl⟩ (fun j m q hj hI => ?_) (fun m q hI => ?_)
    · refine ⟨mset m 46 j 0, ⟨fun t ht => ?_, fun a ha => by rw [mset_ne ha]; exact hI.2 a ha⟩, ?_⟩
      · by_cases z : t = j
        · rw [z, mset_eq]; rfl
        · rw [mset_j _ _ _ _ z]; exact hI.1 t (by omega)
      · show X8_schedules_c3 _ _ m _ _ _ _ (zI (j : Nat)) = _
        have e1 : zI (j : Int) + (1 : Int32) = zI ((j + 1 : Nat) : Int) := by rw [z_1, zI_add]; rfl
        unfold X8_schedules_c3
        rw [z_16, if_neg (by rw [zI_le (zR_small (by omega) (by omega)) (zR_small (by omega) (by omega))]; omega), wd_chk_in (by omega) (by omega) (by omega), zI_clN (by omega), e1]
    · show X8_schedules_c3 _ _ m _ _ _ _ (zI 16) = _
      unfold X8_schedules_c3
      rw [if_pos (by rw [z_16]; exact Int32.le_refl _)]
  obtain ⟨ρ, ⟨r1, r2⟩, r3⟩ := key
  have r3' : X8_schedules ν (zI (lim : Nat)) (zI (U : Nat)) (zI T) (zI A) = X8_schedules_b24 ρ (zI (lim : Nat)) (zI (U : Nat)) (zI T) (zI A) := r3
  rw [r3']
  have hsρ := schM_congr (fun a p q => r2 a q) hs
  unfold X8_schedules_b24
  by_cases h0 : n = 0
  · rw [hsρ.1, if_pos (by rw [h0]; rfl)]
    have hal : aL n R e (lU L U) D c (qT T A) = [fun _ => 0] := by subst h0; rfl
    refine ⟨ρ, ?_, fun b' _ j hj => by omega, fun a p q => r2 a q⟩
    rw [hal, z_1]
    congr 3
    show ((1 : Int)) = ((min lim 1 : Nat) : Int)
    omega
  · have y := hb.2.2 0 (by omega)
    obtain ⟨c1, c2, c3, c4⟩ := hsρ.2.2 0 (by omega)
    rw [hsρ.1, if_neg (by rw [z_0, zI_eq (zR_small (by omega) (by omega)) (zR_small (by omega) (by omega))]; omega), z_0, wd_chk_in (by omega) (by omega) (by omega), wd_chk_in (by omega) (by omega) (by omega), zI_cl (by omega) (by omega), show ((0 : Int)).toNat = 0 from rfl, c1, z_1, zI_sub]
    obtain ⟨ν0, hν0⟩ : ∃ m, m = mset ρ 45 0 (zI ((e 0 : Nat) - 1)) := ⟨_, rfl⟩
    rw [← hν0]
    have fr0 : ∀ a, a ≠ 45 → a ≠ 46 → ν0 a = ν a := fun a p q => by rw [hν0, mset_ne p, r2 a q]
    have s0 : stM ν0 n R e L D c 0 (e 0) (fun _ => 0) (fun _ => 0) := ⟨schM_congr fr0 hs, fun t ht => by rw [hν0, mset_h _ _ _ _ (by decide)]; exact r1 t ht, fun j hj => by omega, by rw [hν0, mset_eq]⟩
    have hg := gC_bd (m := n - 1) (by omega)
    have hr0 : (lU L U 0 + 1 - (e 0 + D 0)) * (1 + gC (n - 1)) ≤ 17 * (1 + gC (n - 1)) := Nat.mul_le_mul_right _ (by omega)
    have hbig : wd_big = 1000000000000 := rfl
    have cr := coreM (K := fun x5 μ => X8_schedules_b216 μ x5) hb hL hU hT hA hlim (n - 1) (lU L U 0 + 1 - (e 0 + D 0)) 0 (e 0) (fun _ => 0) (fun _ => 0) 0 wd_big ν0 (by omega) rfl (by omega) s0 (fun _ => Nat.zero_le _) (by omega) (by omega)
    have hls : lsM R e L D c U T A (n - 1) 0 (fun _ => 0) (fun _ => 0) (lU L U 0 + 1 - (e 0 + D 0)) (e 0) = aL n R e (lU L U) D c (qT T A) := by
      unfold aL
      rw [show enL R e (lU L U) D c (qT T A) n = enL R e (lU L U) D c (qT T A) ((n - 1) + 1) by rw [show n - 1 + 1 = n by omega]]
      rfl
    rw [hls] at cr
    obtain ⟨Ls, hLs⟩ : ∃ ls, ls = aL n R e (lU L U) D c (qT T A) := ⟨_, rfl⟩
    rw [← hLs] at cr ⊢
    unfold outM at cr
    have zz : zI (0 : Int) = zI ((0 : Nat) : Int) := rfl
    rw [zz]
    rcases cr with ⟨i1, q', τ, x', i2, i3, i4, i5, i6, i7⟩ | ⟨i1, τ, b', i2, i3, i4, i5⟩
    · obtain ⟨q', rfl⟩ : ∃ a, q' = a + 2 := ⟨q' - 2, by omega⟩
      refine ⟨mset τ 45 0 (zI (x' : Nat)), ?_, fun b' hb' => ?_, fun a p q => by rw [mset_ne p, i6 a p q, fr0 a p q]⟩
      · rw [i7, iterM (q := q' + 1) hb hL hU (show 0 < n by omega) i5]
        have s1 := stM_at i5
        obtain ⟨d1, d2, d3, d4⟩ := s1.1.2.2 0 (by omega)
        have g45 := mset_eq τ 45 0 (zI (x' : Nat))
        unfold X8_schedules_b95
        rw [wd_chk_in (by omega) (by omega) (by omega), zI_clN (by omega), g45, d3, zI_add, if_neg (by rw [zI_le (zR_small (by omega) (by omega)) (zR_small (by omega) (by omega))]; omega), if_pos (by decide)]
        unfold X8_schedules_b213
        show X8_schedules_c53 _ _ _ _ _ _ _ _ _ = _
        unfold X8_schedules_c53 X8_schedules_b216
        rw [if_pos (by decide)]
        congr 3
        omega
      · have := List.getElem?_eq_some_iff.mp hb'
        obtain ⟨h1, -⟩ := this
        omega
    · refine ⟨τ, ?_, fun b'' hb'' j hj => ?_, fun a p q => by rw [i4 a p q, fr0 a p q]⟩
      · rw [i5]
        congr 3
        omega
      · rw [Nat.sub_zero] at i2
        rw [i2] at hb''
        cases hb''
        exact i3 j hj
end
