/-! ===== EDGE ===== -/
theorem n_or_bit : ∀ i, i < 5 → ∀ S, S < 32 → ∀ j, j < 5 → (S ||| 2 ^ i).testBit j = (S.testBit j || decide (j = i)) := by decide +kernel
theorem mnF_or {e : Nat → Int} {b : Int} {S i : Nat} (hi : i < 5) (hS : S < 32) : ∀ k, k ≤ 5 → mnF e b k (S ||| 2 ^ i) = if i < k then min (mnF e b k S) (e i) else mnF e b k S
  | 0, _ => by rw [if_neg (by omega)]; rfl
  | k + 1, hk => by
    have ih := mnF_or (e := e) (b := b) hi hS k (by omega)
    simp only [mnF]
    rw [n_or_bit i hi S hS k (by omega), ih]
    by_cases hki : k = i
    · subst hki
      rw [if_neg (show ¬ k < k by omega), if_pos (show k < k + 1 by omega), decide_eq_true rfl, Bool.or_true, if_pos rfl]
      by_cases hb : S.testBit k = true
      · rw [if_pos hb]; omega
      · rw [if_neg hb]
    · rw [decide_eq_false hki, Bool.or_false]
      by_cases hik : i < k
      · rw [if_pos hik, if_pos (show i < k + 1 by omega)]
        by_cases hb : S.testBit k = true
        · rw [if_pos hb, if_pos hb]; omega
        · rw [if_neg hb, if_neg hb]
      · rw [if_neg hik, if_neg (show ¬ i < k + 1 by omega)]
theorem sEa_or {e : Nat → Int} {n S i : Nat} (hn : n ≤ 5) (hi : i < n) (hS : S < 32) : sEa e n (S ||| 2 ^ i) = min (sEa e n S) (e i) := by
  unfold sEa
  rw [mnF_or (by omega) hS n hn, if_pos hi]
def enB (n : Nat) (R : Int) (e l D C : Nat → Int) (i S : Nat) : Bool := decide (R * (sLa l n S - min (sEa e n S) (e i)) < sEn D C n (S ||| 2 ^ i))
theorem endX {s : wd_Mem} {n S i : Nat} {R : Int} {e l D C : Nat → Int} (hb : bnd n R e l D C) (hs : sgx s n R e l D C) (h0 : 0 < S) (hS : S < 2 ^ n) (hi : i < n) : X1_endsBehind s (zI i) (zI S) = some (bI (enB n R e l D C i S)) := by
  have p5 := pow5 hb.1
  have hn := hb.1
  obtain ⟨o1, o2⟩ := n_or_lt n (by omega) S (by omega) hS i (by omega) hi
  obtain ⟨g1, g2, g3, g4⟩ := sgx_set hb hs h0 hS
  obtain ⟨-, -, -, g5⟩ := sgx_set hb hs o2 o1
  obtain ⟨f1, f2, f3, f4⟩ := hs.2.2.2.1 i hi
  obtain ⟨b1, b2, b3, b4, b5, b6, b7, b8⟩ := set_bd hb S
  have b9 := set_bd hb (S ||| 2 ^ i)
  have y := hb.2.2.2 i hi
  have hR1 := hb.2.1
  have hR2 := hb.2.2.1
  have m1 := mul_bd (a := R) (b := sLa l n S - min (sEa e n S) (e i)) (A := 20) (B := 200) (by omega) (by omega) (by omega) (by omega)
  unfold X1_endsBehind X1_endsBehind_b0
  rw [b_or1 S (by omega) i (by omega), wd_chk_in (by omega) (by omega) (by omega), wd_chk_in (by omega) (by omega) (by omega), wd_chk_in (by omega) (by omega) (by omega), zI_clN (show S < 2147483648 by omega), zI_clN (show i < 2147483648 by omega), zI_clN (show S ||| 2 ^ i < 2147483648 by omega), g1, g2, g5, f1, hs.2.1, zmin (zR_small (by omega) (by omega)) (zR_small (by omega) (by omega)), zI_sub, zI_mul, zl_le (zR_small (by omega) (by omega)) (zR_small (by omega) (by omega))]
  unfold enB bI
  simp only [decide_eq_true_eq]
  by_cases h1 : R * (sLa l n S - min (sEa e n S) (e i)) < sEn D C n (S ||| 2 ^ i)
  · rw [if_neg (by omega), if_pos h1]
  · rw [if_pos (by omega), if_neg h1]
def reF (n : Nat) (R : Int) (e l D C : Nat → Int) (i T : Nat) : Int := sEn D C n T - (R - C i) * (sLa l n T - sEa e n T)
def edH (n : Nat) (R : Int) (e l D C : Nat → Int) (i S T : Nat) (p : Int × Int) : Int × Int := if 0 < reF n R e l D C i T then tl (sEa e n T + (reF n R e l D C i T + C i - 1) / C i) (S : Int) p else p
theorem reF_bd {n i T : Nat} {R : Int} {e l D C : Nat → Int} (hb : bnd n R e l D C) (hi : i < n) : -5000 ≤ reF n R e l D C i T ∧ reF n R e l D C i T ≤ 5000 ∧ -5000 ≤ (R - C i) * (sLa l n T - sEa e n T) ∧ (R - C i) * (sLa l n T - sEa e n T) ≤ 5000 := by
  obtain ⟨b1, b2, b3, b4, b5, b6, b7, b8⟩ := set_bd hb T
  have y := hb.2.2.2 i hi
  have hR1 := hb.2.1
  have hR2 := hb.2.2.1
  have m1 := mul_bd (a := R - C i) (b := sLa l n T - sEa e n T) (A := 20) (B := 200) (by omega) (by omega) (by omega) (by omega)
  unfold reF
  omega
theorem edV_bd {n i T : Nat} {R : Int} {e l D C : Nat → Int} (hb : bnd n R e l D C) (hi : i < n) (h : 0 < reF n R e l D C i T) : 0 ≤ (reF n R e l D C i T + C i - 1) / C i ∧ (reF n R e l D C i T + C i - 1) / C i ≤ 6000 := by
  have y := hb.2.2.2 i hi
  have r := reF_bd (T := T) hb hi
  have q1 := Int.ediv_nonneg (a := reF n R e l D C i T + C i - 1) (b := C i) (by omega) (by omega)
  have q2 := Int.ediv_le_self (a := reF n R e l D C i T + C i - 1) (C i) (by omega)
  omega
theorem edH_bd {n i S : Nat} {R : Int} {e l D C : Nat → Int} (hb : bnd n R e l D C) (hi : i < n) (T : Nat) (p : Int × Int) (hp : bP p) : bP (edH n R e l D C i S T p) := by
  have b := set_bd hb T
  unfold edH
  split
  · rename_i h
    have := edV_bd hb hi h
    exact tl_bd hp (by omega) (by omega)
  · exact hp
theorem restX {s : wd_Mem} {n S T i : Nat} {R : Int} {e l D C : Nat → Int} {p : Int × Int} (hb : bnd n R e l D C) (hs : sgx s n R e l D C) (h0 : 0 < T) (hT : T < 2 ^ n) (hi : i < n) (hp : bP p) : X1_tellRest (tMX s i p) (zI i) (zI T) (zI S) = some (tMX s i (edH n R e l D C i S T p)) := by
  have p5 := pow5 hb.1
  have hn := hb.1
  have hs' : sgx (tMX s i p) n R e l D C := sgx_t hs
  obtain ⟨g1, g2, g3, g4⟩ := sgx_set hb hs' h0 hT
  obtain ⟨-, c5⟩ := hs'.2.2.1 i hi
  obtain ⟨b1, b2, b3, b4, b5, b6, b7, b8⟩ := set_bd hb T
  have y := hb.2.2.2 i hi
  have r := reF_bd (T := T) hb hi
  unfold X1_tellRest X1_tellRest_b0
  rw [wd_chk_in (by omega) (by omega) (by omega), wd_chk_in (by omega) (by omega) (by omega), zI_clN (show T < 2147483648 by omega), zI_clN (show i < 2147483648 by omega), g1, g2, g4, c5, hs'.2.1, zI_sub, zI_sub, zI_mul, zI_sub, show sEn D C n T - (R - C i) * (sLa l n T - sEa e n T) = reF n R e l D C i T from rfl, z_0, zl_le (zR_small (by omega) (by omega)) (zR_small (by omega) (by omega)), zl_le (zR_small (by omega) (by omega)) (zR_small (by omega) (by omega)), wd_chk_nz (zR_small (by omega) (by omega)) (by omega), z_1, zI_add, zI_sub]
  unfold edH
  by_cases h : 0 < reF n R e l D C i T
  · have v := edV_bd hb hi h
    rw [if_neg (by omega), if_neg (by omega), if_pos h, zI_div (by omega) (by omega) (by omega) (by omega), zI_add, tellX (by omega) hp (by omega) (by omega)]
    rfl
  · rw [if_pos (by omega), if_neg h]
theorem partsX {s : wd_Mem} {n S i : Nat} {R : Int} {e l D C : Nat → Int} (K : wd_Mem → Option wd_Mem) (hb : bnd n R e l D C) (hs : sgx s n R e l D C) (hS : S < 2 ^ n) (hi : i < n) : ∀ (f q T : Nat) (p : Int × Int), T ≤ f → f < q → T < 2 ^ n → bP p → X1_byEdge_l34 K (zI i) (zI S) q (zI (T : Nat)) (tMX s i p) = K (tMX s i (ptF (edH n R e l D C i S) S f T p)) := by
  have p5 := pow5 hb.1
  intro f
  induction f with
  | zero =>
    intro q T p h1 h2 h3 hp
    obtain ⟨q, rfl⟩ : ∃ a, q = a + 1 := ⟨q - 1, by omega⟩
    have h0 : T = 0 := by omega
    subst h0
    show X1_byEdge_c34 _ _ (tMX s i p) (zI i) (zI S) (zI ((0 : Nat) : Int)) = _
    unfold X1_byEdge_c34
    rw [if_pos (by decide)]
    rfl
  | succ f ih =>
    intro q T p h1 h2 h3 hp
    obtain ⟨q, rfl⟩ : ∃ a, q = a + 1 := ⟨q - 1, by omega⟩
    show X1_byEdge_c34 _ _ (tMX s i p) (zI i) (zI S) (zI (T : Nat)) = _
    unfold X1_byEdge_c34
    simp only [ptF]
    by_cases h0 : T = 0
    · subst h0
      rw [if_pos (by decide), if_pos rfl]
    · have an := Nat.and_le_left (n := T - 1) (m := S)
      rw [if_neg (by rw [z_0, zI_le (zR_small (by omega) (by omega)) (zR_small (by omega) (by omega))]; omega), if_neg h0, restX hb hs (by omega) h3 hi hp]
      simp only [Option.bind_some]
      rw [b_sub S (by omega) T (by omega) (by omega), ih q _ _ (by omega) (by omega) (by omega) (edH_bd hb hi T p hp)]
def edB (n : Nat) (R : Int) (e l D C : Nat → Int) (i k : Nat) (p : Int × Int) : Int × Int := if (k + 1).testBit i = true then p else if enB n R e l D C i (k + 1) = true then ptF (edH n R e l D C i (k + 1)) (k + 1) 32 (k + 1) p else p
theorem edB_bd {n i : Nat} {R : Int} {e l D C : Nat → Int} (hb : bnd n R e l D C) (hi : i < n) (k : Nat) (p : Int × Int) (hp : bP p) : bP (edB n R e l D C i k p) := by
  unfold edB
  split
  · exact hp
  · split
    · exact ptF_bd (edH_bd hb hi) _ _ _ hp
    · exact hp
theorem edB_in {n i : Nat} {R : Int} {e l D C : Nat → Int} (k : Nat) : inR (edB n R e l D C i k) := inR_ite inR_id (inR_ite (inR_ptF (fun T => inR_ite (inR_tl _ _) inR_id) _ _) inR_id)
theorem edgeX {s : wd_Mem} {n i : Nat} {R : Int} {e l D C : Nat → Int} {p : Int × Int} (hb : bnd n R e l D C) (hs : sgx s n R e l D C) (hi : i < n) (hp : bP p) : X1_byEdge (tMX s i p) (zI i) = some (tMX s i (foF (edB n R e l D C i) (2 ^ n - 1) p)) := by
  have hn := hb.1
  have p5 := pow5 hn
  have pp : 0 < 2 ^ n := Nat.pos_of_ne_zero (by simp)
  have key := wd_forF (fun q k m => X1_byEdge_l2 (fun μ => X1_byEdge_b60 μ) (zI i) q (zI ((k + 1 : Nat) : Int)) m) (fun m => some m) (fun k => tMX s i (foF (edB n R e l D C i) k p)) (2 ^ n - 1) (by omega) (fun k q hk => by
    show X1_byEdge_c2 _ _ (tMX s i (foF (edB n R e l D C i) k p)) (zI i) (zI ((k + 1 : Nat) : Int)) = _
    have hP : bP (foF (edB n R e l D C i) k p) := foF_bd (edB_bd hb hi) hp k
    have hs' : sgx (tMX s i (foF (edB n R e l D C i) k p)) n R e l D C := sgx_t hs
    have e1 : zI ((k + 1 : Nat) : Int) + (1 : Int32) = zI ((k + 1 + 1 : Nat) : Int) := by rw [z_1, zI_add]; rfl
    unfold X1_byEdge_c2
    rw [hs'.1, b_shl n (by omega), if_neg (by rw [zI_le (zR_small (by omega) (by omega)) (zR_small (by omega) (by omega))]; omega), b_has (k + 1) (by omega) i (by omega), bit_ite, endX hb hs' (by omega) (by omega) hi]
    simp only [Option.bind_some]
    rw [bI_ite, partsX _ hb hs (by omega) hi 32 wd_big (k + 1) _ (by omega) (by unfold wd_big; omega) (by omega) hP]
    unfold X1_byEdge_b54
    rw [e1]
    simp only [foF, edB]
    by_cases h1 : (k + 1).testBit i = true
    · rw [if_pos h1, if_pos h1]
    · rw [if_neg h1, if_neg h1]
      by_cases h2 : enB n R e l D C i (k + 1) = true
      · rw [if_pos h2, if_pos h2]
      · rw [if_neg h2, if_neg h2]) (fun q => by
    show X1_byEdge_c2 _ _ (tMX s i (foF (edB n R e l D C i) (2 ^ n - 1) p)) (zI i) (zI ((2 ^ n - 1 + 1 : Nat) : Int)) = _
    have hs' : sgx (tMX s i (foF (edB n R e l D C i) (2 ^ n - 1) p)) n R e l D C := sgx_t hs
    unfold X1_byEdge_c2 X1_byEdge_b60
    rw [hs'.1, b_shl n (by omega), show 2 ^ n - 1 + 1 = 2 ^ n by omega, if_pos (Int32.le_refl _)])
  unfold X1_byEdge X1_byEdge_b0
  rw [z_1]
  exact key
theorem partsM {s : wd_Mem} {n S i : Nat} {x2 : Int32} {R : Int} {e l D C : Nat → Int} (K : wd_Mem → Option wd_Mem) (hb : bnd n R e l D C) (hs : datV s n R e l D C) (hS : S < 2 ^ n) (hi : i < n) : ∀ (f q T : Nat) (p : Int × Int), T ≤ f → f < q → T < 2 ^ n → bP p → X8_edges_l57 K (zI i) x2 (zI S) q (zI (T : Nat)) (tMM s i p) = K (tMM s i (ptF (edH n R e l D C i S) S f T p)) := by
  have p5 := pow5 hb.1
  have hn := hb.1
  intro f
  induction f with
  | zero =>
    intro q T p h1 h2 h3 hp
    obtain ⟨q, rfl⟩ : ∃ a, q = a + 1 := ⟨q - 1, by omega⟩
    have h0 : T = 0 := by omega
    subst h0
    show X8_edges_c57 _ _ (tMM s i p) (zI i) x2 (zI S) (zI ((0 : Nat) : Int)) = _
    unfold X8_edges_c57
    rw [if_pos (by decide)]
    rfl
  | succ f ih =>
    intro q T p h1 h2 h3 hp
    obtain ⟨q, rfl⟩ : ∃ a, q = a + 1 := ⟨q - 1, by omega⟩
    show X8_edges_c57 _ _ (tMM s i p) (zI i) x2 (zI S) (zI (T : Nat)) = _
    unfold X8_edges_c57 X8_edges_b132
    simp only [ptF]
    by_cases h0 : T = 0
    · subst h0
      rw [if_pos (by decide), if_pos rfl]
    · have an := Nat.and_le_left (n := T - 1) (m := S)
      have hs' : datV (tMM s i p) n R e l D C := datV_t hs
      obtain ⟨c1, c2, c3, c4⟩ := hs'.2.2 i hi
      obtain ⟨b1, b2, b3, b4, b5, b6, b7, b8⟩ := set_bd hb T
      have y := hb.2.2.2 i hi
      have r := reF_bd (T := T) hb hi
      rw [if_neg (by rw [z_0, zI_le (zR_small (by omega) (by omega)) (zR_small (by omega) (by omega))]; omega), if_neg h0, eneM hb hs' (by omega), latM hb hs' (by omega), earM hb hs' (by omega)]
      simp only [Option.bind_some]
      rw [wd_chk_in (by omega) (by omega) (by omega), zI_clN (by omega), c4, hs'.2.1, zI_sub, zI_sub, zI_mul, zI_sub, show sEn D C n T - (R - C i) * (sLa l n T - sEa e n T) = reF n R e l D C i T from rfl, z_0, zl_le (zR_small (by omega) (by omega)) (zR_small (by omega) (by omega)), wd_chk_nz (zR_small (by omega) (by omega)) (by omega), b_sub S (by omega) T (by omega) (by omega), z_1, zI_add, zI_sub]
      have ih' := fun p' hp' => ih q ((T - 1) &&& S) p' (by omega) (by omega) (by omega) hp'
      have bd := edH_bd (S := S) hb hi T p hp
      unfold edH at bd ih' ⊢
      by_cases h : 0 < reF n R e l D C i T
      · have v := edV_bd hb hi h
        rw [if_pos h] at bd
        rw [if_neg (by omega), if_pos h, zI_div (by omega) (by omega) (by omega) (by omega), zI_add, tellM (by omega) hp (by omega) (by omega)]
        simp only [Option.bind_some]
        exact ih' _ bd
      · rw [if_pos (by omega), if_neg h]
        exact ih' _ hp
theorem edgeM {s : wd_Mem} {n i : Nat} {R : Int} {e l D C : Nat → Int} {p : Int × Int} (hb : bnd n R e l D C) (hs : datV s n R e l D C) (hi : i < n) (hp : bP p) : X8_edges (tMM s i p) (zI i) = some (tMM s i (foF (edB n R e l D C i) (2 ^ n - 1) p)) := by
  have hn := hb.1
  have p5 := pow5 hn
  have pp : 0 < 2 ^ n := Nat.pos_of_ne_zero (by simp)
  have key := wd_forF (fun q k m => X8_edges_l6 (fun μ => X8_edges_b149 μ) (zI i) (zI ((2 ^ i : Nat) : Int)) q (zI ((k + 1 : Nat) : Int)) m) (fun m => some m) (fun k => tMM s i (foF (edB n R e l D C i) k p)) (2 ^ n - 1) (by omega) (fun k q hk => by
    show X8_edges_c6 _ _ (tMM s i (foF (edB n R e l D C i) k p)) (zI i) (zI ((2 ^ i : Nat) : Int)) (zI ((k + 1 : Nat) : Int)) = _
    have hP : bP (foF (edB n R e l D C i) k p) := foF_bd (edB_bd hb hi) hp k
    have hs' : datV (tMM s i (foF (edB n R e l D C i) k p)) n R e l D C := datV_t hs
    have e1 : zI ((k + 1 : Nat) : Int) + (1 : Int32) = zI ((k + 1 + 1 : Nat) : Int) := by rw [z_1, zI_add]; rfl
    obtain ⟨o1, o2⟩ := n_or_lt n (by omega) (k + 1) (by omega) (by omega) i (by omega) hi
    have eor : zI ((k + 1 : Nat) : Int) ||| zI ((2 ^ i : Nat) : Int) = zI (((k + 1) ||| 2 ^ i : Nat) : Int) := by rw [← b_shl i (by omega), b_or1 (k + 1) (by omega) i (by omega)]
    obtain ⟨b1, b2, b3, b4, b5, b6, b7, b8⟩ := set_bd hb (k + 1)
    have b9 := set_bd hb ((k + 1) ||| 2 ^ i)
    have y := hb.2.2.2 i hi
    have hR1 := hb.2.1
    have hR2 := hb.2.2.1
    have m1 := mul_bd (a := R) (b := sLa l n (k + 1) - min (sEa e n (k + 1)) (e i)) (A := 20) (B := 200) (by omega) (by omega) (by omega) (by omega)
    unfold X8_edges_c6
    rw [all_eq hn hs'.1, if_neg (by rw [zI_lt (zR_small (by omega) (by omega)) (zR_small (by omega) (by omega))]; omega), eor, earM hb hs' (by omega), eneM hb hs' (by omega), latM hb hs' (by omega)]
    simp only [Option.bind_some]
    rw [bit_iteM _ (show k + 1 < 32 by omega) (by omega), hs'.2.1, sEa_or hn hi (by omega), zI_sub, zI_mul, zl_le (zR_small (by omega) (by omega)) (zR_small (by omega) (by omega)), partsM _ hb hs (by omega) hi 32 wd_big (k + 1) _ (by omega) (by unfold wd_big; omega) (by omega) hP]
    unfold X8_edges_b143
    rw [e1]
    simp only [foF, edB]
    by_cases h1 : (k + 1).testBit i = true
    · rw [if_pos h1, if_pos h1]
    · rw [if_neg h1, if_neg h1]
      unfold enB
      simp only [decide_eq_true_eq]
      by_cases h2 : R * (sLa l n (k + 1) - min (sEa e n (k + 1)) (e i)) < sEn D C n ((k + 1) ||| 2 ^ i)
      · rw [if_neg (by omega), if_pos h2]
      · rw [if_pos (by omega), if_neg h2]) (fun q => by
    show X8_edges_c6 _ _ (tMM s i (foF (edB n R e l D C i) (2 ^ n - 1) p)) (zI i) (zI ((2 ^ i : Nat) : Int)) (zI ((2 ^ n - 1 + 1 : Nat) : Int)) = _
    have hs' : datV (tMM s i (foF (edB n R e l D C i) (2 ^ n - 1) p)) n R e l D C := datV_t hs
    unfold X8_edges_c6 X8_edges_b149
    rw [all_eq hn hs'.1, if_pos (by rw [zI_lt (zR_small (by omega) (by omega)) (zR_small (by omega) (by omega))]; omega)])
  unfold X8_edges X8_edges_b0
  rw [b_shl i (by omega), z_1]
  exact key
