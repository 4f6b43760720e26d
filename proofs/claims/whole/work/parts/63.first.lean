/-! ===== FIRST ===== -/
theorem bI_ite {α : Type} {b : Bool} {x y : α} : (if bI b = 0 then x else y) = if b = true then y else x := by
  cases b
  · rw [if_pos (by decide), if_neg (by decide)]
  · rw [if_neg (by decide), if_pos rfl]
theorem bit_ite {α : Type} {b : Bool} {x y : α} : (if (if b = true then (1 : Int32) else 0) = 0 then x else y) = if b = true then y else x := by
  cases b
  · rw [if_pos (by decide), if_neg (by decide)]
  · rw [if_neg (by decide), if_pos rfl]
theorem bit_iteM {α : Type} (μ : wd_Mem) {S i : Nat} (hS : S < 32) (hi : i < 5) {x y : α} : (if X8_has μ (zI S) (zI i) = 0 then x else y) = if S.testBit i = true then y else x := by
  rw [X8_has_eq μ hS hi]; exact bit_ite
/-- can't be first -/
def cnF (n : Nat) (R : Int) (e l D C : Nat → Int) (i S : Nat) : Bool := decide (sEa e n S ≤ e i ∧ e i < sDo e D n S ∧ R * (sLa l n S - sEa e n S) < sEn D C n S + C i * (min (e i + D i) (sLa l n S) - sEa e n S))
theorem canX {s : wd_Mem} {n S i : Nat} {R : Int} {e l D C : Nat → Int} (hb : bnd n R e l D C) (hs : sgx s n R e l D C) (h0 : 0 < S) (hS : S < 2 ^ n) (hi : i < n) : X1_canNotBeFirst s (zI i) (zI S) = some (bI (cnF n R e l D C i S)) := by
  have p5 := pow5 hb.1
  obtain ⟨g1, g2, g3, g4⟩ := sgx_set hb hs h0 hS
  obtain ⟨f1, f2, f3, f4⟩ := hs.2.2.2.1 i hi
  obtain ⟨-, c5⟩ := hs.2.2.1 i hi
  obtain ⟨b1, b2, b3, b4, b5, b6, b7, b8⟩ := set_bd hb S
  have y := hb.2.2.2 i hi
  have hn := hb.1
  have hR1 := hb.2.1
  have hR2 := hb.2.2.1
  have m1 := mul_bd (a := R) (b := sLa l n S - sEa e n S) (A := 20) (B := 200) (by omega) (by omega) (by omega) (by omega)
  have m2 := mul_bd (a := C i) (b := min (e i + D i) (sLa l n S) - sEa e n S) (A := 9) (B := 200) (by omega) (by omega) (by omega) (by omega)
  unfold X1_canNotBeFirst X1_canNotBeFirst_b0 X1_canNotBeFirst_b44
  rw [wd_chk_in (by omega) (by omega) (by omega), wd_chk_in (by omega) (by omega) (by omega), zI_clN (show S < 2147483648 by omega), zI_clN (show i < 2147483648 by omega), g1, g2, g3, g4, f1, f3, c5, hs.2.1, zmin (zR_small (by omega) (by omega)) (zR_small (by omega) (by omega)), zI_sub, zI_sub, zI_mul, zI_mul, zI_add]
  rw [zl_lt (zR_small (by omega) (by omega)) (zR_small (by omega) (by omega)), zl_lt (zR_small (by omega) (by omega)) (zR_small (by omega) (by omega)), zl_le (zR_small (by omega) (by omega)) (zR_small (by omega) (by omega))]
  unfold cnF bI
  simp only [decide_eq_true_eq]
  by_cases h1 : e i < sEa e n S
  · rw [if_pos h1, if_neg (by omega)]
  · rw [if_neg h1]
    by_cases h2 : e i < sDo e D n S
    · rw [if_pos h2]
      by_cases h3 : sEn D C n S + C i * (min (e i + D i) (sLa l n S) - sEa e n S) ≤ R * (sLa l n S - sEa e n S)
      · rw [if_pos h3, if_neg (by omega)]
      · rw [if_neg h3, if_pos (by omega)]
    · rw [if_neg h2, if_neg (by omega)]
def fiB (n : Nat) (R : Int) (e l D C : Nat → Int) (i k : Nat) (p : Int × Int) : Int × Int := if (k + 1).testBit i = true then p else if cnF n R e l D C i (k + 1) = true then tl (sDo e D n (k + 1)) ((k + 1 : Nat) : Int) p else p
theorem fiB_bd {n i : Nat} {R : Int} {e l D C : Nat → Int} (hb : bnd n R e l D C) (k : Nat) (p : Int × Int) (hp : bP p) : bP (fiB n R e l D C i k p) := by
  have := set_bd hb (k + 1)
  unfold fiB
  split
  · exact hp
  · split
    · exact tl_bd hp (by omega) (by omega)
    · exact hp
theorem fiB_in {n i : Nat} {R : Int} {e l D C : Nat → Int} (k : Nat) : inR (fiB n R e l D C i k) := inR_ite inR_id (inR_ite (inR_tl _ _) inR_id)
theorem firstX {s : wd_Mem} {n i : Nat} {R : Int} {e l D C : Nat → Int} {p : Int × Int} (hb : bnd n R e l D C) (hs : sgx s n R e l D C) (hi : i < n) (hp : bP p) : X1_byFirst (tMX s i p) (zI i) = some (tMX s i (foF (fiB n R e l D C i) (2 ^ n - 1) p)) := by
  have hn := hb.1
  have p5 := pow5 hn
  have pp : 0 < 2 ^ n := Nat.pos_of_ne_zero (by simp)
  have key := wd_forF (fun q k m => X1_byFirst_l2 (fun μ => X1_byFirst_b53 μ) (zI i) q (zI ((k + 1 : Nat) : Int)) m) (fun m => some m) (fun k => tMX s i (foF (fiB n R e l D C i) k p)) (2 ^ n - 1) (by omega) (fun k q hk => by
    show X1_byFirst_c2 _ _ (tMX s i (foF (fiB n R e l D C i) k p)) (zI i) (zI ((k + 1 : Nat) : Int)) = _
    have hP : bP (foF (fiB n R e l D C i) k p) := foF_bd (fiB_bd hb) hp k
    have hs' : sgx (tMX s i (foF (fiB n R e l D C i) k p)) n R e l D C := sgx_t hs
    have b := set_bd hb (k + 1)
    have e1 : zI ((k + 1 : Nat) : Int) + (1 : Int32) = zI ((k + 1 + 1 : Nat) : Int) := by rw [z_1, zI_add]; rfl
    have g := (sgx_set hb hs' (show 0 < k + 1 by omega) (show k + 1 < 2 ^ n by omega)).2.2.1
    unfold X1_byFirst_c2 X1_byFirst_b47
    rw [hs'.1, b_shl n (by omega), if_neg (by rw [zI_le (zR_small (by omega) (by omega)) (zR_small (by omega) (by omega))]; omega), b_has (k + 1) (by omega) i (by omega), bit_ite, canX hb hs' (by omega) (by omega) hi, e1]
    simp only [Option.bind_some]
    rw [bI_ite, wd_chk_in (by omega) (by omega) (by omega), zI_clN (by omega), g, tellX (by omega) hP (by omega) (by omega)]
    simp only [Option.bind_some, foF, fiB]
    by_cases h1 : (k + 1).testBit i = true
    · rw [if_pos h1, if_pos h1]
    · rw [if_neg h1, if_neg h1]
      by_cases h2 : cnF n R e l D C i (k + 1) = true
      · rw [if_pos h2, if_pos h2]
      · rw [if_neg h2, if_neg h2]) (fun q => by
    show X1_byFirst_c2 _ _ (tMX s i (foF (fiB n R e l D C i) (2 ^ n - 1) p)) (zI i) (zI ((2 ^ n - 1 + 1 : Nat) : Int)) = _
    have hs' : sgx (tMX s i (foF (fiB n R e l D C i) (2 ^ n - 1) p)) n R e l D C := sgx_t hs
    unfold X1_byFirst_c2 X1_byFirst_b53
    rw [hs'.1, b_shl n (by omega), show 2 ^ n - 1 + 1 = 2 ^ n by omega, if_pos (Int32.le_refl _)])
  unfold X1_byFirst X1_byFirst_b0
  rw [z_1]
  exact key
theorem firstM {s : wd_Mem} {n i : Nat} {R : Int} {e l D C : Nat → Int} {p : Int × Int} (hb : bnd n R e l D C) (hs : datV s n R e l D C) (hi : i < n) (hp : bP p) : X8_firsts (tMM s i p) (zI i) = some (tMM s i (foF (fiB n R e l D C i) (2 ^ n - 1) p)) := by
  have hn := hb.1
  have p5 := pow5 hn
  have pp : 0 < 2 ^ n := Nat.pos_of_ne_zero (by simp)
  have key := wd_forF (fun q k m => X8_firsts_l2 (fun μ => X8_firsts_b129 μ) (zI i) q (zI ((k + 1 : Nat) : Int)) m) (fun m => some m) (fun k => tMM s i (foF (fiB n R e l D C i) k p)) (2 ^ n - 1) (by omega) (fun k q hk => by
    show X8_firsts_c2 _ _ (tMM s i (foF (fiB n R e l D C i) k p)) (zI i) (zI ((k + 1 : Nat) : Int)) = _
    have hP : bP (foF (fiB n R e l D C i) k p) := foF_bd (fiB_bd hb) hp k
    have hs' : datV (tMM s i (foF (fiB n R e l D C i) k p)) n R e l D C := datV_t hs
    have b := set_bd hb (k + 1)
    have y := hb.2.2.2 i hi
    have hR1 := hb.2.1
    have hR2 := hb.2.2.1
    have e1 : zI ((k + 1 : Nat) : Int) + (1 : Int32) = zI ((k + 1 + 1 : Nat) : Int) := by rw [z_1, zI_add]; rfl
    obtain ⟨c1, c2, c3, c4⟩ := hs'.2.2 i hi
    have m1 := mul_bd (a := R) (b := sLa l n (k + 1) - sEa e n (k + 1)) (A := 20) (B := 200) (by omega) (by omega) (by omega) (by omega)
    have m2 := mul_bd (a := C i) (b := min (e i + D i) (sLa l n (k + 1)) - sEa e n (k + 1)) (A := 9) (B := 200) (by omega) (by omega) (by omega) (by omega)
    have tail : ∀ (rec : Int32 → wd_Mem → Option wd_Mem) (K : wd_Mem → Option wd_Mem), X8_firsts_b72 rec K (tMM s i (foF (fiB n R e l D C i) k p)) (zI i) (zI ((k + 1 : Nat) : Int)) (zI (min (e i + D i) (sLa l n (k + 1)))) = if R * (sLa l n (k + 1) - sEa e n (k + 1)) < sEn D C n (k + 1) + C i * (min (e i + D i) (sLa l n (k + 1)) - sEa e n (k + 1)) then rec (zI ((k + 1 + 1 : Nat) : Int)) (tMM s i (tl (sDo e D n (k + 1)) ((k + 1 : Nat) : Int) (foF (fiB n R e l D C i) k p))) else rec (zI ((k + 1 + 1 : Nat) : Int)) (tMM s i (foF (fiB n R e l D C i) k p)) := by
      intro rec K
      unfold X8_firsts_b72 X8_firsts_b123
      rw [eneM hb hs' (by omega), earM hb hs' (by omega), latM hb hs' (by omega), donM hb hs' (by omega), e1]
      simp only [Option.bind_some]
      rw [wd_chk_in (by omega) (by omega) (by omega), zI_clN (by omega), c4, hs'.2.1, zI_sub, zI_sub, zI_mul, zI_mul, zI_add, tellM (by omega) hP (by omega) (by omega)]
      simp only [Option.bind_some]
      rw [zl_le (zR_small (by omega) (by omega)) (zR_small (by omega) (by omega))]
      by_cases h : R * (sLa l n (k + 1) - sEa e n (k + 1)) < sEn D C n (k + 1) + C i * (min (e i + D i) (sLa l n (k + 1)) - sEa e n (k + 1))
      · rw [if_neg (by omega), if_pos h]
      · rw [if_pos (by omega), if_neg h]
    unfold X8_firsts_c2
    rw [all_eq hn hs'.1, if_neg (by rw [zI_lt (zR_small (by omega) (by omega)) (zR_small (by omega) (by omega))]; omega), bit_iteM _ (show k + 1 < 32 by omega) (by omega), earM hb hs' (by omega), donM hb hs' (by omega), latM hb hs' (by omega), doneM hn hs' hi]
    simp only [Option.bind_some]
    rw [wd_chk_in (by omega) (by omega) (by omega), zI_clN (by omega), c1, zl_lt (zR_small (by omega) (by omega)) (zR_small (by omega) (by omega)), zl_le (zR_small (by omega) (by omega)) (zR_small (by omega) (by omega)), zl_le (zR_small (by omega) (by omega)) (zR_small (by omega) (by omega))]
    have pick : ∀ (rec : Int32 → wd_Mem → Option wd_Mem) (K : wd_Mem → Option wd_Mem), (if sLa l n (k + 1) ≤ e i + D i then X8_firsts_b72 rec K (tMM s i (foF (fiB n R e l D C i) k p)) (zI i) (zI ((k + 1 : Nat) : Int)) (zI (sLa l n (k + 1))) else X8_firsts_b72 rec K (tMM s i (foF (fiB n R e l D C i) k p)) (zI i) (zI ((k + 1 : Nat) : Int)) (zI (e i + D i))) = X8_firsts_b72 rec K (tMM s i (foF (fiB n R e l D C i) k p)) (zI i) (zI ((k + 1 : Nat) : Int)) (zI (min (e i + D i) (sLa l n (k + 1)))) := by
      intro rec K
      by_cases h : sLa l n (k + 1) ≤ e i + D i
      · rw [if_pos h, show min (e i + D i) (sLa l n (k + 1)) = sLa l n (k + 1) by omega]
      · rw [if_neg h, show min (e i + D i) (sLa l n (k + 1)) = e i + D i by omega]
    rw [pick, tail]
    unfold X8_firsts_b123
    rw [e1]
    simp only [foF, fiB]
    by_cases h1 : (k + 1).testBit i = true
    · rw [if_pos h1, if_pos h1]
    · rw [if_neg h1, if_neg h1]
      unfold cnF
      simp only [decide_eq_true_eq]
      by_cases h2 : e i < sEa e n (k + 1)
      · rw [if_pos h2, if_neg (by omega)]
      · rw [if_neg h2]
        by_cases h3 : sDo e D n (k + 1) ≤ e i
        · rw [if_pos h3, if_neg (by omega)]
        · rw [if_neg h3]
          by_cases h4 : R * (sLa l n (k + 1) - sEa e n (k + 1)) < sEn D C n (k + 1) + C i * (min (e i + D i) (sLa l n (k + 1)) - sEa e n (k + 1))
          · rw [if_pos h4, if_pos (by omega)]
          · rw [if_neg h4, if_neg (by omega)]) (fun q => by
    show X8_firsts_c2 _ _ (tMM s i (foF (fiB n R e l D C i) (2 ^ n - 1) p)) (zI i) (zI ((2 ^ n - 1 + 1 : Nat) : Int)) = _
    have hs' : datV (tMM s i (foF (fiB n R e l D C i) (2 ^ n - 1) p)) n R e l D C := datV_t hs
    unfold X8_firsts_c2 X8_firsts_b129
    rw [all_eq hn hs'.1, if_pos (by rw [zI_lt (zR_small (by omega) (by omega)) (zR_small (by omega) (by omega))]; omega)])
  unfold X8_firsts X8_firsts_b0
  rw [z_1]
  exact key
