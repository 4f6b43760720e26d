/-! ===== the class: is there a schedule? ===== -/
def schX (ν : wd_Mem) (n R : Nat) (e l D c : Nat → Nat) : Prop := ν 3 1 = zI (n : Nat) ∧ ν 3 0 = zI (R : Nat) ∧ ∀ i, i < n → ν 4 i = zI (D i : Nat) ∧ ν 22 i = zI (e i : Nat) ∧ ν 23 i = zI (l i : Nat) ∧ ν 24 i = zI (c i : Nat)
def bdS (n R : Nat) (e l D c : Nat → Nat) : Prop := n ≤ 5 ∧ R ≤ 20 ∧ ∀ i, i < n → e i ≤ 16 ∧ l i ≤ 16 ∧ 1 ≤ D i ∧ D i ≤ 9 ∧ c i ≤ 20
def ldX (ν : wd_Mem) (w : Nat → Nat) : Prop := ∀ t, t < 16 → ν 26 t = zI (w t : Nat)
theorem schX_congr {ν τ : wd_Mem} {n R : Nat} {e l D c : Nat → Nat} (f : ∀ a, a = 3 ∨ a = 4 ∨ a = 22 ∨ a = 23 ∨ a = 24 → τ a = ν a) (h : schX ν n R e l D c) : schX τ n R e l D c := by
  unfold schX
  rw [f 3 (by omega), f 4 (by omega), f 22 (by omega), f 23 (by omega), f 24 (by omega)]
  exact h
theorem capL {x : Nat} (h : x ≤ 16) : (if zI (x : Nat) < (16 : Int32) then zI (x : Nat) else (16 : Int32)) = zI (x : Nat) := by
  rw [z_16]
  by_cases q : x < 16
  · rw [if_pos (by rw [zI_lt (zR_small (by omega) (by omega)) (zR_small (by omega) (by omega))]; omega)]
  · rw [if_neg (by rw [zI_lt (zR_small (by omega) (by omega)) (zR_small (by omega) (by omega))]; omega)]
    congr 1
    omega
theorem flo0 {x : Nat} (h : x ≤ 16) : (if (0 : Int32) < zI (x : Nat) then zI (x : Nat) else (0 : Int32)) = zI (x : Nat) := by
  rw [z_0]
  by_cases q : 0 < x
  · rw [if_pos (by rw [zI_lt (zR_small (by omega) (by omega)) (zR_small (by omega) (by omega))]; omega)]
  · rw [if_neg (by rw [zI_lt (zR_small (by omega) (by omega)) (zR_small (by omega) (by omega))]; omega)]
    congr 1
    omega
def oI (o : Option Nat) : Int := match o with | some x => (x : Int) | none => -9
section
variable {n R : Nat} {e l D c : Nat → Nat}
theorem roomX {ν : wd_Mem} {w : Nat → Nat} {i t : Nat} (hb : bdS n R e l D c) (hs : schX ν n R e l D c) (hl : ldX ν w) (hw : ∀ t, w t ≤ R) (hi : i < n) (ht : t < 16) : X2_hasRoom ν (zI (i : Nat)) (zI (t : Nat)) = some (bI (decide (w t + c i ≤ R))) := by
  obtain ⟨hn, hR, hB⟩ := hb
  have y := hB i hi
  have hwt := hw t
  obtain ⟨c1, c2, c3, c4⟩ := hs.2.2 i hi
  unfold X2_hasRoom X2_hasRoom_b0
  rw [wd_chk_in (by omega) (by omega) (by omega), wd_chk_in (by omega) (by omega) (by omega), zI_clN (by omega), zI_clN (by omega), hs.2.1, hl t ht, c4, zI_add]
  by_cases q : w t + c i ≤ R
  · rw [if_neg (by rw [zI_lt (zR_small (by omega) (by omega)) (zR_small (by omega) (by omega))]; omega), decide_eq_true q]; rfl
  · rw [if_pos (by rw [zI_lt (zR_small (by omega) (by omega)) (zR_small (by omega) (by omega))]; omega), decide_eq_false q]; rfl
theorem earXl {ν : wd_Mem} {w : Nat → Nat} {i : Nat} (hb : bdS n R e l D c) (hs : schX ν n R e l D c) (hl : ldX ν w) (hw : ∀ t, w t ≤ R) (hi : i < n) : ∀ (m q o t : Nat), l i ≤ t + m → t ≤ 16 → m < q → o < D i → e i + o ≤ t → (∀ x, t ≤ x + o → x < t → w x + c i ≤ R) → (∀ y, e i ≤ y → y + o < t → ftB R w (c i) y (D i) = false) → X2_earliestFit_l13 (X2_earliestFit_b70 ν) ν (zI (i : Nat)) q (zI (o : Nat)) (zI (t : Nat)) = some (zI (oI (efN R e l D c w i))) := by
  intro m
  have y := hb.2.2 i hi
  have hn := hb.1
  obtain ⟨c1, c2, c3, c4⟩ := hs.2.2 i hi
  have fin : ∀ (q o t : Nat), l i ≤ t → t ≤ 16 → o < D i → (∀ y, e i ≤ y → y + o < t → ftB R w (c i) y (D i) = false) → X2_earliestFit_c13 (X2_earliestFit_l13 (X2_earliestFit_b70 ν) ν (zI (i : Nat)) q) (X2_earliestFit_b70 ν) ν (zI (i : Nat)) (zI (o : Nat)) (zI (t : Nat)) = some (zI (oI (efN R e l D c w i))) := by
    intro q o t h1 h2 h3 h4
    unfold X2_earliestFit_c13
    rw [wd_chk_in (by omega) (by omega) (by omega), zI_clN (by omega), c3, capL y.2.1, if_pos (by rw [zI_le (zR_small (by omega) (by omega)) (zR_small (by omega) (by omega))]; omega)]
    rw [efN_no (fun z z1 z2 => h4 z z1 (by omega))]
    rfl
  induction m with
  | zero =>
    intro q o t h1 h2 h3 h4 h5 h6 h7
    obtain ⟨q, rfl⟩ : ∃ a, q = a + 1 := ⟨q - 1, by omega⟩
    exact fin q o t (by omega) h2 h4 h7
  | succ m ih =>
    intro q o t h1 h2 h3 h4 h5 h6 h7
    obtain ⟨q, rfl⟩ : ∃ a, q = a + 1 := ⟨q - 1, by omega⟩
    by_cases hlt : l i ≤ t
    · exact fin q o t hlt h2 h4 h7
    · have e1 : zI (t : Int) + (1 : Int32) = zI ((t + 1 : Nat) : Int) := by rw [z_1, zI_add]; rfl
      have e2 : zI (o : Int) + (1 : Int32) = zI ((o + 1 : Nat) : Int) := by rw [z_1, zI_add]; rfl
      show X2_earliestFit_c13 _ _ ν (zI (i : Nat)) (zI (o : Nat)) (zI (t : Nat)) = _
      unfold X2_earliestFit_c13
      rw [wd_chk_in (by omega) (by omega) (by omega), zI_clN (by omega), c3, capL y.2.1, if_neg (by rw [zI_le (zR_small (by omega) (by omega)) (zR_small (by omega) (by omega))]; omega), roomX hb hs hl hw hi (by omega)]
      simp only [Option.bind_some]
      by_cases hr : w t + c i ≤ R
      · rw [decide_eq_true hr, if_neg (by decide), e2]
        unfold X2_earliestFit_b44
        rw [wd_chk_in (by omega) (by omega) (by omega), zI_clN (by omega), c1, e1]
        by_cases hd : o + 1 < D i
        · rw [if_pos (by rw [zI_lt (zR_small (by omega) (by omega)) (zR_small (by omega) (by omega))]; omega)]
          refine ih q (o + 1) (t + 1) (by omega) (by omega) (by omega) hd (by omega) (fun x z1 z2 => ?_) (fun z z1 z2 => h7 z z1 (by omega))
          by_cases hx : x = t
          · rw [hx]; exact hr
          · exact h6 x (by omega) (by omega)
        · rw [if_neg (by rw [zI_lt (zR_small (by omega) (by omega)) (zR_small (by omega) (by omega))]; omega), zI_sub, efN_is (v := t - o) (by omega) (by omega) (ftB_iff.mpr (fun x z1 z2 => by
            by_cases hx : x = t
            · rw [hx]; exact hr
            · exact h6 x (by omega) (by omega))) (fun z z1 z2 => h7 z z1 (by omega))]
          show some (zI _) = some (zI ((t - o : Nat) : Int))
          congr 2
          omega
      · rw [decide_eq_false hr, if_pos (by decide)]
        unfold X2_earliestFit_b44
        rw [wd_chk_in (by omega) (by omega) (by omega), zI_clN (by omega), c1, e1, show (0 : Int32) = zI ((0 : Nat) : Int) from z_0, if_pos (by rw [zI_lt (zR_small (by omega) (by omega)) (zR_small (by omega) (by omega))]; omega)]
        refine ih q 0 (t + 1) (by omega) (by omega) (by omega) (by omega) (by omega) (fun x z1 z2 => by omega) (fun z z1 z2 => ?_)
        by_cases hz : z + o < t
        · exact h7 z z1 hz
        · exact ftB_f.mpr ⟨t, by omega, by omega, by omega⟩
theorem earX {ν : wd_Mem} {w : Nat → Nat} {i : Nat} (hb : bdS n R e l D c) (hs : schX ν n R e l D c) (hl : ldX ν w) (hw : ∀ t, w t ≤ R) (hi : i < n) : X2_earliestFit ν (zI (i : Nat)) = some (zI (oI (efN R e l D c w i))) := by
  have y := hb.2.2 i hi
  have hn := hb.1
  obtain ⟨c1, c2, c3, c4⟩ := hs.2.2 i hi
  unfold X2_earliestFit X2_earliestFit_b0
  rw [wd_chk_in (by omega) (by omega) (by omega), zI_clN (by omega), c2, flo0 y.1]
  exact earXl hb hs hl hw hi 16 wd_big 0 (e i) (by omega) (by omega) (by unfold wd_big; omega) (by omega) (by omega) (fun x z1 z2 => by omega) (fun z z1 z2 => by omega)
theorem fillX {ν : wd_Mem} {i x d : Nat} {v : Int} {f : Nat → Int} (hi : i < 5) (hd : ν 4 i = zI (d : Nat)) (hx : x + d ≤ 16) (hl : ∀ t, t < 16 → ν 26 t = zI (f t)) : ∃ τ : wd_Mem, X2_fill ν (zI (i : Nat)) (zI (x : Nat)) (zI v) = some τ ∧ (∀ t, t < 16 → τ 26 t = zI (if x ≤ t ∧ t < x + d then f t + v else f t)) ∧ ∀ a, a ≠ 26 → τ a = ν a := by
  have key : ∃ τ : wd_Mem, ((∀ t, t < 16 → τ 26 t = zI (if x ≤ t ∧ t < x + d then f t + v else f t)) ∧ ∀ a, a ≠ 26 → τ a = ν a) ∧ X2_fill_l3 (fun μ => X2_fill_b43 μ) (zI (i : Nat)) (zI (x : Nat)) (zI v) wd_big (zI ((x + 0 : Nat) : Int)) ν = some τ := by
    refine wd_for0 (fun q j m => X2_fill_l3 (fun μ => X2_fill_b43 μ) (zI (i : Nat)) (zI (x : Nat)) (zI v) q (zI ((x + j : Nat) : Int)) m) (fun m => some m) (fun j τ => (∀ t, t < 16 → τ 26 t = zI (if x ≤ t ∧ t < x + j then f t + v else f t)) ∧ ∀ a, a ≠ 26 → τ a = ν a) d ν (by omega) ⟨fun t ht => by rw [if_neg (by omega)]; exact hl t ht, fun _ _ => rfl⟩ (fun j m q hj hI => ?_) (fun m q hI => ?_)
    · refine ⟨mset m 26 (x + j) (zI (f (x + j) + v)), ⟨fun t ht => ?_, fun a ha => by rw [mset_ne ha]; exact hI.2 a ha⟩, ?_⟩
      · by_cases q1 : t = x + j
        · rw [q1, mset_eq, if_pos (by omega)]
        · rw [mset_j _ _ _ _ q1, hI.1 t ht]
          by_cases q2 : x ≤ t ∧ t < x + j
          · rw [if_pos q2, if_pos (by omega)]
          · rw [if_neg q2, if_neg (by omega)]
      · show X2_fill_c3 _ _ m (zI (i : Nat)) (zI (x : Nat)) (zI v) (zI ((x + j : Nat) : Int)) = _
        have e1 : zI ((x + j : Nat) : Int) + (1 : Int32) = zI ((x + (j + 1) : Nat) : Int) := by rw [z_1, zI_add]; rfl
        unfold X2_fill_c3
        rw [wd_chk_in (by omega) (by omega) (by omega), zI_clN (show i < 2147483648 by omega), hI.2 4 (by decide), hd, zI_add, if_neg (by rw [zI_le (zR_small (by omega) (by omega)) (zR_small (by omega) (by omega))]; omega), z_16, if_neg (by rw [zI_le (zR_small (by omega) (by omega)) (zR_small (by omega) (by omega))]; omega), wd_chk_in (by omega) (by omega) (by omega), zI_clN (show x + j < 2147483648 by omega), hI.1 (x + j) (by omega), if_neg (by omega), zI_add, e1]
    · show X2_fill_c3 _ _ m (zI (i : Nat)) (zI (x : Nat)) (zI v) (zI ((x + d : Nat) : Int)) = _
      unfold X2_fill_c3 X2_fill_b43
      rw [wd_chk_in (by omega) (by omega) (by omega), zI_clN (show i < 2147483648 by omega), hI.2 4 (by decide), hd, zI_add, if_pos (by rw [zI_le (zR_small (by omega) (by omega)) (zR_small (by omega) (by omega))]; omega)]
  obtain ⟨τ, ⟨k1, k2⟩, k3⟩ := key
  exact ⟨τ, k3, k1, k2⟩
theorem fillUp {ν : wd_Mem} {w : Nat → Nat} {i x : Nat} (hi : i < 5) (hd : ν 4 i = zI (D i : Nat)) (hx : x + D i ≤ 16) (hl : ldX ν w) : ∃ τ : wd_Mem, X2_fill ν (zI (i : Nat)) (zI (x : Nat)) (zI (c i : Nat)) = some τ ∧ ldX τ (flN w x (D i) (c i)) ∧ ∀ a, a ≠ 26 → τ a = ν a := by
  obtain ⟨τ, a1, a2, a3⟩ := fillX (v := (c i : Nat)) hi hd hx hl
  refine ⟨τ, a1, fun t ht => ?_, a3⟩
  rw [a2 t ht]
  unfold flN
  split
  · congr 1
  · rfl
theorem fillDn {ν : wd_Mem} {w : Nat → Nat} {i x : Nat} (hi : i < 5) (hd : ν 4 i = zI (D i : Nat)) (hx : x + D i ≤ 16) (hl : ldX ν (flN w x (D i) (c i))) : ∃ τ : wd_Mem, X2_fill ν (zI (i : Nat)) (zI (x : Nat)) (-(zI (c i : Nat))) = some τ ∧ ldX τ w ∧ ∀ a, a ≠ 26 → τ a = ν a := by
  obtain ⟨τ, a1, a2, a3⟩ := fillX (v := -(c i : Nat)) hi hd hx hl
  refine ⟨τ, by rw [zI_neg]; exact a1, fun t ht => ?_, a3⟩
  rw [a2 t ht]
  unfold flN
  split
  · congr 1
    omega
  · rfl
end
theorem n_or32 : ∀ S, S < 32 → ∀ i, i < 5 → S ||| 2 ^ i < 32 := by decide +kernel
section
variable {n R : Nat} {e l D c : Nat → Nat}
theorem fl_R {w : Nat → Nat} {x d k : Nat} (hw : ∀ t, w t ≤ R) (hf : ftB R w k x d = true) (t : Nat) : flN w x d k t ≤ R := by
  unfold flN
  split <;> rename_i q
  · exact ftB_iff.mp hf t q.1 q.2
  · exact hw t
theorem besX (hb : bdS n R e l D c) : ∀ (m f : Nat) (P : Nat → Bool) (S : Nat) (w : Nat → Nat) (ν : wd_Mem), m < f → m ≤ n → S < 32 → (∀ j, j < 5 → S.testBit j = P j) → schX ν n R e l D c → ldX ν w → (∀ t, w t ≤ R) → ∃ τ : wd_Mem, X2_isAnyBeside f ν (zI (S : Nat)) (zI ((n - m : Nat) : Int)) = some (bI (anyS n R e l D c m P w), τ) ∧ ldX τ w ∧ ∀ a, a ≠ 26 → τ a = ν a := by
  have hn := hb.1
  intro m
  induction m with
  | zero =>
    intro f P S w ν hf hm hS hP hs hl hw
    obtain ⟨f, rfl⟩ : ∃ a, f = a + 1 := ⟨f - 1, by omega⟩
    refine ⟨ν, ?_, hl, fun _ _ => rfl⟩
    show X2_isAnyBeside_b0 (X2_isAnyBeside f) ν _ _ = _
    unfold X2_isAnyBeside_b0
    rw [hs.1, if_neg (by rw [zI_lt (zR_small (by omega) (by omega)) (zR_small (by omega) (by omega))]; omega)]
    rfl
  | succ m ihm =>
    intro f P S w ν hf hm hS hP hs hl hw
    obtain ⟨f, rfl⟩ : ∃ a, f = a + 1 := ⟨f - 1, by omega⟩
    have hloop : ∀ (k i q : Nat) (ν : wd_Mem), i + k = n → k < q → schX ν n R e l D c → ldX ν w → ∃ τ : wd_Mem, X2_isAnyBeside_l15 (X2_isAnyBeside f) (fun μ => X2_isAnyBeside_b102 (X2_isAnyBeside f) μ) (zI (S : Nat)) (zI ((n - (m + 1) : Nat) : Int)) q (zI (i : Nat)) ν = some (bI (lpS (efN R e l D c w) P (fun i x => anyS n R e l D c m (upB P i) (flN w x (D i) (c i))) k i), τ) ∧ ldX τ w ∧ ∀ a, a ≠ 26 → τ a = ν a := by
      intro k
      induction k with
      | zero =>
        intro i q ν hi hq hs hl
        obtain ⟨q, rfl⟩ : ∃ a, q = a + 1 := ⟨q - 1, by omega⟩
        refine ⟨ν, ?_, hl, fun _ _ => rfl⟩
        show X2_isAnyBeside_c15 _ _ _ ν _ _ (zI (i : Nat)) = _
        unfold X2_isAnyBeside_c15 X2_isAnyBeside_b102
        rw [hs.1, if_pos (by rw [zI_le (zR_small (by omega) (by omega)) (zR_small (by omega) (by omega))]; omega)]
        rfl
      | succ k ihk =>
        intro i q ν hi hq hs hl
        obtain ⟨q, rfl⟩ : ∃ a, q = a + 1 := ⟨q - 1, by omega⟩
        have e1 : zI (i : Int) + (1 : Int32) = zI ((i + 1 : Nat) : Int) := by rw [z_1, zI_add]; rfl
        have hi5 : i < 5 := by omega
        have e0 : ∀ K, X2_isAnyBeside_l15 (X2_isAnyBeside f) K (zI (S : Nat)) (zI ((n - (m + 1) : Nat) : Int)) (q + 1) (zI (i : Nat)) ν = X2_isAnyBeside_c15 (X2_isAnyBeside f) (X2_isAnyBeside_l15 (X2_isAnyBeside f) K (zI (S : Nat)) (zI ((n - (m + 1) : Nat) : Int)) q) K ν (zI (S : Nat)) (zI ((n - (m + 1) : Nat) : Int)) (zI (i : Nat)) := fun _ => rfl
        rw [e0]
        unfold X2_isAnyBeside_c15 X2_isAnyBeside_b96
        rw [hs.1, if_neg (by rw [zI_le (zR_small (by omega) (by omega)) (zR_small (by omega) (by omega))]; omega), b_has S hS i hi5, hP i hi5, bit_ite, e1]
        simp only [lpS]
        by_cases hPi : P i = true
        · rw [if_pos hPi, if_pos hPi]
          exact ihk (i + 1) q ν (by omega) (by omega) hs hl
        · rw [if_neg hPi, if_neg hPi, earX hb hs hl hw (by omega)]
          simp only [Option.bind_some]
          cases he : efN R e l D c w i with
          | none =>
            refine ⟨ν, ?_, hl, fun _ _ => rfl⟩
            rw [if_neg (by decide)]
            rfl
          | some x =>
            obtain ⟨f1, f2, f3, f4⟩ := efN_some he
            have y := hb.2.2 i (by omega)
            obtain ⟨c1, c2, c3, c4⟩ := hs.2.2 i (by omega)
            obtain ⟨τ1, a1, a2, a3⟩ := fillUp (c := c) (D := D) hi5 c1 (show x + D i ≤ 16 by omega) hl
            have hs1 := schX_congr (fun a ha => a3 a (by omega)) hs
            obtain ⟨τ2, b1, b2, b3⟩ := ihm f (upB P i) (S ||| 2 ^ i) (flN w x (D i) (c i)) τ1 (by omega) (by omega) (n_or32 S hS i hi5) (fun j hj => by
              rw [n_or_bit i hi5 S hS j hj, hP j hj]
              rfl) hs1 a2 (fl_R hw f3)
            have hs2 := schX_congr (fun a ha => b3 a (by omega)) hs1
            obtain ⟨d1, d2, d3, d4⟩ := hs2.2.2 i (by omega)
            obtain ⟨τ3, g1, g2, g3⟩ := fillDn (c := c) (D := D) hi5 d1 (show x + D i ≤ 16 by omega) b2
            have hs3 := schX_congr (fun a ha => g3 a (by omega)) hs2
            have ef : ∀ a, a ≠ 26 → τ3 a = ν a := fun a ha => by rw [g3 a ha, b3 a ha, a3 a ha]
            have e2 : zI ((n - (m + 1) : Nat) : Int) + (1 : Int32) = zI ((n - m : Nat) : Int) := by rw [z_1, zI_add]; congr 1; omega
            dsimp only
            rw [show oI (some x) = ((x : Nat) : Int) from rfl, if_pos (by rw [z_0, zI_le (zR_small (by omega) (by omega)) (zR_small (by omega) (by omega))]; omega), wd_chk_in (by omega) (by omega) (by omega), zI_clN (by omega), c4, a1]
            simp only [Option.bind_some]
            rw [b_or1 S hS i hi5, e2, b1]
            simp only [Option.bind_some]
            rw [d4, g1]
            simp only [Option.bind_some]
            by_cases hA : anyS n R e l D c m (upB P i) (flN w x (D i) (c i)) = true
            · rw [if_pos hA, if_neg (by rw [hA]; decide)]
              exact ⟨τ3, rfl, g2, ef⟩
            · rw [if_neg hA, if_pos (by rw [bI_0]; exact Bool.eq_false_iff.mpr hA)]
              obtain ⟨τ4, k1, k2, k3⟩ := ihk (i + 1) q τ3 (by omega) (by omega) hs3 g2
              exact ⟨τ4, k1, k2, fun a ha => by rw [k3 a ha, ef a ha]⟩
    obtain ⟨τ, a1, a2, a3⟩ := hloop n 0 wd_big ν (by omega) (by unfold wd_big; omega) hs hl
    refine ⟨τ, ?_, a2, a3⟩
    show X2_isAnyBeside_b0 (X2_isAnyBeside f) ν _ _ = _
    unfold X2_isAnyBeside_b0
    rw [hs.1, if_pos (by rw [zI_lt (zR_small (by omega) (by omega)) (zR_small (by omega) (by omega))]; omega)]
    exact a1
def aB (n R : Nat) (e l D c : Nat → Nat) : Bool := anyS n R e l D c n (fun _ => false) (fun _ => 0)
theorem aB_iff : aB n R e l D c = true ↔ ∃ b, fea n R e l D c b := any_iff
theorem isAnyX {ν : wd_Mem} (hb : bdS n R e l D c) (hs : schX ν n R e l D c) (hl : rLoad ν) : ∃ τ : wd_Mem, X2_isAny ν = some (bI (aB n R e l D c), τ) ∧ rLoad τ ∧ ∀ a, a ≠ 26 → τ a = ν a := by
  obtain ⟨τ, a1, a2, a3⟩ := besX hb n 8 (fun _ => false) 0 (fun _ => 0) ν (by have := hb.1; omega) (Nat.le_refl _) (by omega) (fun j _ => by simp) hs (fun t ht => by rw [hl t ht]; rfl) (fun _ => Nat.zero_le _)
  refine ⟨τ, ?_, fun t ht => by rw [a2 t ht]; rfl, a3⟩
  unfold X2_isAny X2_isAny_b0
  rw [Nat.sub_self] at a1
  have a1' : X2_isAnyBeside 8 ν 0 0 = _ := a1
  rw [a1']
  simp only [Option.bind_some]
  rw [wd_chk_t (bI_bit _)]
  rfl
end
