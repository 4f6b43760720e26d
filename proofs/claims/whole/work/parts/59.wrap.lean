/-! ===== WRAP ===== -/
theorem n_ex : ∀ n, n < 6 → ∀ p, p < 32 → p < 2 ^ n → 0 < p → (List.range n).any (fun j => p.testBit j) = true := by decide +kernel
theorem n_ex' {n p : Nat} (hn : n ≤ 5) (hp : p < 2 ^ n) (h0 : 0 < p) : ∃ j, j < n ∧ p.testBit j = true := by
  have p5 := pow5 hn
  have h := n_ex n (by omega) p (by omega) hp h0
  obtain ⟨j, hj, hb⟩ := List.any_eq_true.mp h
  exact ⟨j, List.mem_range.mp hj, hb⟩
def wrF (g : Nat → Int) (S : Nat) : Nat → Int → Nat → Int
  | 0, b, _ => b
  | q + 1, b, p => if p = 0 then b else wrF g S q (max b (g p)) ((p - 1) &&& S)
theorem wrF_congr {g g' : Nat → Int} {S N : Nat} (h : ∀ p, 0 < p → p < N → g p = g' p) : ∀ (f : Nat) (b : Int) (p : Nat), p < N → wrF g S f b p = wrF g' S f b p
  | 0, _, _, _ => rfl
  | f + 1, b, p, hp => by
    simp only [wrF]
    by_cases h0 : p = 0
    · rw [if_pos h0, if_pos h0]
    · rw [if_neg h0, if_neg h0, h p (by omega) hp, wrF_congr h f _ _ (by have := Nat.and_le_left (n := p - 1) (m := S); omega)]
/-- of a part: the room times its EARLY, and its energy -/
def wrG (R : Int) (e D C : Nat → Int) (b : Int) (n p : Nat) : Int := R * mnF e b n p + smF (enF D C) n p
theorem wrG_bd {R : Int} {e D C : Nat → Int} {b : Int} {n p : Nat} (hn : n ≤ 5) (hR : 1 ≤ R ∧ R ≤ 20) (hb : 0 ≤ b ∧ b ≤ 1000) (hB : ∀ i, i < n → 0 ≤ e i ∧ e i ≤ 16 ∧ 0 ≤ D i ∧ D i ≤ 9 ∧ 0 ≤ C i ∧ C i ≤ 9) : 0 ≤ wrG R e D C b n p ∧ wrG R e D C b n p ≤ 30000 := by
  have d1 := mnF_bd (e := e) (b := b) (lo := 0) hb.1 (S := p) n (fun j hj => (hB j hj).1)
  have d2 := smF_bd (e := enF D C) (m := 81) (S := p) n (fun j hj => by
    have y := hB j hj
    unfold enF
    exact ⟨Int.mul_nonneg y.2.2.1 y.2.2.2.2.1, by have := Int.mul_le_mul y.2.2.2.1 y.2.2.2.2.2 y.2.2.2.2.1 (by omega); omega⟩)
  have d3 : 0 ≤ R * mnF e b n p := Int.mul_nonneg (by omega) d1.1
  have d4 : R * mnF e b n p ≤ 20 * 1000 := Int.mul_le_mul hR.2 (by omega) d1.1 (by omega)
  unfold wrG
  omega
theorem wrapX {ν : wd_Mem} {n S : Nat} {R : Int} {e l D C : Nat → Int} (hn : n ≤ 5) (hR : 1 ≤ R ∧ R ≤ 20) (hB : ∀ i, i < n → 0 ≤ e i ∧ e i ≤ 16 ∧ 0 ≤ D i ∧ D i ≤ 9 ∧ 0 ≤ C i ∧ C i ≤ 9) (x0 : ν 3 0 = zI R) (hg : sgt ν n e l D C) (hS : S < 2 ^ n) : X3_wrapOf ν (zI S) = some (zI (wrF (wrG R e D C 1000 n) S 32 0 S)) := by
  have p5 := pow5 hn
  have key : ∀ (f q : Nat) (b : Int) (p : Nat), p ≤ f → f < q → p < 2 ^ n → 0 ≤ b → b ≤ 30000 → X3_wrapOf_l4 (fun x2 => X3_wrapOf_b43 ν x2) ν (zI S) q (zI b) (zI (p : Nat)) = some (zI (wrF (wrG R e D C 1000 n) S f b p)) := by
    intro f
    induction f with
    | zero =>
      intro q b p hp hq hp2 hb hb2
      obtain ⟨q, rfl⟩ : ∃ a, q = a + 1 := ⟨q - 1, by omega⟩
      have h0 : p = 0 := by omega
      subst h0
      show X3_wrapOf_c4 _ _ ν (zI S) (zI b) (zI ((0 : Nat) : Int)) = _
      unfold X3_wrapOf_c4 X3_wrapOf_b43
      rw [if_pos (by decide)]
      rfl
    | succ f ih =>
      intro q b p hp hq hp2 hb hb2
      obtain ⟨q, rfl⟩ : ∃ a, q = a + 1 := ⟨q - 1, by omega⟩
      show X3_wrapOf_c4 _ _ ν (zI S) (zI b) (zI (p : Nat)) = _
      by_cases h0 : p = 0
      · subst h0
        unfold X3_wrapOf_c4 X3_wrapOf_b43
        rw [if_pos (by decide)]
        simp [wrF]
      · have an := Nat.and_le_left (n := p - 1) (m := S)
        obtain ⟨g1, -, -, g4⟩ := hg.2 p hp2
        have bd := wrG_bd (p := p) (b := 1000) hn hR (by omega) hB
        unfold X3_wrapOf_c4
        rw [if_neg (by rw [z_0, zI_le (zR_small (by omega) (by omega)) (zR_small (by omega) (by omega))]; omega), wd_chk_in (by omega) (by omega) (by omega), zI_clN (by omega), x0, g1, g4, zI_mul, zI_add, show R * mnF e 1000 n p + smF (enF D C) n p = wrG R e D C 1000 n p from rfl, zmax (zR_small (by omega) (by omega)) (zR_small (by omega) (by omega)), b_sub S (by omega) p (by omega) (by omega), ih q _ _ (by omega) (by omega) (by omega) (by omega) (by omega)]
        simp only [wrF]
        rw [if_neg h0]
  unfold X3_wrapOf X3_wrapOf_b0
  rw [z_0]
  exact key 32 wd_big 0 S (by omega) (by unfold wd_big; omega) hS (by omega) (by omega)
theorem wrapM {ρ : wd_Mem} {n S : Nat} {R : Int} {e l D C : Nat → Int} (hn : n ≤ 5) (hR : 1 ≤ R ∧ R ≤ 20) (hV : bdV n e l D C) (hB : ∀ i, i < n → 0 ≤ e i ∧ e i ≤ 16 ∧ 0 ≤ D i ∧ D i ≤ 9 ∧ 0 ≤ C i ∧ C i ≤ 9) (hv : datV ρ n R e l D C) (hS : S < 2 ^ n) : X8_wrapOf ρ (zI S) = some (zI (wrF (wrG R e D C 99 n) S 32 (-1) S)) := by
  have p5 := pow5 hn
  have key : ∀ (f q : Nat) (b : Int) (p : Nat), p ≤ f → f < q → p < 2 ^ n → -1 ≤ b → b ≤ 30000 → X8_wrapOf_l4 (fun x2 => X8_wrapOf_b48 ρ x2) ρ (zI S) q (zI b) (zI (p : Nat)) = some (zI (wrF (wrG R e D C 99 n) S f b p)) := by
    intro f
    induction f with
    | zero =>
      intro q b p hp hq hp2 hb hb2
      obtain ⟨q, rfl⟩ : ∃ a, q = a + 1 := ⟨q - 1, by omega⟩
      have h0 : p = 0 := by omega
      subst h0
      show X8_wrapOf_c4 _ _ ρ (zI S) (zI b) (zI ((0 : Nat) : Int)) = _
      unfold X8_wrapOf_c4 X8_wrapOf_b48
      rw [if_pos (by decide)]
      rfl
    | succ f ih =>
      intro q b p hp hq hp2 hb hb2
      obtain ⟨q, rfl⟩ : ∃ a, q = a + 1 := ⟨q - 1, by omega⟩
      show X8_wrapOf_c4 _ _ ρ (zI S) (zI b) (zI (p : Nat)) = _
      by_cases h0 : p = 0
      · subst h0
        unfold X8_wrapOf_c4 X8_wrapOf_b48
        rw [if_pos (by decide)]
        simp [wrF]
      · have an := Nat.and_le_left (n := p - 1) (m := S)
        have bd := wrG_bd (p := p) (b := 99) hn hR (by omega) hB
        unfold X8_wrapOf_c4 X8_wrapOf_b38
        rw [if_neg (by rw [z_0, zI_le (zR_small (by omega) (by omega)) (zR_small (by omega) (by omega))]; omega), setEarlyM hn hV hv (by omega), energyM hn hv (by omega)]
        simp only [Option.bind_some]
        rw [hv.2.1, zI_mul, zI_add, show R * mnF e 99 n p + smF (enF D C) n p = wrG R e D C 99 n p from rfl, b_sub S (by omega) p (by omega) (by omega)]
        simp only [wrF]
        rw [if_neg h0]
        by_cases hle : wrG R e D C 99 n p ≤ b
        · rw [if_pos (by rw [zI_le (zR_small (by omega) (by omega)) (zR_small (by omega) (by omega))]; exact hle), ih q _ _ (by omega) (by omega) (by omega) (by omega) (by omega), show max b (wrG R e D C 99 n p) = b by omega]
        · rw [if_neg (by rw [zI_le (zR_small (by omega) (by omega)) (zR_small (by omega) (by omega))]; exact hle), ih q _ _ (by omega) (by omega) (by omega) (by omega) (by omega), show max b (wrG R e D C 99 n p) = wrG R e D C 99 n p by omega]
  unfold X8_wrapOf X8_wrapOf_b0
  rw [z_m1]
  exact key 32 wd_big (-1) S (by omega) (by unfold wd_big; omega) hS (by omega) (by omega)
theorem wrap_same {R : Int} {e D C : Nat → Int} {n S : Nat} (hn : n ≤ 5) (hR : 1 ≤ R ∧ R ≤ 20) (hB : ∀ i, i < n → 0 ≤ e i ∧ e i ≤ 16 ∧ 0 ≤ D i ∧ D i ≤ 9 ∧ 0 ≤ C i ∧ C i ≤ 9) (hS : S < 2 ^ n) (h0 : 0 < S) : wrF (wrG R e D C 1000 n) S 32 0 S = wrF (wrG R e D C 99 n) S 32 (-1) S := by
  have eqg : ∀ p, 0 < p → p < 2 ^ n → wrG R e D C 1000 n p = wrG R e D C 99 n p := fun p hp hp2 => by
    unfold wrG
    rw [mnF_base (b := 1000) (b' := 99) n (fun j hj => by have := hB j hj; omega) (n_ex' hn hp2 hp)]
  have bd := wrG_bd (p := S) (b := 99) hn hR (by omega) hB
  rw [wrF_congr eqg 32 0 S hS]
  show (if S = 0 then _ else _) = (if S = 0 then _ else _)
  rw [if_neg (by omega), if_neg (by omega), show max (0 : Int) (wrG R e D C 99 n S) = max (-1) (wrG R e D C 99 n S) by omega]
