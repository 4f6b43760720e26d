/-! ===== SPAN ===== -/
def leF (e l D C : Nat → Int) (a b : Int) (j : Nat) : Int := C j * max 0 (min (min (D j) (b - a)) (min (e j + D j - a) (b - (l j - D j))))
theorem leF_bd {n j : Nat} {R : Int} {e l D C : Nat → Int} {a b : Int} (hb : bnd n R e l D C) (hj : j < n) : 0 ≤ leF e l D C a b j ∧ leF e l D C a b j ≤ 81 := by
  have y := hb.2.2.2 j hj
  have m := mul_bd (a := C j) (b := max 0 (min (min (D j) (b - a)) (min (e j + D j - a) (b - (l j - D j))))) (A := 9) (B := 9) (by omega) (by omega) (by omega) (by omega)
  unfold leF
  exact ⟨Int.mul_nonneg (by omega) (by omega), by omega⟩
theorem leastX {s : wd_Mem} {n j : Nat} {R : Int} {e l D C : Nat → Int} {a b : Int} (hb : bnd n R e l D C) (hs : sgx s n R e l D C) (hj : j < n) (ha : 0 ≤ a ∧ a ≤ 17) (hb2 : 0 ≤ b ∧ b ≤ 17) : X3_least s (zI j) (zI a) (zI b) = some (zI (leF e l D C a b j)) := by
  have hn := hb.1
  have y := hb.2.2.2 j hj
  obtain ⟨f1, f2, f3, f4⟩ := hs.2.2.2.1 j hj
  obtain ⟨c4, c5⟩ := hs.2.2.1 j hj
  unfold X3_least X3_least_b0
  rw [wd_chk_in (by omega) (by omega) (by omega), zI_clN (by omega), f3, f4, c4, c5]
  simp only [zI_sub]
  rw [zmin (zR_small (by omega) (by omega)) (zR_small (by omega) (by omega)), zmin (zR_small (by omega) (by omega)) (zR_small (by omega) (by omega)), zmin (zR_small (by omega) (by omega)) (zR_small (by omega) (by omega)), z_0, zmax (zR_small (by omega) (by omega)) (zR_small (by omega) (by omega)), zI_mul]
  rfl
theorem lesserM (μ : wd_Mem) {a b : Int} (ha : zR a) (hb : zR b) : X8_lesser μ (zI a) (zI b) = zI (min a b) := by
  unfold X8_lesser X8_lesser_b0
  rw [zl_le hb ha]
  by_cases h : b ≤ a
  · rw [if_pos h, show min a b = b by omega]
  · rw [if_neg h, show min a b = a by omega]
theorem leastM {s : wd_Mem} {n j : Nat} {R : Int} {e l D C : Nat → Int} {a b : Int} (hb : bnd n R e l D C) (hs : datV s n R e l D C) (hj : j < n) (ha : 0 ≤ a ∧ a ≤ 17) (hb2 : 0 ≤ b ∧ b ≤ 17) : X8_leastOf s (zI j) (zI a) (zI b) = some (zI (leF e l D C a b j)) := by
  have hn := hb.1
  have y := hb.2.2.2 j hj
  obtain ⟨c1, c2, c3, c4⟩ := hs.2.2 j hj
  unfold X8_leastOf X8_leastOf_b0
  rw [wd_chk_in (by omega) (by omega) (by omega), zI_clN (by omega), c3, c4, doneM hn hs hj, startM hn hs hj]
  simp only [Option.bind_some, zI_sub]
  rw [lesserM _ (zR_small (by omega) (by omega)) (zR_small (by omega) (by omega)), lesserM _ (zR_small (by omega) (by omega)) (zR_small (by omega) (by omega)), lesserM _ (zR_small (by omega) (by omega)) (zR_small (by omega) (by omega)), z_0, zl_le (zR_small (by omega) (by omega)) (zR_small (by omega) (by omega)), zI_mul]
  unfold leF
  by_cases h : 0 ≤ min (min (D j) (b - a)) (min (e j + D j - a) (b - (l j - D j)))
  · rw [if_pos h, Int.mul_comm, show max 0 (min (min (D j) (b - a)) (min (e j + D j - a) (b - (l j - D j)))) = min (min (D j) (b - a)) (min (e j + D j - a) (b - (l j - D j))) by omega]
  · rw [if_neg h, show max 0 (min (min (D j) (b - a)) (min (e j + D j - a) (b - (l j - D j)))) = 0 by omega, Int.mul_zero]
def lsF (e l D C : Nat → Int) (but a b : Int) (j : Nat) : Int := if (j : Int) = but then 0 else leF e l D C a b j
theorem lsF_bd {n : Nat} {R : Int} {e l D C : Nat → Int} {but a b : Int} (hb : bnd n R e l D C) {k : Nat} (hk : k ≤ n) : 0 ≤ sumF (lsF e l D C but a b) k ∧ sumF (lsF e l D C but a b) k ≤ 405 := by
  have hn := hb.1
  have h := sumF_bd (f := lsF e l D C but a b) (m := 81) k (fun j hj => by
    have := leF_bd (a := a) (b := b) hb (show j < n by omega)
    unfold lsF
    split <;> omega)
  omega
def frF (n : Nat) (R : Int) (e l D C : Nat → Int) (but a b : Int) : Int := R * (b - a) - sumF (lsF e l D C but a b) n
theorem roomR {R a b : Int} (h1 : 1 ≤ R) (h2 : R ≤ 20) (ha : 0 ≤ a ∧ a ≤ 17) (hb : 0 ≤ b ∧ b ≤ 17) : -400 ≤ R * (b - a) ∧ R * (b - a) ≤ 400 := by
  have m := mul_bd (a := R) (b := b - a) (A := 20) (B := 20) (by omega) (by omega) (by omega) (by omega)
  omega
theorem freeX {s : wd_Mem} {n : Nat} {R : Int} {e l D C : Nat → Int} {but a b : Int} (hb : bnd n R e l D C) (hs : sgx s n R e l D C) (hbut : -9 ≤ but ∧ but ≤ 5) (ha : 0 ≤ a ∧ a ≤ 17) (hb2 : 0 ≤ b ∧ b ≤ 17) : X3_free s (zI but) (zI a) (zI b) = some (zI (frF n R e l D C but a b)) := by
  have hn := hb.1
  have key := wd_forF (fun q j x => X3_free_l16 (fun x4 => X3_free_b57 s x4) s (zI but) (zI a) (zI b) q x (zI (j : Nat))) (fun x => some x) (fun j => zI (R * (b - a) - sumF (lsF e l D C but a b) j)) n (by omega) (fun j q hj => by
    show X3_free_c16 _ _ s (zI but) (zI a) (zI b) (zI (R * (b - a) - sumF (lsF e l D C but a b) j)) (zI j) = _
    have e1 : zI (j : Int) + (1 : Int32) = zI ((j + 1 : Nat) : Int) := by rw [z_1, zI_add]; rfl
    unfold X3_free_c16 X3_free_b48
    rw [hs.1, if_neg (by rw [zI_le (zR_small (by omega) (by omega)) (zR_small (by omega) (by omega))]; omega), e1, zl_eq (zR_small (by omega) (by omega)) (zR_small (by omega) (by omega)), leastX hb hs hj ha hb2]
    simp only [Option.bind_some, sumF, lsF, z_0, zI_sub]
    by_cases h : (j : Int) = but
    · rw [if_pos h, if_pos h]
      congr 2
      omega
    · rw [if_neg h, if_neg h]
      congr 2
      omega) (fun q => by
    show X3_free_c16 _ _ s (zI but) (zI a) (zI b) _ (zI n) = _
    unfold X3_free_c16 X3_free_b57
    rw [hs.1, if_pos (Int32.le_refl _)])
  unfold X3_free X3_free_b0
  rw [hs.2.1, zI_sub, zI_mul, z_0]
  have e0 : R * (b - a) - sumF (lsF e l D C but a b) 0 = R * (b - a) := by simp [sumF]
  rw [e0] at key
  exact key
def moF (e D C : Nat → Int) (i : Nat) (a b : Int) : Int := C i * max 0 (min (min (D i) (b - a)) (e i + D i - a))
theorem moF_bd {n j : Nat} {R : Int} {e l D C : Nat → Int} {a b : Int} (hb : bnd n R e l D C) (hj : j < n) : 0 ≤ moF e D C j a b ∧ moF e D C j a b ≤ 81 := by
  have y := hb.2.2.2 j hj
  have m := mul_bd (a := C j) (b := max 0 (min (min (D j) (b - a)) (e j + D j - a))) (A := 9) (B := 9) (by omega) (by omega) (by omega) (by omega)
  unfold moF
  exact ⟨Int.mul_nonneg (by omega) (by omega), by omega⟩
theorem mostX {s : wd_Mem} {n j : Nat} {R : Int} {e l D C : Nat → Int} {a b : Int} (hb : bnd n R e l D C) (hs : sgx s n R e l D C) (hj : j < n) (ha : 0 ≤ a ∧ a ≤ 17) (hb2 : 0 ≤ b ∧ b ≤ 17) : X3_mostLeft s (zI j) (zI a) (zI b) = some (zI (moF e D C j a b)) := by
  have hn := hb.1
  have y := hb.2.2.2 j hj
  obtain ⟨f1, f2, f3, f4⟩ := hs.2.2.2.1 j hj
  obtain ⟨c4, c5⟩ := hs.2.2.1 j hj
  unfold X3_mostLeft X3_mostLeft_b0
  rw [wd_chk_in (by omega) (by omega) (by omega), zI_clN (by omega), f3, c4, c5]
  simp only [zI_sub]
  rw [zmin (zR_small (by omega) (by omega)) (zR_small (by omega) (by omega)), zmin (zR_small (by omega) (by omega)) (zR_small (by omega) (by omega)), z_0, zmax (zR_small (by omega) (by omega)) (zR_small (by omega) (by omega)), zI_mul]
  rfl
def spB (n : Nat) (R : Int) (e l D C : Nat → Int) (i a b : Nat) (p : Int × Int) : Int × Int := if 0 ≤ frF n R e l D C i a b ∧ frF n R e l D C i a b < moF e D C i a b then tl ((b : Int) - frF n R e l D C i a b / C i) (100 * (a : Int) + b) p else p
def spI (n : Nat) (R : Int) (e l D C : Nat → Int) (i a : Nat) (p : Int × Int) : Int × Int := foF (fun k => spB n R e l D C i a (a + 1 + k)) (16 - a) p
theorem frF_bd {n i : Nat} {R : Int} {e l D C : Nat → Int} {but a b : Int} (hb : bnd n R e l D C) (ha : 0 ≤ a ∧ a ≤ 17) (hb2 : 0 ≤ b ∧ b ≤ 17) : -1000 ≤ frF n R e l D C but a b ∧ frF n R e l D C but a b ≤ 1000 := by
  have l1 := lsF_bd (but := but) (a := a) (b := b) hb (Nat.le_refl n)
  have r1 := roomR hb.2.1 hb.2.2.1 ha hb2
  unfold frF
  omega
theorem spV_bd {n i : Nat} {R : Int} {e l D C : Nat → Int} {x : Int} (hb : bnd n R e l D C) (hi : i < n) (h : 0 ≤ x) : 0 ≤ x / C i ∧ x / C i ≤ x := by
  have y := hb.2.2.2 i hi
  exact ⟨Int.ediv_nonneg h (by omega), Int.ediv_le_self (C i) h⟩
theorem spB_bd {n i a b : Nat} {R : Int} {e l D C : Nat → Int} (hb : bnd n R e l D C) (hi : i < n) (ha : a ≤ 17) (hb2 : b ≤ 17) (p : Int × Int) (hp : bP p) : bP (spB n R e l D C i a b p) := by
  have f := frF_bd (i := i) (but := (i : Int)) (a := (a : Int)) (b := (b : Int)) hb (by omega) (by omega)
  unfold spB
  split
  · rename_i h
    have := spV_bd hb hi h.1
    exact tl_bd hp (by omega) (by omega)
  · exact hp
theorem spI_in {n i a : Nat} {R : Int} {e l D C : Nat → Int} : inR (spI n R e l D C i a) := inR_foF (fun k => inR_ite (inR_tl _ _) inR_id) _
theorem foF_bd' {b : Nat → Int × Int → Int × Int} {N : Nat} (h : ∀ k, k < N → ∀ p, bP p → bP (b k p)) {p : Int × Int} (hp : bP p) : ∀ k, k ≤ N → bP (foF b k p)
  | 0, _ => hp
  | k + 1, hk => h k (by omega) _ (foF_bd' h hp k (by omega))
theorem spI_bd {n i a : Nat} {R : Int} {e l D C : Nat → Int} (hb : bnd n R e l D C) (hi : i < n) (ha : a < 16) (p : Int × Int) (hp : bP p) {k : Nat} (hk : k ≤ 16 - a) : bP (foF (fun k => spB n R e l D C i a (a + 1 + k)) k p) := foF_bd' (N := 16 - a) (fun k hk p hp => spB_bd hb hi (by omega) (by omega) p hp) hp k hk
theorem spanXi {s : wd_Mem} {n i a : Nat} {R : Int} {e l D C : Nat → Int} {p : Int × Int} (K : wd_Mem → Option wd_Mem) (hb : bnd n R e l D C) (hs : sgx s n R e l D C) (hi : i < n) (ha : a < 16) (hp : bP p) : X1_bySpan_l23 K (zI i) (zI (C i)) (zI a) wd_big (zI ((a + 1 : Nat) : Int)) (tMX s i p) = K (tMX s i (spI n R e l D C i a p)) := by
  have hn := hb.1
  have y := hb.2.2.2 i hi
  have key := wd_forF (fun q k m => X1_bySpan_l23 K (zI i) (zI (C i)) (zI a) q (zI ((a + 1 + k : Nat) : Int)) m) K (fun k => tMX s i (foF (fun k => spB n R e l D C i a (a + 1 + k)) k p)) (16 - a) (by omega) (fun k q hk => by
    show X1_bySpan_c23 _ _ (tMX s i (foF (fun k => spB n R e l D C i a (a + 1 + k)) k p)) (zI i) (zI (C i)) (zI a) (zI ((a + 1 + k : Nat) : Int)) = _
    have hP : bP (foF (fun k => spB n R e l D C i a (a + 1 + k)) k p) := spI_bd hb hi ha p hp (by omega)
    have hs' : sgx (tMX s i (foF (fun k => spB n R e l D C i a (a + 1 + k)) k p)) n R e l D C := sgx_t hs
    have e1 : zI ((a + 1 + k : Nat) : Int) + (1 : Int32) = zI ((a + 1 + (k + 1) : Nat) : Int) := by rw [z_1, zI_add]; rfl
    have f := frF_bd (i := i) (but := (i : Int)) (a := (a : Int)) (b := ((a + 1 + k : Nat) : Int)) hb (by omega) (by omega)
    have m := moF_bd (a := (a : Int)) (b := ((a + 1 + k : Nat) : Int)) hb hi
    unfold X1_bySpan_c23 X1_bySpan_b87
    rw [if_neg (by rw [z_16, zI_lt (zR_small (by omega) (by omega)) (zR_small (by omega) (by omega))]; omega), e1, freeX hb hs' (by omega) (by omega) (by omega), mostX hb hs' hi (by omega) (by omega)]
    simp only [Option.bind_some]
    rw [z_0, zl_lt (zR_small (by omega) (by omega)) (zR_small (by omega) (by omega)), zl_le (zR_small (by omega) (by omega)) (zR_small (by omega) (by omega)), zl_le (zR_small (by omega) (by omega)) (zR_small (by omega) (by omega)), wd_chk_nz (zR_small (by omega) (by omega)) (by omega), if_neg (show ¬ C i ≤ 0 by omega), z_100, zI_mul, zI_add]
    simp only [foF]
    generalize foF (fun k => spB n R e l D C i a (a + 1 + k)) k p = P at hP ⊢
    unfold spB
    by_cases h1 : frF n R e l D C i a ((a + 1 + k : Nat) : Int) < 0
    · rw [if_pos h1, if_neg (by omega)]
    · rw [if_neg h1]
      by_cases h2 : moF e D C i a ((a + 1 + k : Nat) : Int) ≤ frF n R e l D C i a ((a + 1 + k : Nat) : Int)
      · rw [if_pos h2, if_neg (by omega)]
      · have v := spV_bd (x := frF n R e l D C i a ((a + 1 + k : Nat) : Int)) hb hi (by omega)
        rw [if_neg h2, if_pos (by omega), zI_div (by omega) (by omega) (by omega) (by omega), zI_sub, tellX (by omega) hP (by omega) (by omega)]
        rfl) (fun q => by
    show X1_bySpan_c23 _ _ (tMX s i (foF (fun k => spB n R e l D C i a (a + 1 + k)) (16 - a) p)) (zI i) (zI (C i)) (zI a) (zI ((a + 1 + (16 - a) : Nat) : Int)) = _
    unfold X1_bySpan_c23
    rw [if_pos (by rw [z_16, zI_lt (zR_small (by omega) (by omega)) (zR_small (by omega) (by omega))]; omega)])
  exact key
theorem spO_bd {n i : Nat} {R : Int} {e l D C : Nat → Int} (hb : bnd n R e l D C) (hi : i < n) {p : Int × Int} (hp : bP p) {k : Nat} (hk : k ≤ 16) : bP (foF (spI n R e l D C i) k p) := foF_bd' (N := 16) (fun k hk p hp => spI_bd hb hi hk p hp (Nat.le_refl _)) hp k hk
theorem spanX {s : wd_Mem} {n i : Nat} {R : Int} {e l D C : Nat → Int} {p : Int × Int} (hb : bnd n R e l D C) (hs : sgx s n R e l D C) (hi : i < n) (hp : bP p) : X1_bySpan (tMX s i p) (zI i) = some (tMX s i (foF (spI n R e l D C i) 16 p)) := by
  have hn := hb.1
  have key := wd_forF (fun q a m => X1_bySpan_l12 (fun μ => X1_bySpan_b99 μ) (zI i) (zI (C i)) q (zI (a : Nat)) m) (fun m => some m) (fun a => tMX s i (foF (spI n R e l D C i) a p)) 16 (by omega) (fun a q ha => by
    show X1_bySpan_c12 _ _ (tMX s i (foF (spI n R e l D C i) a p)) (zI i) (zI (C i)) (zI (a : Nat)) = _
    have hP : bP (foF (spI n R e l D C i) a p) := spO_bd hb hi hp (by omega)
    have e1 : zI (a : Int) + (1 : Int32) = zI ((a + 1 : Nat) : Int) := by rw [z_1, zI_add]; rfl
    unfold X1_bySpan_c12
    rw [if_neg (by rw [z_16, zI_le (zR_small (by omega) (by omega)) (zR_small (by omega) (by omega))]; omega), e1, spanXi _ hb hs hi ha hP]
    unfold X1_bySpan_b93
    rw [e1]
    rfl) (fun q => by
    show X1_bySpan_c12 _ _ (tMX s i (foF (spI n R e l D C i) 16 p)) (zI i) (zI (C i)) (zI ((16 : Nat) : Int)) = _
    unfold X1_bySpan_c12 X1_bySpan_b99
    rw [if_pos (by decide)])
  have hs' : sgx (tMX s i p) n R e l D C := sgx_t hs
  unfold X1_bySpan X1_bySpan_b0
  rw [wd_chk_in (by omega) (by omega) (by omega), zI_clN (by omega), (hs'.2.2.1 i hi).2, z_0]
  exact key
theorem freeM {s : wd_Mem} {n : Nat} {R : Int} {e l D C : Nat → Int} {but a b : Int} (K : Int32 → Option wd_Mem) (hb : bnd n R e l D C) (hs : datV s n R e l D C) (hbut : -9 ≤ but ∧ but ≤ 5) (ha : 0 ≤ a ∧ a ≤ 17) (hb2 : 0 ≤ b ∧ b ≤ 17) : X8_spans_l31 K s (zI but) (zI a) (zI b) wd_big (zI (R * (b - a))) (zI 0) = K (zI (frF n R e l D C but a b)) := by
  have hn := hb.1
  have key := wd_forF (fun q j x => X8_spans_l31 K s (zI but) (zI a) (zI b) q x (zI (j : Nat))) K (fun j => zI (R * (b - a) - sumF (lsF e l D C but a b) j)) n (by omega) (fun j q hj => by
    show X8_spans_c31 _ _ s (zI but) (zI a) (zI b) (zI (R * (b - a) - sumF (lsF e l D C but a b) j)) (zI j) = _
    have e1 : zI (j : Int) + (1 : Int32) = zI ((j + 1 : Nat) : Int) := by rw [z_1, zI_add]; rfl
    unfold X8_spans_c31 X8_spans_b60
    rw [hs.1, if_neg (by rw [zI_le (zR_small (by omega) (by omega)) (zR_small (by omega) (by omega))]; omega), e1, zl_eq (zR_small (by omega) (by omega)) (zR_small (by omega) (by omega)), leastM hb hs hj ha hb2]
    simp only [Option.bind_some, sumF, lsF, z_0, zI_sub]
    by_cases h : (j : Int) = but
    · rw [if_pos h, if_pos h]
      congr 2
      omega
    · rw [if_neg h, if_neg h]
      congr 2
      omega) (fun q => by
    show X8_spans_c31 _ _ s (zI but) (zI a) (zI b) _ (zI n) = _
    unfold X8_spans_c31
    rw [hs.1, if_pos (Int32.le_refl _)])
  have e0 : R * (b - a) - sumF (lsF e l D C but a b) 0 = R * (b - a) := by simp [sumF]
  rw [e0] at key
  exact key
theorem spanMi {s : wd_Mem} {n i a : Nat} {R : Int} {e l D C : Nat → Int} {p : Int × Int} (K : wd_Mem → Option wd_Mem) (hb : bnd n R e l D C) (hs : datV s n R e l D C) (hi : i < n) (ha : a < 16) (hp : bP p) : X8_spans_l12 K (zI i) (zI a) wd_big (zI ((a + 1 : Nat) : Int)) (tMM s i p) = K (tMM s i (spI n R e l D C i a p)) := by
  have hn := hb.1
  have y := hb.2.2.2 i hi
  have key := wd_forF (fun q k m => X8_spans_l12 K (zI i) (zI a) q (zI ((a + 1 + k : Nat) : Int)) m) K (fun k => tMM s i (foF (fun k => spB n R e l D C i a (a + 1 + k)) k p)) (16 - a) (by omega) (fun k q hk => by
    show X8_spans_c12 _ _ (tMM s i (foF (fun k => spB n R e l D C i a (a + 1 + k)) k p)) (zI i) (zI a) (zI ((a + 1 + k : Nat) : Int)) = _
    have hP : bP (foF (fun k => spB n R e l D C i a (a + 1 + k)) k p) := spI_bd hb hi ha p hp (by omega)
    have hs' : datV (tMM s i (foF (fun k => spB n R e l D C i a (a + 1 + k)) k p)) n R e l D C := datV_t hs
    have e1 : zI ((a + 1 + k : Nat) : Int) + (1 : Int32) = zI ((a + 1 + (k + 1) : Nat) : Int) := by rw [z_1, zI_add]; rfl
    have f := frF_bd (i := i) (but := (i : Int)) (a := (a : Int)) (b := ((a + 1 + k : Nat) : Int)) hb (by omega) (by omega)
    have m := moF_bd (a := (a : Int)) (b := ((a + 1 + k : Nat) : Int)) hb hi
    obtain ⟨c1, c2, c3, c4⟩ := hs'.2.2 i hi
    have own : ∀ (rec : Int32 → wd_Mem → Option wd_Mem) (K : wd_Mem → Option wd_Mem) (x : Int32), X8_spans_b69 rec K (tMM s i (foF (fun k => spB n R e l D C i a (a + 1 + k)) k p)) (zI i) (zI a) (zI ((a + 1 + k : Nat) : Int)) x = X8_spans_b111 rec K (tMM s i (foF (fun k => spB n R e l D C i a (a + 1 + k)) k p)) (zI i) (zI a) (zI ((a + 1 + k : Nat) : Int)) x (zI (moF e D C i a ((a + 1 + k : Nat) : Int))) := by
      intro rec K x
      unfold X8_spans_b69
      rw [doneM hn hs' hi]
      simp only [Option.bind_some]
      rw [zl_le (zR_small (by omega) (by omega)) (zR_small (by omega) (by omega)), wd_chk_in (by omega) (by omega) (by omega), zI_clN (by omega), c3, c4, zI_sub, zI_sub, lesserM _ (zR_small (by omega) (by omega)) (zR_small (by omega) (by omega)), lesserM _ (zR_small (by omega) (by omega)) (zR_small (by omega) (by omega)), zI_mul]
      unfold moF
      by_cases h : e i + D i ≤ (a : Int)
      · rw [if_pos h, show max 0 (min (min (D i) (((a + 1 + k : Nat) : Int) - a)) (e i + D i - a)) = 0 by omega, Int.mul_zero, z_0]
      · rw [if_neg h, show max 0 (min (min (D i) (((a + 1 + k : Nat) : Int) - a)) (e i + D i - a)) = min (min (D i) (((a + 1 + k : Nat) : Int) - a)) (e i + D i - a) by omega]
    unfold X8_spans_c12
    rw [if_neg (by rw [z_16, zI_lt (zR_small (by omega) (by omega)) (zR_small (by omega) (by omega))]; omega), hs'.2.1, zI_sub, zI_mul, z_0, freeM _ hb hs' (by omega) (by omega) (by omega), own]
    unfold X8_spans_b111 X8_spans_b147
    rw [e1, z_0, zl_lt (zR_small (by omega) (by omega)) (zR_small (by omega) (by omega)), zl_le (zR_small (by omega) (by omega)) (zR_small (by omega) (by omega)), wd_chk_in (by omega) (by omega) (by omega), zI_clN (by omega), c4, wd_chk_nz (zR_small (by omega) (by omega)) (by omega), z_100, zI_mul, zI_add]
    simp only [foF]
    generalize foF (fun k => spB n R e l D C i a (a + 1 + k)) k p = P at hP ⊢
    unfold spB
    by_cases h1 : frF n R e l D C i a ((a + 1 + k : Nat) : Int) < 0
    · rw [if_pos h1, if_neg (by omega)]
    · rw [if_neg h1]
      by_cases h2 : moF e D C i a ((a + 1 + k : Nat) : Int) ≤ frF n R e l D C i a ((a + 1 + k : Nat) : Int)
      · rw [if_pos h2, if_neg (by omega)]
      · have v := spV_bd (x := frF n R e l D C i a ((a + 1 + k : Nat) : Int)) hb hi (by omega)
        rw [if_neg h2, if_pos (by omega), zI_div (by omega) (by omega) (by omega) (by omega), zI_sub, tellM (by omega) hP (by omega) (by omega)]
        rfl) (fun q => by
    show X8_spans_c12 _ _ (tMM s i (foF (fun k => spB n R e l D C i a (a + 1 + k)) (16 - a) p)) (zI i) (zI a) (zI ((a + 1 + (16 - a) : Nat) : Int)) = _
    unfold X8_spans_c12
    rw [if_pos (by rw [z_16, zI_lt (zR_small (by omega) (by omega)) (zR_small (by omega) (by omega))]; omega)])
  exact key
theorem spanM {s : wd_Mem} {n i : Nat} {R : Int} {e l D C : Nat → Int} {p : Int × Int} (hb : bnd n R e l D C) (hs : datV s n R e l D C) (hi : i < n) (hp : bP p) : X8_spans (tMM s i p) (zI i) = some (tMM s i (foF (spI n R e l D C i) 16 p)) := by
  have hn := hb.1
  have key := wd_forF (fun q a m => X8_spans_l2 (fun μ => X8_spans_b159 μ) (zI i) q (zI (a : Nat)) m) (fun m => some m) (fun a => tMM s i (foF (spI n R e l D C i) a p)) 16 (by omega) (fun a q ha => by
    show X8_spans_c2 _ _ (tMM s i (foF (spI n R e l D C i) a p)) (zI i) (zI (a : Nat)) = _
    have hP : bP (foF (spI n R e l D C i) a p) := spO_bd hb hi hp (by omega)
    have e1 : zI (a : Int) + (1 : Int32) = zI ((a + 1 : Nat) : Int) := by rw [z_1, zI_add]; rfl
    unfold X8_spans_c2
    rw [if_neg (by rw [z_16, zI_le (zR_small (by omega) (by omega)) (zR_small (by omega) (by omega))]; omega), e1, spanMi _ hb hs hi ha hP]
    unfold X8_spans_b153
    rw [e1]
    rfl) (fun q => by
    show X8_spans_c2 _ _ (tMM s i (foF (spI n R e l D C i) 16 p)) (zI i) (zI ((16 : Nat) : Int)) = _
    unfold X8_spans_c2 X8_spans_b159
    rw [if_pos (by decide)])
  unfold X8_spans X8_spans_b0
  rw [z_0]
  exact key
