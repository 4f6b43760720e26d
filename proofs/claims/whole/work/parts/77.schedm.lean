/-! ===== the reference: going through beginnings ===== -/
def lU (L : Nat → Nat) (U : Nat) (i : Nat) : Nat := min (L i) U
def schM (ν : wd_Mem) (n R : Nat) (e L D c : Nat → Nat) : Prop := ν 31 0 = zI (n : Nat) ∧ ν 31 1 = zI (R : Nat) ∧ ∀ i, i < n → ν 34 i = zI (e i : Nat) ∧ ν 34 (5 + i) = zI (L i : Nat) ∧ ν 32 i = zI (D i : Nat) ∧ ν 47 i = zI (c i : Nat)
theorem schM_congr {ν τ : wd_Mem} {n R : Nat} {e L D c : Nat → Nat} (f : ∀ a, a ≠ 45 → a ≠ 46 → τ a = ν a) (h : schM ν n R e L D c) : schM τ n R e L D c := by
  unfold schM
  rw [f 31 (by decide) (by decide), f 34 (by decide) (by decide), f 32 (by decide) (by decide), f 47 (by decide) (by decide)]
  exact h
def ldM (ν : wd_Mem) (w : Nat → Nat) : Prop := ∀ t, t < 16 → ν 46 t = zI (w t : Nat)
section
variable {n R : Nat} {e L D c : Nat → Nat}
theorem isRoomM {ν : wd_Mem} {w : Nat → Nat} {i x : Nat} (hn : n ≤ 5) (hR : R ≤ 20) (hc : c i ≤ 20) (hD : D i ≤ 9) (hs : schM ν n R e L D c) (hl : ldM ν w) (hw : ∀ t, w t ≤ R) (hi : i < n) (hx : ν 45 i = zI (x : Nat)) (hxd : x + D i ≤ 16) : X8_isRoom ν (zI (i : Nat)) = some (bI (ftB R w (c i) x (D i))) := by
  obtain ⟨c1, c2, c3, c4⟩ := hs.2.2 i hi
  have key : ∀ (m k q : Nat) (b : Bool), k + m = D i → m < q → X8_isRoom_l9 (fun x2 => X8_isRoom_b62 ν x2) ν (zI (i : Nat)) q (bI b) (zI ((x + k : Nat) : Int)) = some (bI (b && !anyF (fun k => decide (R < w (x + k) + c i)) k m)) := by
    intro m
    induction m with
    | zero =>
      intro k q b hk hq
      obtain ⟨q, rfl⟩ : ∃ a, q = a + 1 := ⟨q - 1, by omega⟩
      show X8_isRoom_c9 _ _ ν (zI (i : Nat)) (bI b) (zI ((x + k : Nat) : Int)) = _
      unfold X8_isRoom_c9 X8_isRoom_b62
      rw [wd_chk_in (by omega) (by omega) (by omega), zI_clN (by omega), hx, c3, zI_add, if_pos (by rw [zI_le (zR_small (by omega) (by omega)) (zR_small (by omega) (by omega))]; omega)]
      dsimp only
      rw [wd_chk_t (bI_bit b)]
      simp [anyF]
    | succ m ih =>
      intro k q b hk hq
      obtain ⟨q, rfl⟩ : ∃ a, q = a + 1 := ⟨q - 1, by omega⟩
      have e1 : zI ((x + k : Nat) : Int) + (1 : Int32) = zI ((x + (k + 1) : Nat) : Int) := by rw [z_1, zI_add]; rfl
      have hwt := hw (x + k)
      show X8_isRoom_c9 _ _ ν (zI (i : Nat)) (bI b) (zI ((x + k : Nat) : Int)) = _
      unfold X8_isRoom_c9 X8_isRoom_b54 X8_isRoom_b55
      rw [wd_chk_in (by omega) (by omega) (by omega), zI_clN (by omega), hx, c3, zI_add, if_neg (by rw [zI_le (zR_small (by omega) (by omega)) (zR_small (by omega) (by omega))]; omega), e1]
      simp only [anyF]
      cases b with
      | false =>
        rw [if_pos (by decide)]
        have := ih (k + 1) q false (by omega) (by omega)
        simpa [bI] using this
      | true =>
        rw [if_neg (by decide), wd_chk_in (by omega) (by omega) (by omega), zI_clN (by omega), hs.2.1, hl (x + k) (by omega), c4, zI_add]
        by_cases hc : R < w (x + k) + c i
        · rw [if_pos (by rw [zI_lt (zR_small (by omega) (by omega)) (zR_small (by omega) (by omega))]; omega)]
          have := ih (k + 1) q false (by omega) (by omega)
          simpa [bI, hc] using this
        · rw [if_neg (by rw [zI_lt (zR_small (by omega) (by omega)) (zR_small (by omega) (by omega))]; omega)]
          have := ih (k + 1) q true (by omega) (by omega)
          simpa [bI, hc] using this
  unfold X8_isRoom X8_isRoom_b0 ftB
  rw [wd_chk_in (by omega) (by omega) (by omega), zI_clN (by omega), hx]
  have := key (D i) 0 wd_big true (by omega) (by unfold wd_big; omega)
  simpa [bI] using this
theorem runsM {ν : wd_Mem} {f : Nat → Int} {i x : Nat} {s : Int} (hn : n ≤ 5) (hD : D i ≤ 9) (hs : schM ν n R e L D c) (hl : ∀ t, t < 16 → ν 46 t = zI (f t)) (hi : i < n) (hx : ν 45 i = zI (x : Nat)) (hxd : x + D i ≤ 16) : ∃ τ : wd_Mem, X8_runs ν (zI (i : Nat)) (zI s) = some τ ∧ (∀ t, t < 16 → τ 46 t = zI (if x ≤ t ∧ t < x + D i then f t + s * (c i : Nat) else f t)) ∧ ∀ a, a ≠ 46 → τ a = ν a := by
  obtain ⟨c1, c2, c3, c4⟩ := hs.2.2 i hi
  have key : ∃ τ : wd_Mem, ((∀ t, t < 16 → τ 46 t = zI (if x ≤ t ∧ t < x + D i then f t + s * (c i : Nat) else f t)) ∧ ∀ a, a ≠ 46 → τ a = ν a) ∧ X8_runs_l7 (fun μ => X8_runs_b47 μ) (zI (i : Nat)) (zI s) wd_big (zI ((x + 0 : Nat) : Int)) ν = some τ := by
    refine wd_for0 (fun q j m => X8_runs_l7 (fun μ => X8_runs_b47 μ) (zI (i : Nat)) (zI s) q (zI ((x + j : Nat) : Int)) m) (fun m => some m) (fun j τ => (∀ t, t < 16 → τ 46 t = zI (if x ≤ t ∧ t < x + j then f t + s * (c i : Nat) else f t)) ∧ ∀ a, a ≠ 46 → τ a = ν a) (D i) ν (by omega) ⟨fun t ht => by rw [if_neg (by omega)]; exact hl t ht, fun _ _ => rfl⟩ (fun j m q hj hI => ?_) (fun m q hI => ?_)
    · refine ⟨mset m 46 (x + j) (zI (f (x + j) + s * (c i : Nat))), ⟨fun t ht => ?_, fun a ha => by rw [mset_ne ha]; exact hI.2 a ha⟩, ?_⟩
      · by_cases q1 : t = x + j
        · rw [q1, mset_eq, if_pos (by omega)]
        · rw [mset_j _ _ _ _ q1, hI.1 t ht]
          by_cases q2 : x ≤ t ∧ t < x + j
          · rw [if_pos q2, if_pos (by omega)]
          · rw [if_neg q2, if_neg (by omega)]
      · show X8_runs_c7 _ _ m (zI (i : Nat)) (zI s) (zI ((x + j : Nat) : Int)) = _
        have e1 : zI ((x + j : Nat) : Int) + (1 : Int32) = zI ((x + (j + 1) : Nat) : Int) := by rw [z_1, zI_add]; rfl
        unfold X8_runs_c7
        rw [wd_chk_in (by omega) (by omega) (by omega), zI_clN (show i < 2147483648 by omega), hI.2 45 (by decide), hI.2 32 (by decide), hI.2 47 (by decide), hx, c3, c4, zI_add, if_neg (by rw [zI_le (zR_small (by omega) (by omega)) (zR_small (by omega) (by omega))]; omega), wd_chk_in (by omega) (by omega) (by omega), zI_clN (show x + j < 2147483648 by omega), hI.1 (x + j) (by omega), if_neg (by omega), zI_mul, zI_add, e1]
    · show X8_runs_c7 _ _ m (zI (i : Nat)) (zI s) (zI ((x + D i : Nat) : Int)) = _
      unfold X8_runs_c7 X8_runs_b47
      rw [wd_chk_in (by omega) (by omega) (by omega), zI_clN (show i < 2147483648 by omega), hI.2 45 (by decide), hI.2 32 (by decide), hx, c3, zI_add, if_pos (by rw [zI_le (zR_small (by omega) (by omega)) (zR_small (by omega) (by omega))]; omega)]
  obtain ⟨τ, ⟨k1, k2⟩, k3⟩ := key
  refine ⟨τ, ?_, k1, k2⟩
  unfold X8_runs X8_runs_b0
  rw [wd_chk_in (by omega) (by omega) (by omega), zI_clN (by omega), hx]
  exact k3
theorem runUp {ν : wd_Mem} {w : Nat → Nat} {i x : Nat} (hn : n ≤ 5) (hD : D i ≤ 9) (hs : schM ν n R e L D c) (hl : ldM ν w) (hi : i < n) (hx : ν 45 i = zI (x : Nat)) (hxd : x + D i ≤ 16) : ∃ τ : wd_Mem, X8_runs ν (zI (i : Nat)) (1 : Int32) = some τ ∧ ldM τ (flN w x (D i) (c i)) ∧ ∀ a, a ≠ 46 → τ a = ν a := by
  obtain ⟨τ, a1, a2, a3⟩ := runsM (s := 1) hn hD hs hl hi hx hxd
  refine ⟨τ, a1, fun t ht => ?_, a3⟩
  rw [a2 t ht]
  unfold flN
  split
  · congr 1
    omega
  · rfl
theorem runDn {ν : wd_Mem} {w : Nat → Nat} {i x : Nat} (hn : n ≤ 5) (hD : D i ≤ 9) (hs : schM ν n R e L D c) (hl : ldM ν (flN w x (D i) (c i))) (hi : i < n) (hx : ν 45 i = zI (x : Nat)) (hxd : x + D i ≤ 16) : ∃ τ : wd_Mem, X8_runs ν (zI (i : Nat)) (-1 : Int32) = some τ ∧ ldM τ w ∧ ∀ a, a ≠ 46 → τ a = ν a := by
  obtain ⟨τ, a1, a2, a3⟩ := runsM (s := -1) hn hD hs hl hi hx hxd
  refine ⟨τ, a1, fun t ht => ?_, a3⟩
  rw [a2 t ht]
  unfold flN
  split
  · congr 1
    omega
  · rfl
def qT (T A : Int) (i x : Nat) : Bool := decide ((i : Int) ≠ T ∨ (x : Int) = A)
def stM (ν : wd_Mem) (n R : Nat) (e L D c : Nat → Nat) (i x : Nat) (w b : Nat → Nat) : Prop := schM ν n R e L D c ∧ ldM ν w ∧ (∀ j, j < i → ν 45 j = zI (b j : Nat)) ∧ ν 45 i = zI ((x : Int) - 1)
theorem stM_at {ν : wd_Mem} {i x : Nat} {w b : Nat → Nat} (h : stM ν n R e L D c i x w b) : stM (mset ν 45 i (zI (x : Nat))) n R e L D c i (x + 1) w b := by
  obtain ⟨h1, h2, h3, h4⟩ := h
  refine ⟨schM_congr (fun a p q => mset_ne p) h1, fun t ht => by rw [mset_h _ _ _ _ (by decide)]; exact h2 t ht, fun j hj => by rw [mset_j _ _ _ _ (by omega)]; exact h3 j hj, ?_⟩
  rw [mset_eq]
  congr 1
  omega
variable {U lim : Nat} {T A : Int} {K : Int32 → wd_Mem → Option (Int32 × wd_Mem)}
theorem iterM {ν : wd_Mem} {i x k q : Nat} {w b : Nat → Nat} (hb : bdS n R e (lU L U) D c) (hL : ∀ i, i < n → L i ≤ 16) (hU : U ≤ 16) (hi : i < n) (hs : stM ν n R e L D c i x w b) : X8_schedules_l53 K (zI (lim : Nat)) (zI (U : Nat)) (zI T) (zI A) (q + 1) (zI (k : Nat)) (zI (i : Nat)) ν = X8_schedules_b95 (X8_schedules_l53 K (zI (lim : Nat)) (zI (U : Nat)) (zI T) (zI A) q) K (mset ν 45 i (zI (x : Nat))) (zI (lim : Nat)) (zI (U : Nat)) (zI T) (zI A) (zI (k : Nat)) (zI (i : Nat)) (zI (lU L U i : Nat)) := by
  have hn := hb.1
  have hLi := hL i hi
  obtain ⟨h1, h2, h3, h4⟩ := hs
  obtain ⟨c1, c2, c3, c4⟩ := h1.2.2 i hi
  have q5 : (5 : Int32) + zI i = zI ((5 + i : Nat) : Int) := by rw [z_5, zI_add]; rfl
  have e1 : zI ((x : Int) - 1) + (1 : Int32) = zI (x : Nat) := by rw [z_1, zI_add]; congr 1; omega
  show X8_schedules_c53 _ _ ν _ _ _ _ _ (zI (i : Nat)) = _
  unfold X8_schedules_c53
  rw [if_neg (by rw [z_0, zI_lt (zR_small (by omega) (by omega)) (zR_small (by omega) (by omega))]; omega), wd_chk_in (by omega) (by omega) (by omega), q5, wd_chk_in (by omega) (by omega) (by omega), zI_clN (by omega), zI_clN (by omega), c2, h4, e1]
  unfold lU
  by_cases z : U ≤ L i
  · rw [if_pos (by rw [zI_le (zR_small (by omega) (by omega)) (zR_small (by omega) (by omega))]; omega), Nat.min_eq_right z]
  · rw [if_neg (by rw [zI_le (zR_small (by omega) (by omega)) (zR_small (by omega) (by omega))]; omega), Nat.min_eq_left (by omega)]
theorem candM {ν : wd_Mem} {i x k q : Nat} {w b : Nat → Nat} (hb : bdS n R e (lU L U) D c) (hL : ∀ i, i < n → L i ≤ 16) (hU : U ≤ 16) (hT : -9 ≤ T ∧ T ≤ 5) (hA : 0 ≤ A ∧ A ≤ 100) (hi : i < n) (hw : ∀ t, w t ≤ R) (hs : stM ν n R e L D c i x w b) (hx : x + D i ≤ lU L U i) : X8_schedules_l53 K (zI (lim : Nat)) (zI (U : Nat)) (zI T) (zI A) (q + 1) (zI (k : Nat)) (zI (i : Nat)) ν = (if okS R D c (qT T A) w i x = true then (if zI (i : Nat) = ((mset ν 45 i (zI (x : Nat))) 31 0) - (1 : Int32) then (if (zI (k : Nat) + (1 : Int32)) = zI (lim : Nat) then some ((zI (k : Nat) + (1 : Int32)), mset ν 45 i (zI (x : Nat))) else X8_schedules_l53 K (zI (lim : Nat)) (zI (U : Nat)) (zI T) (zI A) q (zI (k : Nat) + (1 : Int32)) (zI (i : Nat)) (mset ν 45 i (zI (x : Nat)))) else (X8_runs (mset ν 45 i (zI (x : Nat))) (zI (i : Nat)) (1 : Int32)).bind (fun r16 => wd_chk (wd_in ((0 : Int32) + (zI (i : Nat) + (1 : Int32))) 30) (wd_chk (wd_in (zI (i : Nat) + (1 : Int32)) 5) (X8_schedules_l53 K (zI (lim : Nat)) (zI (U : Nat)) (zI T) (zI A) q (zI (k : Nat)) (zI (i : Nat) + (1 : Int32)) (mset r16 45 (Int32.toNatClampNeg (zI (i : Nat) + (1 : Int32))) ((r16 34 (Int32.toNatClampNeg ((0 : Int32) + (zI (i : Nat) + (1 : Int32))))) - (1 : Int32))))))) else X8_schedules_l53 K (zI (lim : Nat)) (zI (U : Nat)) (zI T) (zI A) q (zI (k : Nat)) (zI (i : Nat)) (mset ν 45 i (zI (x : Nat)))) := by
  have hn := hb.1
  have y := hb.2.2 i hi
  have s1 := stM_at hs
  obtain ⟨c1, c2, c3, c4⟩ := s1.1.2.2 i hi
  rw [iterM hb hL hU hi hs]
  have eR := isRoomM (x := x) hn hb.2.1 y.2.2.2.2 y.2.2.2.1 s1.1 s1.2.1 hw hi (mset_eq _ _ _ _) (by omega)
  obtain ⟨ν1, hν1⟩ : ∃ m, m = mset ν 45 i (zI (x : Nat)) := ⟨_, rfl⟩
  have g45 : ν1 45 i = zI (x : Nat) := by rw [hν1, mset_eq]
  rw [← hν1] at eR c3 ⊢
  unfold X8_schedules_b95
  rw [wd_chk_in (by omega) (by omega) (by omega), zI_clN (by omega), g45, c3, zI_add, if_pos (by rw [zI_le (zR_small (by omega) (by omega)) (zR_small (by omega) (by omega))]; omega)]
  unfold X8_schedules_b153 X8_schedules_b213
  rw [eR]
  simp only [Option.bind_some, bI_0]
  unfold okS qT
  by_cases hT1 : (i : Int) = T
  · rw [if_pos (by rw [hT1])]
    by_cases hA1 : (x : Int) = A
    · rw [if_pos (by rw [hA1]), decide_eq_true (Or.inr hA1), Bool.true_and]
      cases ftB R w (c i) x (D i) with
      | true => rw [if_neg (by decide), if_pos rfl]
      | false => rw [if_pos rfl, if_neg (by decide)]
    · rw [if_neg (by rw [zI_eq (zR_small (by omega) (by omega)) (zR_small (by omega) (by omega))]; exact hA1), decide_eq_false (fun h => h.elim (fun h => h hT1) hA1), Bool.false_and, if_neg (by decide)]
  · rw [if_neg (by rw [zI_eq (zR_small (by omega) (by omega)) (zR_small (by omega) (by omega))]; exact hT1), decide_eq_true (Or.inl hT1), Bool.true_and]
    cases ftB R w (c i) x (D i) with
    | true => rw [if_neg (by decide), if_pos rfl]
    | false => rw [if_pos rfl, if_neg (by decide)]
theorem exitM {ν : wd_Mem} {i x x0 k q : Nat} {w b : Nat → Nat} (hb : bdS n R e (lU L U) D c) (hL : ∀ i, i < n → L i ≤ 16) (hU : U ≤ 16) (hi : i + 1 < n) (hx17 : x ≤ 17) (hs : stM ν n R e L D c (i + 1) x (flN w x0 (D i) (c i)) b) (hb0 : b i = x0) (hx0 : x0 + D i ≤ 16) (hx : lU L U (i + 1) < x + D (i + 1)) : ∃ τ : wd_Mem, X8_schedules_l53 K (zI (lim : Nat)) (zI (U : Nat)) (zI T) (zI A) (q + 1) (zI (k : Nat)) (zI ((i + 1 : Nat) : Int)) ν = X8_schedules_l53 K (zI (lim : Nat)) (zI (U : Nat)) (zI T) (zI A) q (zI (k : Nat)) (zI (i : Nat)) τ ∧ stM τ n R e L D c i (x0 + 1) w b ∧ ∀ a, a ≠ 45 → a ≠ 46 → τ a = ν a := by
  have hn := hb.1
  have y := hb.2.2 (i + 1) hi
  have y0 := hb.2.2 i (by omega)
  have s1 := stM_at hs
  obtain ⟨c1, c2, c3, c4⟩ := s1.1.2.2 (i + 1) hi
  have hbi : (mset ν 45 (i + 1) (zI (x : Nat))) 45 i = zI (x0 : Nat) := by rw [s1.2.2.1 i (by omega), hb0]
  obtain ⟨τ, a1, a2, a3⟩ := runDn hn y0.2.2.2.1 s1.1 s1.2.1 (show i < n by omega) hbi hx0
  refine ⟨τ, ?_, ⟨schM_congr (fun a p q => a3 a q) s1.1, a2, fun j hj => by rw [a3 45 (by decide)]; exact s1.2.2.1 j (by omega), ?_⟩, fun a p q => by rw [a3 a q, mset_ne p]⟩
  · rw [iterM hb hL hU hi hs]
    obtain ⟨ν1, hν1⟩ : ∃ m, m = mset ν 45 (i + 1) (zI (x : Nat)) := ⟨_, rfl⟩
    have g45 : ν1 45 (i + 1) = zI (x : Nat) := by rw [hν1, mset_eq]
    rw [← hν1] at a1 c3 ⊢
    have em : zI ((i + 1 : Nat) : Int) + (-1 : Int32) = zI (i : Nat) := by rw [z_m1, zI_add]; congr 1; omega
    unfold X8_schedules_b95
    rw [wd_chk_in (by omega) (by omega) (by omega), zI_clN (by omega), g45, c3, zI_add, if_neg (by rw [zI_le (zR_small (by omega) (by omega)) (zR_small (by omega) (by omega))]; omega), em, if_neg (by rw [z_0, zI_lt (zR_small (by omega) (by omega)) (zR_small (by omega) (by omega))]; omega), a1]
    rfl
  · rw [a3 45 (by decide), hbi]
    congr 1
    omega
def gC : Nat → Nat
  | 0 => 0
  | m + 1 => 17 * (1 + gC m) + 1
end
