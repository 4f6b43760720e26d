/-! ===== how many schedules: the class, the reference ===== -/
section
variable {n R : Nat} {e l D c o : Nat → Nat}
def q1 : Nat → Nat → Bool := fun _ _ => true
theorem countX (hb : bdS n R e l D c) : ∀ (m fu d f : Nat) (w : Nat → Nat) (ν : wd_Mem), d + m = n → m < fu → f < 9999 → schX ν n R e l D c → ordX ν n o → ldX ν w → (∀ t, w t ≤ R) → ν 21 6 = zI (f : Nat) → ∃ τ : wd_Mem, X2_countFrom fu ν (zI (d : Nat)) = some τ ∧ ldX τ w ∧ τ 21 6 = zI ((min 9999 (f + nc R e l D c q1 ((List.range' d m).map o) w) : Nat) : Int) ∧ ∀ a, a ≠ 26 → a ≠ 21 → τ a = ν a := by
  have hn := hb.1
  intro m
  induction m with
  | zero =>
    intro fu d f w ν h1 h2 hf hs ho hl hw hfo
    obtain ⟨fu, rfl⟩ : ∃ a, fu = a + 1 := ⟨fu - 1, by omega⟩
    refine ⟨mset ν 21 6 (zI ((f + 1 : Nat) : Int)), ?_, fun t ht => by rw [mset_h _ _ _ _ (by decide)]; exact hl t ht, ?_, fun a p q => mset_ne q⟩
    · show X2_countFrom_b0 _ ν (zI (d : Nat)) = _
      unfold X2_countFrom_b0
      rw [hs.1, if_neg (by rw [zI_lt (zR_small (by omega) (by omega)) (zR_small (by omega) (by omega))]; omega), hfo, z_1, zI_add]
      rfl
    · rw [mset_eq]
      show zI ((f + 1 : Nat) : Int) = zI ((min 9999 (f + 1) : Nat) : Int)
      congr 2
      omega
  | succ m ihm =>
    intro fu d f w ν h1 h2 hf hs ho hl hw hfo
    obtain ⟨fu, rfl⟩ : ∃ a, fu = a + 1 := ⟨fu - 1, by omega⟩
    obtain ⟨o1, o2⟩ := ho d (by omega)
    obtain ⟨i, hi⟩ : ∃ i, i = o d := ⟨_, rfl⟩
    rw [← hi] at o1 o2
    have y := hb.2.2 i o2
    have hlist : (List.range' d (m + 1)).map o = i :: (List.range' (d + 1) m).map o := by
      rw [List.range'_succ, List.map_cons, ← hi]
    rw [hlist]
    obtain ⟨F, hF⟩ : ∃ F : Nat → Nat, F = fun x => if okS R D c q1 w i x = true then nc R e l D c q1 ((List.range' (d + 1) m).map o) (flN w x (D i) (c i)) else 0 := ⟨_, rfl⟩
    have hnc : nc R e l D c q1 (i :: (List.range' (d + 1) m).map o) w = sR F (l i + 1 - (e i + D i)) (e i) := by rw [hF]; rfl
    rw [hnc]
    have hloop : ∀ (k q p t f : Nat) (ν : wd_Mem), l i ≤ t + k → t ≤ 16 → k < q → e i + p ≤ t → (∀ x, t ≤ x + p → x < t → w x + c i ≤ R) → (t = e i + p ∨ ∃ x, x + p + 1 = t ∧ R < w x + c i) → f ≤ 9999 → schX ν n R e l D c → ordX ν n o → ldX ν w → ν 21 6 = zI (f : Nat) → ∃ τ : wd_Mem, X2_countFrom_l43 (X2_countFrom fu) (fun μ => X2_countFrom_b126 (X2_countFrom fu) μ) (zI (d : Nat)) (zI (i : Nat)) q (zI (p : Nat)) (zI (t : Nat)) ν = some τ ∧ ldX τ w ∧ τ 21 6 = zI ((min 9999 (f + sR F (l i + 1 - (max (e i) (t + 1 - D i) + D i)) (max (e i) (t + 1 - D i))) : Nat) : Int) ∧ ∀ a, a ≠ 26 → a ≠ 21 → τ a = ν a := by
      intro k
      have fin : ∀ (q p t f : Nat) (ν : wd_Mem), l i ≤ t → t ≤ 16 → f ≤ 9999 → schX ν n R e l D c → ldX ν w → ν 21 6 = zI (f : Nat) → ∃ τ : wd_Mem, X2_countFrom_l43 (X2_countFrom fu) (fun μ => X2_countFrom_b126 (X2_countFrom fu) μ) (zI (d : Nat)) (zI (i : Nat)) (q + 1) (zI (p : Nat)) (zI (t : Nat)) ν = some τ ∧ ldX τ w ∧ τ 21 6 = zI ((min 9999 (f + sR F (l i + 1 - (max (e i) (t + 1 - D i) + D i)) (max (e i) (t + 1 - D i))) : Nat) : Int) ∧ ∀ a, a ≠ 26 → a ≠ 21 → τ a = ν a := by
        intro q p t f ν h1 h2 h3 hs hl hfo
        refine ⟨ν, ?_, hl, ?_, fun _ _ _ => rfl⟩
        · show X2_countFrom_c43 _ _ _ ν (zI (d : Nat)) (zI (i : Nat)) (zI (p : Nat)) (zI (t : Nat)) = _
          unfold X2_countFrom_c43 X2_countFrom_b126
          rw [wd_chk_in (by omega) (by omega) (by omega), zI_clN (by omega), (hs.2.2 i o2).2.2.1, capL y.2.1, if_pos (by rw [zI_le (zR_small (by omega) (by omega)) (zR_small (by omega) (by omega))]; omega)]
        · rw [hfo, show l i + 1 - (max (e i) (t + 1 - D i) + D i) = 0 by omega]
          simp only [sR]
          congr 2
          omega
      induction k with
      | zero =>
        intro q p t f ν g1 g2 g3 g4 g5 g6 g7 hs ho hl hfo
        obtain ⟨q, rfl⟩ : ∃ a, q = a + 1 := ⟨q - 1, by omega⟩
        exact fin q p t f ν (by omega) g2 g7 hs hl hfo
      | succ k ihk =>
        intro q p t f ν g1 g2 g3 g4 g5 g6 g7 hs ho hl hfo
        obtain ⟨q, rfl⟩ : ∃ a, q = a + 1 := ⟨q - 1, by omega⟩
        by_cases hlt : l i ≤ t
        · exact fin q p t f ν hlt g2 g7 hs hl hfo
        · obtain ⟨c1, c2, c3, c4⟩ := hs.2.2 i o2
          have e1 : zI (t : Int) + (1 : Int32) = zI ((t + 1 : Nat) : Int) := by rw [z_1, zI_add]; rfl
          have e2 : zI (p : Int) + (1 : Int32) = zI ((p + 1 : Nat) : Int) := by rw [z_1, zI_add]; rfl
          have hk : X2_countFrom_l43 (X2_countFrom fu) (fun μ => X2_countFrom_b126 (X2_countFrom fu) μ) (zI (d : Nat)) (zI (i : Nat)) (q + 1) (zI (p : Nat)) (zI (t : Nat)) ν = X2_countFrom_b76 (X2_countFrom fu) (X2_countFrom_l43 (X2_countFrom fu) (fun μ => X2_countFrom_b126 (X2_countFrom fu) μ) (zI (d : Nat)) (zI (i : Nat)) q) (fun μ => X2_countFrom_b126 (X2_countFrom fu) μ) ν (zI (d : Nat)) (zI (i : Nat)) (zI (t : Nat)) (zI ((if w t + c i ≤ R then p + 1 else 0 : Nat) : Int)) := by
            show X2_countFrom_c43 _ _ _ ν (zI (d : Nat)) (zI (i : Nat)) (zI (p : Nat)) (zI (t : Nat)) = _
            unfold X2_countFrom_c43
            rw [wd_chk_in (by omega) (by omega) (by omega), zI_clN (by omega), c3, capL y.2.1, if_neg (by rw [zI_le (zR_small (by omega) (by omega)) (zR_small (by omega) (by omega))]; omega), roomX hb hs hl hw o2 (by omega)]
            simp only [Option.bind_some]
            by_cases hr : w t + c i ≤ R
            · rw [decide_eq_true hr, if_neg (by decide), if_pos hr, e2]
            · rw [decide_eq_false hr, if_pos (by decide), if_neg hr]
              rfl
          rw [hk]
          obtain ⟨P, hP⟩ : ∃ P, P = (if w t + c i ≤ R then p + 1 else 0) := ⟨_, rfl⟩
          rw [← hP]
          have hP1 : e i + P ≤ t + 1 ∧ (∀ x, t + 1 ≤ x + P → x < t + 1 → w x + c i ≤ R) ∧ (t + 1 = e i + P ∨ ∃ x, x + P + 1 = t + 1 ∧ R < w x + c i) := by
            by_cases hr : w t + c i ≤ R
            · rw [if_pos hr] at hP
              refine ⟨by omega, fun x z1 z2 => ?_, ?_⟩
              · by_cases hx : x = t
                · rw [hx]; exact hr
                · exact g5 x (by omega) (by omega)
              · rcases g6 with g6 | ⟨x, x1, x2⟩
                · exact Or.inl (by omega)
                · exact Or.inr ⟨x, by omega, x2⟩
            · rw [if_neg hr] at hP
              exact ⟨by omega, fun x z1 z2 => by omega, Or.inr ⟨t, by omega, by omega⟩⟩
          obtain ⟨p1, p2, p3⟩ := hP1
          have next : ∀ (f' : Nat) (ν' : wd_Mem), f' ≤ 9999 → schX ν' n R e l D c → ordX ν' n o → ldX ν' w → ν' 21 6 = zI (f' : Nat) → (∀ a, a ≠ 26 → a ≠ 21 → ν' a = ν a) → min 9999 (f' + sR F (l i + 1 - (max (e i) (t + 1 + 1 - D i) + D i)) (max (e i) (t + 1 + 1 - D i))) = min 9999 (f + sR F (l i + 1 - (max (e i) (t + 1 - D i) + D i)) (max (e i) (t + 1 - D i))) → ∃ τ : wd_Mem, X2_countFrom_l43 (X2_countFrom fu) (fun μ => X2_countFrom_b126 (X2_countFrom fu) μ) (zI (d : Nat)) (zI (i : Nat)) q (zI (P : Nat)) (zI ((t + 1 : Nat) : Int)) ν' = some τ ∧ ldX τ w ∧ τ 21 6 = zI ((min 9999 (f + sR F (l i + 1 - (max (e i) (t + 1 - D i) + D i)) (max (e i) (t + 1 - D i))) : Nat) : Int) ∧ ∀ a, a ≠ 26 → a ≠ 21 → τ a = ν a := by
            intro f' ν' k1 k2 k3 k4 k5 k6 k7
            obtain ⟨τ, r1, r2, r3, r4⟩ := ihk q P (t + 1) f' ν' (by omega) (by omega) (by omega) p1 p2 p3 k1 k2 k3 k4 k5
            exact ⟨τ, r1, r2, by rw [r3, k7], fun a x y => by rw [r4 a x y, k6 a x y]⟩
          unfold X2_countFrom_b76 X2_countFrom_b120
          rw [wd_chk_in (by omega) (by omega) (by omega), zI_clN (by omega), c1, e1]
          by_cases hPD : P < D i
          · rw [if_pos (by rw [zI_lt (zR_small (by omega) (by omega)) (zR_small (by omega) (by omega))]; omega)]
            refine next f ν g7 hs ho hl hfo (fun _ _ _ => rfl) ?_
            by_cases ht : t + 1 < e i + D i
            · rw [show max (e i) (t + 1 + 1 - D i) = e i by omega, show max (e i) (t + 1 - D i) = e i by omega]
            · rw [show max (e i) (t + 1 + 1 - D i) = (t + 1 - D i) + 1 by omega, show max (e i) (t + 1 - D i) = t + 1 - D i by omega, show l i + 1 - (t + 1 - D i + D i) = (l i + 1 - (t + 1 - D i + 1 + D i)) + 1 by omega]
              simp only [sR]
              have hno : F (t + 1 - D i) = 0 := by
                rw [hF]
                dsimp only
                rw [if_neg]
                intro h
                unfold okS at h
                rw [Bool.and_eq_true] at h
                have hft := ftB_iff.mp h.2
                rcases p3 with p3 | ⟨x, x1, x2⟩
                · omega
                · have := hft x (by omega) (by omega)
                  omega
              rw [hno, Nat.zero_add]
          · rw [if_neg (by rw [zI_lt (zR_small (by omega) (by omega)) (zR_small (by omega) (by omega))]; omega)]
            have hX : max (e i) (t + 1 - D i) = t + 1 - D i := by omega
            have hX2 : max (e i) (t + 1 + 1 - D i) = (t + 1 - D i) + 1 := by omega
            have hft : ftB R w (c i) (t + 1 - D i) (D i) = true := ftB_iff.mpr (fun x z1 z2 => p2 x (by omega) (by omega))
            have hyes : F (t + 1 - D i) = nc R e l D c q1 ((List.range' (d + 1) m).map o) (flN w (t + 1 - D i) (D i) (c i)) := by
              rw [hF]
              dsimp only
              rw [if_pos]
              unfold okS
              rw [hft]
              rfl
            have hsum : sR F (l i + 1 - (t + 1 - D i + D i)) (t + 1 - D i) = F (t + 1 - D i) + sR F (l i + 1 - (t + 1 - D i + 1 + D i)) (t + 1 - D i + 1) := by
              rw [show l i + 1 - (t + 1 - D i + D i) = (l i + 1 - (t + 1 - D i + 1 + D i)) + 1 by omega]
              rfl
            rw [show (9999 : Int32) = zI 9999 from zI_lit 9999, hfo]
            by_cases hfull : 9999 ≤ f
            · rw [if_pos (by rw [zI_le (zR_small (by omega) (by omega)) (zR_small (by omega) (by omega))]; omega)]
              refine next f ν g7 hs ho hl hfo (fun _ _ _ => rfl) (by omega)
            · rw [if_neg (by rw [zI_le (zR_small (by omega) (by omega)) (zR_small (by omega) (by omega))]; omega)]
              obtain ⟨τ1, a1, a2, a3⟩ := fillUp (c := c) (D := D) (x := t + 1 - D i) (show i < 5 by omega) c1 (by omega) hl
              have hs1 := schX_congr (fun a ha => a3 a (by omega)) hs
              have ho1 : ordX τ1 n o := fun d hd => by rw [a3 25 (by decide)]; exact ho d hd
              obtain ⟨τ2, b1, b2, b3, b4⟩ := ihm fu (d + 1) f (flN w (t + 1 - D i) (D i) (c i)) τ1 (by omega) (by omega) (by omega) hs1 ho1 a2 (fl_R hw hft) (by rw [a3 21 (by decide)]; exact hfo)
              have hs2 := schX_congr (fun a ha => b4 a (by omega) (by omega)) hs1
              obtain ⟨d1, d2, d3, d4⟩ := hs2.2.2 i o2
              obtain ⟨τ3, g1', g2', g3'⟩ := fillDn (c := c) (D := D) (x := t + 1 - D i) (show i < 5 by omega) d1 (by omega) b2
              have hw1 : X2_countWith (X2_countFrom fu) ν (zI (i : Nat)) (zI ((t + 1 : Nat) : Int) - zI (D i : Nat)) (zI (d : Nat)) = some τ3 := by
                have ed : zI (d : Int) + (1 : Int32) = zI ((d + 1 : Nat) : Int) := by rw [z_1, zI_add]; rfl
                unfold X2_countWith X2_countWith_b0
                rw [zI_sub, show ((t + 1 : Nat) : Int) - ((D i : Nat) : Int) = ((t + 1 - D i : Nat) : Int) by omega, wd_chk_in (by omega) (by omega) (by omega), zI_clN (by omega), c4, a1]
                simp only [Option.bind_some]
                rw [ed, b1]
                simp only [Option.bind_some]
                rw [d4, g1']
                rfl
              rw [hw1]
              simp only [Option.bind_some]
              refine next _ τ3 (Nat.min_le_left _ _) (schX_congr (fun a ha => g3' a (by omega)) hs2) (fun d hd => by rw [g3' 25 (by decide), b4 25 (by decide) (by decide)]; exact ho1 d hd) g2' (by rw [g3' 21 (by decide), b3]) (fun a x y => by rw [g3' a x, b4 a x y, a3 a x]) ?_
              rw [hX, hX2, hsum, hyes]
              omega
    obtain ⟨c1, c2, c3, c4⟩ := hs.2.2 i o2
    obtain ⟨τ, r1, r2, r3, r4⟩ := hloop 16 wd_big 0 (e i) f ν (by omega) (by omega) (by unfold wd_big; omega) (by omega) (fun x z1 z2 => by omega) (Or.inl (by omega)) (by omega) hs ho hl hfo
    refine ⟨τ, ?_, r2, ?_, r4⟩
    · show X2_countFrom_b0 _ ν (zI (d : Nat)) = _
      unfold X2_countFrom_b0
      rw [hs.1, if_pos (by rw [zI_lt (zR_small (by omega) (by omega)) (zR_small (by omega) (by omega))]; omega), wd_chk_in (by omega) (by omega) (by omega), zI_clN (by omega), o1, wd_chk_in (by omega) (by omega) (by omega), zI_clN (by omega), c2, flo0 y.1]
      exact r1
    · rw [r3, show max (e i) (e i + 1 - D i) = e i by omega]
theorem nc_congr {l' : Nat → Nat} {q q' : Nat → Nat → Bool} : ∀ (is : List Nat) (w : Nat → Nat), (∀ i, i ∈ is → l i = l' i ∧ ∀ x, q i x = q' i x) → nc R e l D c q is w = nc R e l' D c q' is w
  | [], w, _ => rfl
  | i :: is, w, h => by
    obtain ⟨h1, h2⟩ := h i (List.mem_cons_self ..)
    simp only [nc]
    rw [h1]
    refine sR_congr _ _ (fun x => ?_)
    have : okS R D c q w i x = okS R D c q' w i x := by unfold okS; rw [h2 x]
    rw [this, nc_congr is _ (fun j hj => h j (List.mem_cons_of_mem _ hj))]
/-- how many schedules -/
def nS (n R : Nat) (e l D c : Nat → Nat) : Nat := nc R e l D c q1 (List.range' 0 n) (fun _ => 0)
theorem nS_len (hb : bdS n R e l D c) : (aL n R e (lU l 16) D c (qT (-9) 0)).length = nS n R e l D c := by
  rw [aL_len]
  refine nc_congr _ _ (fun i hi => ⟨?_, fun x => q9⟩)
  have := (List.mem_range'_1.mp hi).2
  exact lU_16 hb i (by omega)
theorem manyX {ν : wd_Mem} (hb : bnd n R (cN e) (cN l) (cN D) (cN c)) (hx : datX ν n R (cN e) (cN l) (cN D) (cN c)) (hl : rLoad ν) : ∃ τ : wd_Mem, X2_schedules 48 ν = some (zI ((min 9999 (nS n R e l D c) : Nat) : Int), τ) ∧ rLoad τ ∧ ∀ a, ¬ (21 ≤ a ∧ a ≤ 26) → τ a = ν a := by
  have hB := bdS_of hb
  have hn := hb.1
  obtain ⟨τ1, a1, a2, a3⟩ := openX hn hx
  obtain ⟨τ2, d1, d2, d3⟩ := isAnyX (ν := mset τ1 21 6 0) hB (schX_congr (fun a ha => mset_ne (by omega)) a2) (by
    intro t ht
    rw [mset_h _ _ _ _ (by decide), a3 26 (by decide) (by decide) (by decide)]
    exact hl t ht)
  have f2 : ∀ a, ¬ (21 ≤ a ∧ a ≤ 26) → τ2 a = ν a := fun a p => by rw [d3 a (by omega), mset_ne (by omega), a3 a (by omega) (by omega) (by omega)]
  have h216 : τ2 21 6 = zI ((0 : Nat) : Int) := by rw [d3 21 (by decide), mset_eq]; rfl
  have hs2 : schX τ2 n R e l D c := schX_congr (fun a ha => by rw [d3 a (by omega), mset_ne (by omega)]) a2
  have hk : X2_schedules 48 ν = (if aB n R e l D c = true then (X2_putInOrder τ2).bind (fun r4 => (X2_countFrom 8 r4 (0 : Int32)).bind (fun r5 => some (r5 21 6, r5))) else some (τ2 21 6, τ2)) := by
    unfold X2_schedules X2_schedules_b0 X2_schedules_b26
    rw [a1]
    simp only [Option.bind_some]
    rw [d1]
    simp only [Option.bind_some]
    rw [bI_ite]
  rw [hk]
  by_cases hA : aB n R e l D c = true
  · rw [if_pos hA]
    obtain ⟨τ3, o, b1, b2, b3, b4⟩ := orderX hB hs2 (fun i hi => by rw [f2 5 (by omega)]; exact (hx.2.2 i hi).2.2.2)
    obtain ⟨τ4, k1, k2, k3, k4⟩ := countX hB n 8 0 0 (fun _ => 0) τ3 (by omega) (by omega) (by omega) (schX_congr (fun a ha => b4 a (by omega)) hs2) b2 (fun t ht => by rw [b4 26 (by decide), d2 t ht]; rfl) (fun _ => Nat.zero_le _) (by rw [b4 21 (by decide)]; exact h216)
    refine ⟨τ4, ?_, fun t ht => by rw [k2 t ht]; rfl, fun a p => by rw [k4 a (by omega) (by omega), b4 a (by omega), f2 a p]⟩
    rw [b1]
    simp only [Option.bind_some]
    have k1' : X2_countFrom 8 τ3 0 = some τ4 := k1
    rw [k1']
    simp only [Option.bind_some]
    rw [k3, Nat.zero_add, nc_perm b3]
    rfl
  · rw [if_neg hA]
    refine ⟨τ2, ?_, d2, f2⟩
    have : nS n R e l D c = 0 := by
      rw [← nS_len hB]
      by_cases z : 0 < (aL n R e (lU l 16) D c (qT (-9) 0)).length
      · obtain ⟨b, h, -⟩ := aL_pos.mp z
        exact absurd (aB_iff.mpr ⟨b, (fea_16 hB).mp h⟩) hA
      · omega
    rw [h216, this]
    rfl
theorem manyM {ν : wd_Mem} (hb : bnd n R (cN e) (cN l) (cN D) (cN c)) (hm : datM ν n R (cN e) (cN l) (cN D) (cN c)) : ∃ τ : wd_Mem, X8_countSchedules ν = some (zI ((min 9999 (nS n R e l D c) : Nat) : Int), τ) ∧ ∀ a, ¬ (45 ≤ a ∧ a ≤ 47) → τ a = ν a := by
  have hB := bdS_of hb
  have hn := hb.1
  obtain ⟨τ1, a1, a2, a3⟩ := plainM hn hm
  obtain ⟨τ2, b1, -, b3⟩ := schedM (lim := 9999) (U := 16) (T := -9) (A := 0) (bdS_U hB) (fun j hj => (hB.2.2 j hj).2.1) (by omega) (by omega) (by omega) (by omega) a2
  refine ⟨τ2, ?_, fun a p => by rw [b3 a (by omega) (by omega), a3 a (by omega)]⟩
  unfold X8_countSchedules X8_countSchedules_b0
  rw [a1]
  simp only [Option.bind_some]
  have b1' : X8_schedules τ1 (9999 : Int32) (16 : Int32) (-9 : Int32) (0 : Int32) = _ := b1
  rw [b1', nS_len hB]
  rfl
end
