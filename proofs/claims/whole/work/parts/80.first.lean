/-! ===== the first schedule; task ===== -/
section
variable {n R : Nat} {e l D c : Nat → Nat}
/-- windows with the tasks below k pinned to v -/
def pE (e v : Nat → Nat) (k j : Nat) : Nat := if j < k then v j else e j
def pL (l D v : Nat → Nat) (k j : Nat) : Nat := if j < k then v j + D j else l j
theorem pE_s {v : Nat → Nat} {k : Nat} : bset (pE e v k) k (v k) = pE e v (k + 1) := by
  funext j
  unfold bset pE
  by_cases z : j = k
  · rw [if_pos z, if_pos (by omega), z]
  · rw [if_neg z]
    by_cases y : j < k
    · rw [if_pos y, if_pos (by omega)]
    · rw [if_neg y, if_neg (by omega)]
theorem pL_s {v : Nat → Nat} {k : Nat} : bset (pL l D v k) k (v k + D k) = pL l D v (k + 1) := by
  funext j
  unfold bset pL
  by_cases z : j = k
  · rw [if_pos z, if_pos (by omega), z]
  · rw [if_neg z]
    by_cases y : j < k
    · rw [if_pos y, if_pos (by omega)]
    · rw [if_neg y, if_neg (by omega)]
theorem bset_2 {b : Nat → Nat} {i x y : Nat} : bset (bset b i x) i y = bset b i y := by
  funext j
  unfold bset
  by_cases z : j = i
  · rw [if_pos z, if_pos z]
  · rw [if_neg z, if_neg z, if_neg z]
theorem fea_p {v b : Nat → Nat} {k : Nat} (hv : fea n R e l D c v) (hk : k ≤ n) : fea n R (pE e v k) (pL l D v k) D c b ↔ fea n R e l D c b ∧ ∀ j, j < k → b j = v j := by
  unfold fea
  constructor
  · rintro ⟨a, d⟩
    refine ⟨⟨fun j hj => ?_, d⟩, fun j hj => ?_⟩
    · have h1 := a j hj
      have h2 := hv.1 j hj
      unfold pE pL at h1
      by_cases z : j < k
      · rw [if_pos z, if_pos z] at h1; omega
      · rw [if_neg z, if_neg z] at h1; exact h1
    · have h1 := a j (by omega)
      unfold pE pL at h1
      rw [if_pos hj, if_pos hj] at h1
      omega
  · rintro ⟨⟨a, d⟩, g⟩
    refine ⟨fun j hj => ?_, d⟩
    unfold pE pL
    by_cases z : j < k
    · rw [if_pos z, if_pos z, g j z]; omega
    · rw [if_neg z, if_neg z]; exact a j hj
theorem bdS_p {v : Nat → Nat} {k : Nat} (hb : bdS n R e l D c) (hv : fea n R e l D c v) : bdS n R (pE e v k) (pL l D v k) D c := by
  refine ⟨hb.1, hb.2.1, fun j hj => ?_⟩
  have h1 := hb.2.2 j hj
  have h2 := hv.1 j hj
  unfold pE pL
  by_cases z : j < k
  · rw [if_pos z, if_pos z]; omega
  · rw [if_neg z, if_neg z]; exact h1
theorem pinFirstX {v : Nat → Nat} {k : Nat} {ν : wd_Mem} (hb : bdS n R e l D c) (hv : fea n R e l D c v) (hlex : ∀ b, fea n R e l D c b → lexm n 0 v b) (hk : k < n) (hs : schX ν n R (pE e v k) (pL l D v k) D c) (hl : rLoad ν) : ∃ τ : wd_Mem, X2_pinFirst ν (zI (k : Nat)) = some τ ∧ schX τ n R (pE e v (k + 1)) (pL l D v (k + 1)) D c ∧ frS ν τ := by
  have hn := hb.1
  have y := hb.2.2 k hk
  have hvk := hv.1 k hk
  have pk : pE e v k k = e k := by unfold pE; rw [if_neg (by omega)]
  have lk : pL l D v k k = l k := by unfold pL; rw [if_neg (by omega)]
  have tst : ∀ x, e k ≤ x → x + D k ≤ l k → (aB n R (bset (pE e v k) k x) (bset (pL l D v k) k (x + D k)) D c = true ↔ ∃ b, fea n R e l D c b ∧ (∀ j, j < k → b j = v j) ∧ b k = x) := by
    intro x h1 h2
    rw [aB_iff]
    constructor
    · rintro ⟨b, h⟩
      obtain ⟨f, g⟩ := (fea_pin hk (by rw [pk]; exact h1) (by rw [lk]; exact h2)).mp h
      obtain ⟨f1, f2⟩ := (fea_p hv (by omega)).mp f
      exact ⟨b, f1, f2, g⟩
    · rintro ⟨b, f1, f2, g⟩
      exact ⟨b, (fea_pin hk (by rw [pk]; exact h1) (by rw [lk]; exact h2)).mpr ⟨(fea_p hv (by omega)).mpr ⟨f1, f2⟩, g⟩⟩
  have key : ∀ (m x q a a' : Nat) (ν : wd_Mem), x + m = v k → m < q → e k ≤ x → schX ν n R (bset (pE e v k) k a) (bset (pL l D v k) k a') D c → rLoad ν → ∃ τ : wd_Mem, X2_pinFirst_l24 (fun μ => X2_pinFirst_b49 μ) (zI (k : Nat)) (zI ((l k : Int) - (D k : Int))) q (zI (x : Nat)) ν = some τ ∧ schX τ n R (pE e v (k + 1)) (pL l D v (k + 1)) D c ∧ frS ν τ := by
    intro m
    have step : ∀ (x q a a' : Nat) (ν : wd_Mem), x ≤ v k → e k ≤ x → schX ν n R (bset (pE e v k) k a) (bset (pL l D v k) k a') D c → rLoad ν → ∃ τ : wd_Mem, X2_pinFirst_l24 (fun μ => X2_pinFirst_b49 μ) (zI (k : Nat)) (zI ((l k : Int) - (D k : Int))) (q + 1) (zI (x : Nat)) ν = (if aB n R (bset (pE e v k) k x) (bset (pL l D v k) k (x + D k)) D c = true then some τ else X2_pinFirst_l24 (fun μ => X2_pinFirst_b49 μ) (zI (k : Nat)) (zI ((l k : Int) - (D k : Int))) q (zI ((x + 1 : Nat) : Int)) τ) ∧ schX τ n R (bset (pE e v k) k x) (bset (pL l D v k) k (x + D k)) D c ∧ frS ν τ := by
      intro x q a a' ν h1 h2 hs hl
      obtain ⟨τ1, b1, b2, b3⟩ := pinX (i := k) (x := x) hn hs hk
      rw [bset_2, bset_2] at b2
      obtain ⟨τ2, d1, d2, d3⟩ := isAnyX (bdS_pin (i := k) (x := x) (bdS_p (k := k) hb hv) (by omega)) b2 (by
        intro t ht
        rw [b3 26 (by decide) (by decide)]
        exact hl t ht)
      have e1 : zI (x : Int) + (1 : Int32) = zI ((x + 1 : Nat) : Int) := by rw [z_1, zI_add]; rfl
      refine ⟨τ2, ?_, schX_congr (fun a ha => d3 a (by omega)) b2, d2, fun a p q r s => by rw [d3 a s, b3 a p q]⟩
      show X2_pinFirst_c24 _ _ ν _ _ (zI (x : Nat)) = _
      unfold X2_pinFirst_c24
      rw [if_neg (by rw [zI_lt (zR_small (by omega) (by omega)) (zR_small (by omega) (by omega))]; omega), b1]
      simp only [Option.bind_some]
      rw [d1]
      simp only [Option.bind_some]
      rw [e1, bI_ite]
    induction m with
    | zero =>
      intro x q a a' ν h1 h2 h3 hs hl
      obtain ⟨q, rfl⟩ : ∃ a, q = a + 1 := ⟨q - 1, by omega⟩
      obtain ⟨τ, a1, a2, a3⟩ := step x q a a' ν (by omega) h3 hs hl
      have hx : x = v k := by omega
      rw [if_pos ((tst x h3 (by omega)).mpr ⟨v, hv, fun _ _ => rfl, hx.symm⟩)] at a1
      refine ⟨τ, a1, ?_, a3⟩
      rw [hx, pE_s, pL_s] at a2
      exact a2
    | succ m ih =>
      intro x q a a' ν h1 h2 h3 hs hl
      obtain ⟨q, rfl⟩ : ∃ a, q = a + 1 := ⟨q - 1, by omega⟩
      obtain ⟨τ, a1, a2, a3⟩ := step x q a a' ν (by omega) h3 hs hl
      rw [if_neg (fun h => by
        obtain ⟨b, f1, f2, f3⟩ := (tst x h3 (by omega)).mp h
        have := hlex b f1 k (by omega) hk (fun j _ hj => f2 j hj)
        omega)] at a1
      obtain ⟨τ2, b1, b2, b3, b4⟩ := ih (x + 1) q x (x + D k) τ (by omega) (by omega) (by omega) a2 a3.1
      exact ⟨τ2, by rw [a1, b1], b2, b3, fun a p q r s => by rw [b4 a p q r s, a3.2 a p q r s]⟩
  obtain ⟨c1, c2, c3, c4⟩ := hs.2.2 k hk
  rw [pk] at c2
  rw [lk] at c3
  have hs' : schX ν n R (bset (pE e v k) k (e k)) (bset (pL l D v k) k (l k)) D c := by
    have r1 : bset (pE e v k) k (e k) = pE e v k := by
      funext j
      unfold bset
      by_cases z : j = k
      · rw [if_pos z, z, pk]
      · rw [if_neg z]
    have r2 : bset (pL l D v k) k (l k) = pL l D v k := by
      funext j
      unfold bset
      by_cases z : j = k
      · rw [if_pos z, z, lk]
      · rw [if_neg z]
    rw [r1, r2]
    exact hs
  obtain ⟨τ, k1, k2, k3⟩ := key (v k - e k) (e k) wd_big (e k) (l k) ν (by omega) (by unfold wd_big; omega) (Nat.le_refl _) hs' hl
  refine ⟨τ, ?_, k2, k3⟩
  unfold X2_pinFirst X2_pinFirst_b0
  rw [wd_chk_in (by omega) (by omega) (by omega), zI_clN (by omega), c1, c2, c3, zI_sub]
  exact k1
theorem firstXl {v : Nat → Nat} {i : Nat} (hb : bdS n R e l D c) (hv : fea n R e l D c v) (hlex : ∀ b, fea n R e l D c b → lexm n 0 v b) (hi : i < n) : ∀ (m k q : Nat) (ν : wd_Mem), k + m = i + 1 → m < q → schX ν n R (pE e v k) (pL l D v k) D c → rLoad ν → ∃ τ : wd_Mem, X2_firstOf_l17 (fun μ => X2_firstOf_b33 48 μ (zI (i : Nat))) 48 (zI (i : Nat)) q (zI (k : Nat)) ν = some (zI (v i : Nat), τ) ∧ frS ν τ := by
  have hn := hb.1
  intro m
  induction m with
  | zero =>
    intro k q ν h1 h2 hs hl
    obtain ⟨q, rfl⟩ : ∃ a, q = a + 1 := ⟨q - 1, by omega⟩
    refine ⟨ν, ?_, hl, fun _ _ _ _ _ => rfl⟩
    show X2_firstOf_c17 _ _ 48 ν _ (zI (k : Nat)) = _
    unfold X2_firstOf_c17 X2_firstOf_b33
    rw [if_pos (by rw [zI_lt (zR_small (by omega) (by omega)) (zR_small (by omega) (by omega))]; omega)]
    dsimp only
    rw [wd_chk_in (by omega) (by omega) (by omega), zI_clN (by omega), (hs.2.2 i hi).2.1]
    unfold pE
    rw [if_pos (by omega)]
  | succ m ih =>
    intro k q ν h1 h2 hs hl
    obtain ⟨q, rfl⟩ : ∃ a, q = a + 1 := ⟨q - 1, by omega⟩
    obtain ⟨τ1, a1, a2, a3⟩ := pinFirstX hb hv hlex (show k < n by omega) hs hl
    obtain ⟨τ2, b1, b2, b3⟩ := ih (k + 1) q τ1 (by omega) (by omega) a2 a3.1
    have e1 : zI (k : Int) + (1 : Int32) = zI ((k + 1 : Nat) : Int) := by rw [z_1, zI_add]; rfl
    refine ⟨τ2, ?_, b2, fun a p q r s => by rw [b3 a p q r s, a3.2 a p q r s]⟩
    show X2_firstOf_c17 _ _ 48 ν _ (zI (k : Nat)) = _
    unfold X2_firstOf_c17
    rw [if_neg (by rw [zI_lt (zR_small (by omega) (by omega)) (zR_small (by omega) (by omega))]; omega), a1]
    simp only [Option.bind_some]
    rw [e1]
    exact b1
/-- the first beginning of a task: -9 if there is no schedule -/
def fiI (n R : Nat) (e l D c : Nat → Nat) (i : Nat) : Int := match aL n R e (lU l 16) D c (qT (-9) 0) with | [] => -9 | v :: _ => (v i : Int)
theorem q9 {i x : Nat} {A : Int} : qT (-9) A i x = true := by
  unfold qT
  exact decide_eq_true (Or.inl (by omega))
theorem firstX' {ν : wd_Mem} {i : Nat} (hb : bnd n R (cN e) (cN l) (cN D) (cN c)) (hx : datX ν n R (cN e) (cN l) (cN D) (cN c)) (hl : rLoad ν) (hi : i < n) : ∃ τ : wd_Mem, X2_firstOf 48 ν (zI (i : Nat)) = some (zI (fiI n R e l D c i), τ) ∧ frS ν τ := by
  have hB := bdS_of hb
  have hn := hb.1
  obtain ⟨τ1, a1, a2, a3⟩ := openX hn hx
  obtain ⟨τ2, d1, d2, d3⟩ := isAnyX hB a2 (by
    intro t ht
    rw [a3 26 (by decide) (by decide) (by decide)]
    exact hl t ht)
  have f2 : ∀ a, a ≠ 22 → a ≠ 23 → a ≠ 24 → a ≠ 26 → τ2 a = ν a := fun a p q r s => by rw [d3 a s, a3 a p q r]
  have hk : X2_firstOf 48 ν (zI (i : Nat)) = (if aB n R e l D c = true then X2_firstOf_l17 (fun μ => X2_firstOf_b33 48 μ (zI (i : Nat))) 48 (zI (i : Nat)) wd_big (0 : Int32) τ2 else some ((-9 : Int32), τ2)) := by
    unfold X2_firstOf X2_firstOf_b0
    rw [a1]
    simp only [Option.bind_some]
    rw [d1]
    simp only [Option.bind_some]
    rw [bI_ite]
  rw [hk]
  unfold fiI
  rcases aL_first (n := n) (R := R) (e := e) (l := lU l 16) (D := D) (c := c) (q := qT (-9) 0) with ⟨h1, h2⟩ | ⟨v, T, h1, h2, h3, h4⟩
  · rw [h1, if_neg (fun h => by
      obtain ⟨b, f⟩ := aB_iff.mp h
      exact h2 b ((fea_16 hB).mpr f) (fun _ _ => q9))]
    exact ⟨τ2, rfl, d2, f2⟩
  · have hv := (fea_16 hB).mp h2
    rw [h1, if_pos (aB_iff.mpr ⟨v, hv⟩)]
    have p0 : pE e v 0 = e := by funext j; unfold pE; rw [if_neg (by omega)]
    have l0 : pL l D v 0 = l := by funext j; unfold pL; rw [if_neg (by omega)]
    obtain ⟨τ3, k1, k2, k3⟩ := firstXl hB hv (fun b f => h4 b ((fea_16 hB).mpr f) (fun _ _ => q9)) hi (i + 1) 0 wd_big τ2 (by omega) (by unfold wd_big; omega) (by rw [p0, l0]; exact schX_congr (fun a ha => d3 a (by omega)) a2) d2
    exact ⟨τ3, k1, k2, fun a p q r s => by rw [k3 a p q r s, f2 a p q r s]⟩
theorem firstM' {ν : wd_Mem} {i : Nat} (hb : bnd n R (cN e) (cN l) (cN D) (cN c)) (hm : datM ν n R (cN e) (cN l) (cN D) (cN c)) (hi : i < n) : ∃ τ : wd_Mem, X8_firstOf ν (zI (i : Nat)) = some (zI (fiI n R e l D c i), τ) ∧ ∀ a, ¬ (45 ≤ a ∧ a ≤ 47) → τ a = ν a := by
  have hB := bdS_of hb
  have hn := hb.1
  obtain ⟨τ1, a1, a2, a3⟩ := plainM hn hm
  obtain ⟨τ2, b1, b2, b3⟩ := schedM (lim := 1) (U := 16) (T := -9) (A := 0) (bdS_U hB) (fun j hj => (hB.2.2 j hj).2.1) (by omega) (by omega) (by omega) (by omega) a2
  refine ⟨τ2, ?_, fun a p => by rw [b3 a (by omega) (by omega), a3 a (by omega)]⟩
  unfold X8_firstOf X8_firstOf_b0 fiI
  rw [a1]
  simp only [Option.bind_some]
  have b1' : X8_schedules τ1 (1 : Int32) (16 : Int32) (-9 : Int32) (0 : Int32) = _ := b1
  rw [b1']
  simp only [Option.bind_some]
  cases hq : aL n R e (lU l 16) D c (qT (-9) 0) with
  | nil => rw [if_pos (by decide)]; rfl
  | cons v T =>
    rw [hq] at b2
    rw [if_neg (by
      simp only [List.length_cons]
      rw [z_0, zI_le (zR_small (by omega) (by omega)) (zR_small (by omega) (by omega))]
      omega), wd_chk_in (by omega) (by omega) (by omega), zI_clN (by omega), b2 v rfl i hi]
end
theorem op_task (μ : wd_Mem) (x1 x2 : Int32) (h : wd_rel μ) : ∃ (r : Int32) (μ1 μ2 : wd_Mem), X7_task μ x1 x2 = some (r, μ1) ∧ X8_task μ1 x1 x2 = some (r, μ2) ∧ wd_rel μ2 := by
  have h' := h
  obtain ⟨hT, hS, hL, n, hK, hW, hH, hI⟩ := h
  obtain ⟨R, e, l, D, c, hb, hx, hm⟩ := rel_N hK hW
  have hn := hK.1
  obtain ⟨z, rfl, hz⟩ := zI_x x1
  have kM : ∀ ν : wd_Mem, ν 31 = μ 31 → X8_task ν (zI z) x2 = (if 0 ≤ z ∧ z < n then (if X8_in ν x2 0 5 = 0 then some (-1, ν) else (if x2 = nI 0 then wd_chk (wd_in ((0 : Int32) + zI z) 30) (some (ν 34 (Int32.toNatClampNeg ((0 : Int32) + zI z)), ν)) else if x2 = nI 1 then wd_chk (wd_in ((5 : Int32) + zI z) 30) (some (ν 34 (Int32.toNatClampNeg ((5 : Int32) + zI z)), ν)) else if x2 = nI 2 then wd_chk (wd_in (zI z) 5) (some (ν 32 (Int32.toNatClampNeg (zI z)), ν)) else if x2 = nI 3 then wd_chk (wd_in (zI z) 5) (some (ν 33 (Int32.toNatClampNeg (zI z)), ν)) else if x2 = nI 4 then (X8_belong ν (zI z)).bind (fun r => some (r.1, r.2)) else (X8_firstOf ν (zI z)).bind (fun r => some (r.1, r.2)))) else some (-1, ν)) := by
    intro ν hν
    unfold X8_task X8_task_b0
    rw [isTask_eq hn (by rw [hν]; exact hK.2.2.1) hz]
    simp only [Option.bind_some]
    by_cases q : 0 ≤ z ∧ z < n
    · rw [if_pos q, if_pos q, if_neg (by decide)]
      rfl
    · rw [if_neg q, if_neg q, if_pos (by decide)]
      rfl
  by_cases q : 0 ≤ z ∧ z < n
  · obtain ⟨i, rfl⟩ := Int.eq_ofNat_of_zero_le q.1
    have hi : i < n := by omega
    obtain ⟨v, rfl, hv⟩ := zI_x x2
    have a0 := edge_eq (μ := μ) (h := 48) (i := i) (s := 0) (by omega) (by omega)
    have a1 := edge_eq (μ := μ) (h := 48) (i := i) (s := 1) (by omega) (by omega)
    obtain ⟨c1, c2, c3, c4⟩ := hx.2.2 i hi
    obtain ⟨d1, d2, d3, d4⟩ := hm.2.2 i hi
    simp only [Nat.mul_zero, Nat.zero_add, Nat.mul_one, Nat.reduceAdd] at a0 a1
    rw [c1] at a0
    rw [c2] at a1
    have a0' : X6_edge 48 μ (zI i) 0 = some (zI (cN e i)) := a0
    have a1' : X6_edge 48 μ (zI i) 1 = some (zI (cN l i)) := a1
    have q0 : (0 : Int32) + zI i = zI i := by rw [z_0, zI_add]; congr 1; omega
    have q5 : (5 : Int32) + zI i = zI ((5 + i : Nat) : Int) := by rw [z_5, zI_add]; rfl
    have r0 : zR 0 := zR_small (by omega) (by omega)
    have r5 : zR 5 := zR_small (by omega) (by omega)
    have hX : X7_task μ (zI i) (zI v) = (if zI v = nI 0 then some (zI (cN e i), μ) else if zI v = nI 1 then some (zI (cN l i), μ) else if zI v = nI 2 then some (zI (cN D i), μ) else if zI v = nI 3 then some (zI (cN c i), μ) else if zI v = nI 4 then (X2_belong 48 μ (zI i)).bind (fun r6 => some (r6.1, r6.2)) else if zI v = nI 5 then (X2_firstOf 48 μ (zI i)).bind (fun r7 => some (r7.1, r7.2)) else some ((-1 : Int32), μ)) := by
      unfold X7_task X7_task_b0
      rw [if_neg (by rw [has_0 hn hK.2.1 hz]; exact not_not_intro q), a0', a1', wd_chk_in (by omega) (by omega) (by omega), wd_chk_in (by omega) (by omega) (by omega), zI_clN (by omega), c3, c4]
      simp only [Option.bind_some]
    have hM := fun ν hν => kM ν hν
    simp only [if_pos q, q0, q5] at hM
    have g30 : wd_in (zI (i : Int)) 30 = true := zI_in (by omega) (by omega) (by omega)
    have g35 : wd_in (zI ((5 + i : Nat) : Int)) 30 = true := zI_in (by omega) (by omega) (by omega)
    have g5 : wd_in (zI (i : Int)) 5 = true := zI_in (by omega) (by omega) (by omega)
    simp only [wd_chk_t g30, wd_chk_t g35, wd_chk_t g5, zI_clN (show i < 2147483648 by omega), zI_clN (show 5 + i < 2147483648 by omega)] at hM
    have hin : ∀ ν, X8_in ν (zI v) 0 5 = 0 ↔ ¬ (0 ≤ v ∧ v ≤ 5) := by
      intro ν
      rw [X8_in_0, z_0, z_5, zI_lt hv r0, zI_lt r5 hv]
      omega
    simp only [hin] at hM
    by_cases w : 0 ≤ v ∧ v ≤ 5
    · simp only [w, and_self, not_true, if_false] at hM
      rcases (show v = 0 ∨ v = 1 ∨ v = 2 ∨ v = 3 ∨ v = 4 ∨ v = 5 by omega) with rfl | rfl | rfl | rfl | rfl | rfl
      · rw [if_pos (by decide)] at hX
        refine ⟨_, _, μ, hX, ?_, h'⟩
        rw [hM μ rfl, if_pos (by decide), d1]
      · rw [if_neg (by decide), if_pos (by decide)] at hX
        refine ⟨_, _, μ, hX, ?_, h'⟩
        rw [hM μ rfl, if_neg (by decide), if_pos (by decide), d2]
      · rw [if_neg (by decide), if_neg (by decide), if_pos (by decide)] at hX
        refine ⟨_, _, μ, hX, ?_, h'⟩
        rw [hM μ rfl, if_neg (by decide), if_neg (by decide), if_pos (by decide), d3]
      · rw [if_neg (by decide), if_neg (by decide), if_neg (by decide), if_pos (by decide)] at hX
        refine ⟨_, _, μ, hX, ?_, h'⟩
        rw [hM μ rfl, if_neg (by decide), if_neg (by decide), if_neg (by decide), if_pos (by decide), d4]
      · rw [if_neg (by decide), if_neg (by decide), if_neg (by decide), if_neg (by decide), if_pos (by decide)] at hX
        obtain ⟨τ, b1, b2, b3⟩ := belongX hb hx hL hi
        rw [b1] at hX
        obtain ⟨σ, m1, m2⟩ := belongM (ν := τ) hb (datM_congr (b3 31 (by decide) (by decide) (by decide) (by decide)) (b3 34 (by decide) (by decide) (by decide) (by decide)) (b3 32 (by decide) (by decide) (by decide) (by decide)) (b3 33 (by decide) (by decide) (by decide) (by decide)) hm) hi
        refine ⟨_, τ, σ, hX, ?_, rel_scratch h' (fun a x y => by rw [m2 a (by omega), b3 a (by omega) (by omega) (by omega) (by omega)]) ?_ ?_⟩
        · rw [hM τ (b3 31 (by decide) (by decide) (by decide) (by decide)), if_neg (by decide), if_neg (by decide), if_neg (by decide), if_neg (by decide), if_pos (by decide), m1, belong_same (bdS_of hb) hi]
          rfl
        · have g : ∀ a, 14 ≤ a → a ≤ 17 → σ a = μ a := fun a x y => by rw [m2 a (by omega), b3 a (by omega) (by omega) (by omega) (by omega)]
          exact rSight_congr (g 14 (by omega) (by omega)) (g 15 (by omega) (by omega)) (g 16 (by omega) (by omega)) (g 17 (by omega) (by omega)) hS
        · exact rLoad_congr (m2 26 (by omega)) b2
      · rw [if_neg (by decide), if_neg (by decide), if_neg (by decide), if_neg (by decide), if_neg (by decide), if_pos (by decide)] at hX
        obtain ⟨τ, b1, b2, b3⟩ := firstX' hb hx hL hi
        rw [b1] at hX
        obtain ⟨σ, m1, m2⟩ := firstM' (ν := τ) hb (datM_congr (b3 31 (by decide) (by decide) (by decide) (by decide)) (b3 34 (by decide) (by decide) (by decide) (by decide)) (b3 32 (by decide) (by decide) (by decide) (by decide)) (b3 33 (by decide) (by decide) (by decide) (by decide)) hm) hi
        refine ⟨_, τ, σ, hX, ?_, rel_scratch h' (fun a x y => by rw [m2 a (by omega), b3 a (by omega) (by omega) (by omega) (by omega)]) ?_ ?_⟩
        · rw [hM τ (b3 31 (by decide) (by decide) (by decide) (by decide)), if_neg (by decide), if_neg (by decide), if_neg (by decide), if_neg (by decide), if_neg (by decide), m1]
          rfl
        · have g : ∀ a, 14 ≤ a → a ≤ 17 → σ a = μ a := fun a x y => by rw [m2 a (by omega), b3 a (by omega) (by omega) (by omega) (by omega)]
          exact rSight_congr (g 14 (by omega) (by omega)) (g 15 (by omega) (by omega)) (g 16 (by omega) (by omega)) (g 17 (by omega) (by omega)) hS
        · exact rLoad_congr (m2 26 (by omega)) b2
    · have ne : ∀ k : Nat, k ≤ 5 → ¬ zI v = nI k := fun k hk => by
        rw [zI_nat, zI_eq hv (zR_small (by omega) (by omega))]
        omega
      rw [if_neg (ne 0 (by omega)), if_neg (ne 1 (by omega)), if_neg (ne 2 (by omega)), if_neg (ne 3 (by omega)), if_neg (ne 4 (by omega)), if_neg (ne 5 (by omega))] at hX
      refine ⟨-1, μ, μ, hX, ?_, h'⟩
      rw [hM μ rfl, if_pos w]
  · refine ⟨-1, μ, μ, ?_, ?_, h'⟩
    · unfold X7_task X7_task_b0
      rw [if_pos (by rw [has_0 hn hK.2.1 hz]; exact q)]
    · rw [kM μ rfl, if_neg q]
