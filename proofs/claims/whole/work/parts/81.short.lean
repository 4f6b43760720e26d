/-! ===== the shortest ===== -/
section
variable {n R : Nat} {e l D c : Nat → Nat}
theorem lateX {ν : wd_Mem} {u : Nat} (K : wd_Mem → Option (Int32 × wd_Mem)) (hb : bdS n R e l D c) (hu : u ≤ 16) (hs : schX ν n R e l D c) : ∃ τ : wd_Mem, X2_shortest_l15 K 48 (zI (u : Nat)) wd_big 0 ν = K τ ∧ schX τ n R e (lU l u) D c ∧ ∀ a, a ≠ 23 → τ a = ν a := by
  have hn := hb.1
  obtain ⟨s1, s0, hS⟩ := hs
  have key : ∃ τ : wd_Mem, ((∀ j, j < n → τ 23 j = zI ((if j < n then lU l u j else l j : Nat) : Int)) ∧ ∀ a, a ≠ 23 → τ a = ν a) ∧ X2_shortest_l15 K 48 (zI (u : Nat)) wd_big (zI ((0 : Nat) : Int)) ν = K τ := by
    refine wd_for0 (fun q i m => X2_shortest_l15 K 48 (zI (u : Nat)) q (zI (i : Nat)) m) K (fun i τ => (∀ j, j < n → τ 23 j = zI ((if j < i then lU l u j else l j : Nat) : Int)) ∧ ∀ a, a ≠ 23 → τ a = ν a) n ν (by omega) ⟨fun j hj => by rw [if_neg (by omega)]; exact (hS j hj).2.2.1, fun _ _ => rfl⟩ (fun i m q hi hI => ?_) (fun m q hI => ?_)
    · have y := hb.2.2 i hi
      have h23 := hI.1 i hi
      rw [if_neg (by omega)] at h23
      refine ⟨mset m 23 i (zI (lU l u i : Nat)), ⟨fun j hj => ?_, fun a p => by rw [mset_ne p]; exact hI.2 a p⟩, ?_⟩
      · by_cases z : j = i
        · rw [z, mset_eq, if_pos (by omega)]
        · rw [mset_j _ _ _ _ z, hI.1 j hj]
          by_cases w : j < i
          · rw [if_pos w, if_pos (by omega)]
          · rw [if_neg w, if_neg (by omega)]
      · show X2_shortest_c15 _ _ 48 m _ (zI (i : Nat)) = _
        have e1 : zI (i : Int) + (1 : Int32) = zI ((i + 1 : Nat) : Int) := by rw [z_1, zI_add]; rfl
        unfold X2_shortest_c15
        rw [hI.2 3 (by decide), s1, if_neg (by rw [zI_le (zR_small (by omega) (by omega)) (zR_small (by omega) (by omega))]; omega), wd_chk_in (by omega) (by omega) (by omega), zI_clN (by omega), h23, e1]
        congr 2
        unfold lU
        by_cases z : u < l i
        · rw [if_pos (by rw [zI_lt (zR_small (by omega) (by omega)) (zR_small (by omega) (by omega))]; omega), Nat.min_eq_right (by omega)]
        · rw [if_neg (by rw [zI_lt (zR_small (by omega) (by omega)) (zR_small (by omega) (by omega))]; omega), Nat.min_eq_left (by omega)]
    · show X2_shortest_c15 _ _ 48 m _ (zI (n : Nat)) = _
      unfold X2_shortest_c15
      rw [hI.2 3 (by decide), s1, if_pos (Int32.le_refl _)]
  obtain ⟨τ, ⟨k1, k2⟩, k3⟩ := key
  refine ⟨τ, k3, ⟨by rw [k2 3 (by decide)]; exact s1, by rw [k2 3 (by decide)]; exact s0, fun i hi => ?_⟩, k2⟩
  obtain ⟨d1, d2, d3, d4⟩ := hS i hi
  have h23 := k1 i hi
  rw [if_pos hi] at h23
  exact ⟨by rw [k2 4 (by decide)]; exact d1, by rw [k2 22 (by decide)]; exact d2, h23, by rw [k2 24 (by decide)]; exact d4⟩
def shX (n R : Nat) (e l D c : Nat → Nat) (u : Nat) : Bool := aB n R e (lU l u) D c
def shM (n R : Nat) (e l D c : Nat → Nat) (u : Nat) : Bool := decide (0 < (aL n R e (lU l u) D c (qT (-9) 0)).length)
theorem sh_same : shX n R e l D c = shM n R e l D c := by
  funext u
  rw [Bool.eq_iff_iff]
  unfold shX shM
  rw [aB_iff, decide_eq_true_eq, aL_pos]
  constructor
  · rintro ⟨b, h⟩
    exact ⟨b, h, fun _ _ => q9⟩
  · rintro ⟨b, h, -⟩
    exact ⟨b, h⟩
theorem shortX {ν : wd_Mem} (hb : bnd n R (cN e) (cN l) (cN D) (cN c)) (hx : datX ν n R (cN e) (cN l) (cN D) (cN c)) (hl : rLoad ν) : ∃ τ : wd_Mem, X2_shortest 48 ν = some (zI (oI (fsF (shX n R e l D c) 17 0)), τ) ∧ frS ν τ := by
  have hB := bdS_of hb
  have hn := hb.1
  have key : ∀ (m u q : Nat) (ν : wd_Mem), u + m = 17 → m < q → datX ν n R (cN e) (cN l) (cN D) (cN c) → rLoad ν → ∃ τ : wd_Mem, X2_shortest_l2 (fun μ => X2_shortest_b63 48 μ) 48 q (zI (u : Nat)) ν = some (zI (oI (fsF (shX n R e l D c) m u)), τ) ∧ frS ν τ := by
    intro m
    induction m with
    | zero =>
      intro u q ν h1 h2 hx hl
      obtain ⟨q, rfl⟩ : ∃ a, q = a + 1 := ⟨q - 1, by omega⟩
      refine ⟨ν, ?_, hl, fun _ _ _ _ _ => rfl⟩
      show X2_shortest_c2 _ _ 48 ν (zI (u : Nat)) = _
      unfold X2_shortest_c2 X2_shortest_b63
      rw [z_16, if_pos (by rw [zI_lt (zR_small (by omega) (by omega)) (zR_small (by omega) (by omega))]; omega)]
      rfl
    | succ m ih =>
      intro u q ν h1 h2 hx hl
      obtain ⟨q, rfl⟩ : ∃ a, q = a + 1 := ⟨q - 1, by omega⟩
      obtain ⟨τ1, a1, a2, a3⟩ := openX hn hx
      obtain ⟨τ2, b1, b2, b3⟩ := lateX (u := u) (fun μ => X2_shortest_b48 (X2_shortest_l2 (fun μ => X2_shortest_b63 48 μ) 48 q) (fun μ => X2_shortest_b63 48 μ) 48 μ (zI (u : Nat))) hB (by omega) a2
      obtain ⟨τ3, d1, d2, d3⟩ := isAnyX (bdS_U hB) b2 (by
        intro t ht
        rw [b3 26 (by decide), a3 26 (by decide) (by decide) (by decide)]
        exact hl t ht)
      have f3 : ∀ a, a ≠ 22 → a ≠ 23 → a ≠ 24 → a ≠ 26 → τ3 a = ν a := fun a p q r s => by rw [d3 a s, b3 a q, a3 a p q r]
      have e1 : zI (u : Int) + (1 : Int32) = zI ((u + 1 : Nat) : Int) := by rw [z_1, zI_add]; rfl
      have hk : X2_shortest_l2 (fun μ => X2_shortest_b63 48 μ) 48 (q + 1) (zI (u : Nat)) ν = (if shX n R e l D c u = true then some (zI (u : Nat), τ3) else X2_shortest_l2 (fun μ => X2_shortest_b63 48 μ) 48 q (zI ((u + 1 : Nat) : Int)) τ3) := by
        show X2_shortest_c2 _ _ 48 ν (zI (u : Nat)) = _
        unfold X2_shortest_c2
        rw [z_16, if_neg (by rw [zI_lt (zR_small (by omega) (by omega)) (zR_small (by omega) (by omega))]; omega), a1]
        simp only [Option.bind_some]
        rw [b1]
        unfold X2_shortest_b48
        rw [d1]
        simp only [Option.bind_some]
        rw [e1, bI_ite]
        rfl
      rw [hk]
      simp only [fsF]
      by_cases hg : shX n R e l D c u = true
      · rw [if_pos hg, if_pos hg]
        exact ⟨τ3, rfl, d2, f3⟩
      · rw [if_neg hg, if_neg hg]
        obtain ⟨τ, k1, k2, k3⟩ := ih (u + 1) q τ3 (by omega) (by omega) (datX_f f3 hx) d2
        exact ⟨τ, k1, k2, fun a p q r s => by rw [k3 a p q r s, f3 a p q r s]⟩
  exact key 17 0 wd_big ν (by omega) (by unfold wd_big; omega) hx hl
theorem shortM {ν : wd_Mem} (hb : bnd n R (cN e) (cN l) (cN D) (cN c)) (hm : datM ν n R (cN e) (cN l) (cN D) (cN c)) : ∃ τ : wd_Mem, X8_shortest ν = some (zI (oI (fsF (shM n R e l D c) 17 0)), τ) ∧ ∀ a, ¬ (45 ≤ a ∧ a ≤ 47) → τ a = ν a := by
  have hB := bdS_of hb
  have hn := hb.1
  have key : ∀ (m u q : Nat) (ν : wd_Mem), u + m = 17 → m < q → schM ν n R e l D c → ∃ τ : wd_Mem, X8_shortest_l6 (fun μ => X8_shortest_b32 μ) q (zI (u : Nat)) ν = some (zI (oI (fsF (shM n R e l D c) m u)), τ) ∧ ∀ a, ¬ (45 ≤ a ∧ a ≤ 47) → τ a = ν a := by
    intro m
    induction m with
    | zero =>
      intro u q ν h1 h2 hs
      obtain ⟨q, rfl⟩ : ∃ a, q = a + 1 := ⟨q - 1, by omega⟩
      refine ⟨ν, ?_, fun _ _ => rfl⟩
      show X8_shortest_c6 _ _ ν (zI (u : Nat)) = _
      unfold X8_shortest_c6 X8_shortest_b32
      rw [z_16, if_pos (by rw [zI_lt (zR_small (by omega) (by omega)) (zR_small (by omega) (by omega))]; omega)]
      rfl
    | succ m ih =>
      intro u q ν h1 h2 hs
      obtain ⟨q, rfl⟩ : ∃ a, q = a + 1 := ⟨q - 1, by omega⟩
      obtain ⟨τ1, a1, -, a3⟩ := schedM (lim := 1) (U := u) (T := -9) (A := 0) (bdS_U hB) (fun j hj => (hB.2.2 j hj).2.1) (by omega) (by omega) (by omega) (by omega) hs
      have e1 : zI (u : Int) + (1 : Int32) = zI ((u + 1 : Nat) : Int) := by rw [z_1, zI_add]; rfl
      have hk : X8_shortest_l6 (fun μ => X8_shortest_b32 μ) (q + 1) (zI (u : Nat)) ν = (if shM n R e l D c u = true then some (zI (u : Nat), τ1) else X8_shortest_l6 (fun μ => X8_shortest_b32 μ) q (zI ((u + 1 : Nat) : Int)) τ1) := by
        show X8_shortest_c6 _ _ ν (zI (u : Nat)) = _
        unfold X8_shortest_c6
        have a1' : X8_schedules ν (1 : Int32) (zI (u : Nat)) (-9 : Int32) (0 : Int32) = _ := a1
        rw [z_16, if_neg (by rw [zI_lt (zR_small (by omega) (by omega)) (zR_small (by omega) (by omega))]; omega), a1']
        simp only [Option.bind_some]
        rw [e1]
        unfold shM
        by_cases hg : 0 < (aL n R e (lU l u) D c (qT (-9) 0)).length
        · rw [if_neg (by rw [z_0, zI_le (zR_small (by omega) (by omega)) (zR_small (by omega) (by omega))]; omega), if_pos (decide_eq_true hg)]
        · rw [if_pos (by rw [z_0, zI_le (zR_small (by omega) (by omega)) (zR_small (by omega) (by omega))]; omega), if_neg (fun h => hg (of_decide_eq_true h))]
      rw [hk]
      simp only [fsF]
      by_cases hg : shM n R e l D c u = true
      · rw [if_pos hg, if_pos hg]
        exact ⟨τ1, rfl, fun a p => a3 a (by omega) (by omega)⟩
      · rw [if_neg hg, if_neg hg]
        obtain ⟨τ, k1, k2⟩ := ih (u + 1) q τ1 (by omega) (by omega) (schM_congr a3 hs)
        exact ⟨τ, k1, fun a p => by rw [k2 a p, a3 a (by omega) (by omega)]⟩
  obtain ⟨τ1, a1, a2, a3⟩ := plainM hn hm
  obtain ⟨τ, k1, k2⟩ := key 17 0 wd_big τ1 (by omega) (by unfold wd_big; omega) a2
  refine ⟨τ, ?_, fun a p => by rw [k2 a p, a3 a (by omega)]⟩
  unfold X8_shortest X8_shortest_b0
  rw [a1]
  exact k1
end
