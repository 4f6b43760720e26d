/-! ===== spans that hold too much; count ===== -/
section
variable {n : Nat} {R : Int} {e l D C : Nat → Int}
def hvB (n : Nat) (R : Int) (e l D C : Nat → Int) (a k : Nat) (p : Int × Int) : Int × Int := if frF n R e l D C (-9) (a : Int) ((a + 1 + k : Nat) : Int) < p.2 then (100 * (a : Int) + ((a + 1 + k : Nat) : Int), frF n R e l D C (-9) (a : Int) ((a + 1 + k : Nat) : Int)) else p
def bH (p : Int × Int) : Prop := -9 ≤ p.1 ∧ p.1 ≤ 2000 ∧ -1000 ≤ p.2 ∧ p.2 ≤ 0
theorem fr_bd {but a b : Int} (hb : bnd n R e l D C) (ha : 0 ≤ a ∧ a ≤ 17) (hb2 : 0 ≤ b ∧ b ≤ 17) : -1000 ≤ frF n R e l D C but a b ∧ frF n R e l D C but a b ≤ 1000 := by
  have h1 := lsF_bd (but := but) (a := a) (b := b) hb (Nat.le_refl n)
  have h2 := roomR hb.2.1 hb.2.2.1 ha hb2
  unfold frF
  omega
theorem hvB_bd {a k : Nat} (hb : bnd n R e l D C) (ha : a + 1 + k ≤ 16) {p : Int × Int} (hp : bH p) : bH (hvB n R e l D C a k p) := by
  have h := fr_bd (but := -9) (a := (a : Int)) (b := ((a + 1 + k : Nat) : Int)) hb (by omega) (by omega)
  unfold hvB bH at *
  split
  · dsimp only; omega
  · exact hp
theorem hvI_bd {a : Nat} (hb : bnd n R e l D C) (ha : a < 16) {p : Int × Int} (hp : bH p) : ∀ k, k ≤ 16 - a → bH (foF (hvB n R e l D C a) k p)
  | 0, _ => hp
  | k + 1, hk => hvB_bd hb (by omega) (hvI_bd hb ha hp k (by omega))
def hvI (n : Nat) (R : Int) (e l D C : Nat → Int) (a : Nat) (p : Int × Int) : Int × Int := foF (hvB n R e l D C a) (16 - a) p
theorem hvO_bd (hb : bnd n R e l D C) : ∀ k, k ≤ 16 → bH (foF (hvI n R e l D C) k (-9, 0))
  | 0, _ => by unfold bH; exact ⟨by show (-9 : Int) ≤ -9; omega, by show (-9 : Int) ≤ 2000; omega, by show (-1000 : Int) ≤ 0; omega, by show (0 : Int) ≤ 0; omega⟩
  | k + 1, hk => hvI_bd hb (by omega) (hvO_bd hb k (by omega)) (16 - k) (Nat.le_refl _)
theorem heavyX {s : wd_Mem} (hb : bnd n R e l D C) (hs : sgx s n R e l D C) : X3_heaviest s = some (zI (foF (hvI n R e l D C) 16 (-9, 0)).1) := by
  have inner : ∀ (a : Nat) (p : Int × Int) (K : Int32 → Int32 → Option Int32), a < 16 → bH p → X3_heaviest_l18 K s (zI (a : Nat)) wd_big (zI p.1) (zI p.2) (zI ((a + 1 : Nat) : Int)) = K (zI (hvI n R e l D C a p).1) (zI (hvI n R e l D C a p).2) := by
    intro a p K ha hp
    exact wd_forF (fun q k (x : Int32 × Int32) => X3_heaviest_l18 K s (zI (a : Nat)) q x.1 x.2 (zI ((a + 1 + k : Nat) : Int))) (fun x => K x.1 x.2) (fun k => (zI (foF (hvB n R e l D C a) k p).1, zI (foF (hvB n R e l D C a) k p).2)) (16 - a) (by omega) (fun k q hk => by
      show X3_heaviest_c18 _ _ s _ _ (zI (a : Nat)) (zI ((a + 1 + k : Nat) : Int)) = _
      have hpk := hvI_bd hb ha hp k (by omega)
      have hfr := fr_bd (but := -9) (a := (a : Int)) (b := ((a + 1 + k : Nat) : Int)) hb (by omega) (by omega)
      have e1 : zI ((a + 1 + k : Nat) : Int) + (1 : Int32) = zI ((a + 1 + (k + 1) : Nat) : Int) := by rw [z_1, zI_add]; rfl
      have es : foF (hvB n R e l D C a) (k + 1) p = hvB n R e l D C a k (foF (hvB n R e l D C a) k p) := rfl
      rw [es]
      obtain ⟨P, hP⟩ : ∃ P, P = foF (hvB n R e l D C a) k p := ⟨_, rfl⟩
      rw [← hP] at hpk ⊢
      unfold X3_heaviest_c18 X3_heaviest_b53
      unfold bH at hpk
      rw [z_16, if_neg (by rw [zI_lt (zR_small (by omega) (by omega)) (zR_small (by omega) (by omega))]; omega), z_m9, freeX hb hs (by omega) (by omega) (by omega)]
      simp only [Option.bind_some]
      rw [zl_le (zR_small (by omega) (by omega)) (zR_small (by omega) (by omega)), e1]
      unfold hvB
      by_cases hc : frF n R e l D C (-9) (a : Int) ((a + 1 + k : Nat) : Int) < P.2
      · rw [if_neg (by omega), if_pos hc, z_100, zI_mul, zI_add]
      · rw [if_pos (by omega), if_neg hc]) (fun q => by
      show X3_heaviest_c18 _ _ s _ _ (zI (a : Nat)) (zI ((a + 1 + (16 - a) : Nat) : Int)) = _
      unfold X3_heaviest_c18
      rw [z_16, if_pos (by rw [zI_lt (zR_small (by omega) (by omega)) (zR_small (by omega) (by omega))]; omega)])
  have key := wd_forF (fun q a (x : Int32 × Int32) => X3_heaviest_l7 (fun x1 => X3_heaviest_b65 s x1) s q x.1 x.2 (zI (a : Nat))) (fun x => some x.1) (fun a => (zI (foF (hvI n R e l D C) a (-9, 0)).1, zI (foF (hvI n R e l D C) a (-9, 0)).2)) 16 (by omega) (fun a q ha => by
    show X3_heaviest_c7 _ _ s _ _ (zI (a : Nat)) = _
    have e1 : zI (a : Int) + (1 : Int32) = zI ((a + 1 : Nat) : Int) := by rw [z_1, zI_add]; rfl
    unfold X3_heaviest_c7
    rw [z_16, if_neg (by rw [zI_le (zR_small (by omega) (by omega)) (zR_small (by omega) (by omega))]; omega), e1, inner a _ _ ha (hvO_bd hb a (by omega))]
    unfold X3_heaviest_b59
    rw [e1]
    rfl) (fun q => by
    show X3_heaviest_c7 _ _ s _ _ (zI 16) = _
    unfold X3_heaviest_c7 X3_heaviest_b65
    rw [if_pos (by rw [z_16]; exact Int32.le_refl _)])
  exact key
theorem heavyM {s : wd_Mem} (hb : bnd n R e l D C) (hs : datV s n R e l D C) : X8_heavy_l11 (fun x1 => X8_heavy_b116 s x1) s wd_big (-9 : Int32) (0 : Int32) (0 : Int32) = some (zI (foF (hvI n R e l D C) 16 (-9, 0)).1, s) := by
  have hn := hb.1
  have sum : ∀ (a b : Int) (x1 x2 : Int32) (K : Int32 → Option (Int32 × wd_Mem)), 0 ≤ a ∧ a ≤ 17 → 0 ≤ b ∧ b ≤ 17 → X8_heavy_l44 K s x1 x2 (zI a) (zI b) wd_big (zI (-R * (b - a))) 0 = K (zI (-frF n R e l D C (-9) a b)) := by
    intro a b x1 x2 K ha hb2
    have key := wd_forF (fun q i x => X8_heavy_l44 K s x1 x2 (zI a) (zI b) q x (zI (i : Nat))) K (fun i => zI (-R * (b - a) + sumF (lsF e l D C (-9) a b) i)) n (by omega) (fun i q hi => by
      show X8_heavy_c44 _ _ s x1 x2 (zI a) (zI b) (zI (_ + _)) (zI (i : Nat)) = _
      have e1 : zI (i : Int) + (1 : Int32) = zI ((i + 1 : Nat) : Int) := by rw [z_1, zI_add]; rfl
      unfold X8_heavy_c44
      rw [hs.1, if_neg (by rw [zI_le (zR_small (by omega) (by omega)) (zR_small (by omega) (by omega))]; omega), leastM hb hs hi ha hb2]
      simp only [Option.bind_some]
      rw [zI_add, e1]
      have e2 : sumF (lsF e l D C (-9) a b) (i + 1) = sumF (lsF e l D C (-9) a b) i + leF e l D C a b i := by
        show _ + lsF e l D C (-9) a b i = _
        unfold lsF
        rw [if_neg (by omega)]
      rw [e2, Int.add_assoc]) (fun q => by
      show X8_heavy_c44 _ _ s x1 x2 (zI a) (zI b) _ (zI (n : Nat)) = _
      unfold X8_heavy_c44
      rw [hs.1, if_pos (Int32.le_refl _)])
    have k0 : -R * (b - a) + sumF (lsF e l D C (-9) a b) 0 = -R * (b - a) := by simp [sumF]
    have k1 : -R * (b - a) + sumF (lsF e l D C (-9) a b) n = -frF n R e l D C (-9) a b := by
      unfold frF
      rw [Int.neg_mul]
      omega
    rw [k0, k1] at key
    exact key
  have inner : ∀ (a : Nat) (p : Int × Int) (K : Int32 → Int32 → Option (Int32 × wd_Mem)), a < 16 → bH p → X8_heavy_l22 K s (zI (a : Nat)) wd_big (zI p.1) (zI (-p.2)) (zI ((a + 1 : Nat) : Int)) = K (zI (hvI n R e l D C a p).1) (zI (-(hvI n R e l D C a p).2)) := by
    intro a p K ha hp
    exact wd_forF (fun q k (x : Int32 × Int32) => X8_heavy_l22 K s (zI (a : Nat)) q x.1 x.2 (zI ((a + 1 + k : Nat) : Int))) (fun x => K x.1 x.2) (fun k => (zI (foF (hvB n R e l D C a) k p).1, zI (-(foF (hvB n R e l D C a) k p).2))) (16 - a) (by omega) (fun k q hk => by
      show X8_heavy_c22 _ _ s _ _ (zI (a : Nat)) (zI ((a + 1 + k : Nat) : Int)) = _
      have hpk := hvI_bd hb ha hp k (by omega)
      have hfr := fr_bd (but := -9) (a := (a : Int)) (b := ((a + 1 + k : Nat) : Int)) hb (by omega) (by omega)
      have e1 : zI ((a + 1 + k : Nat) : Int) + (1 : Int32) = zI ((a + 1 + (k + 1) : Nat) : Int) := by rw [z_1, zI_add]; rfl
      have es : foF (hvB n R e l D C a) (k + 1) p = hvB n R e l D C a k (foF (hvB n R e l D C a) k p) := rfl
      rw [es]
      obtain ⟨P, hP⟩ : ∃ P, P = foF (hvB n R e l D C a) k p := ⟨_, rfl⟩
      rw [← hP] at hpk ⊢
      unfold X8_heavy_c22
      unfold bH at hpk
      rw [z_16, if_neg (by rw [zI_lt (zR_small (by omega) (by omega)) (zR_small (by omega) (by omega))]; omega), hs.2.1, zI_neg, zI_sub, zI_mul, sum _ _ _ _ _ (by omega) (by omega)]
      unfold X8_heavy_b73 X8_heavy_b90 X8_heavy_b103
      rw [zl_le (zR_small (by omega) (by omega)) (zR_small (by omega) (by omega)), zl_le (zR_small (by omega) (by omega)) (zR_small (by omega) (by omega)), zl_le (zR_small (by omega) (by omega)) (zR_small (by omega) (by omega)), e1]
      unfold hvB
      by_cases hc : frF n R e l D C (-9) (a : Int) ((a + 1 + k : Nat) : Int) < P.2
      · rw [if_neg (by omega), if_neg (by omega), if_pos hc, z_100, zI_mul, zI_add]
      · rw [if_pos (by omega), if_pos (by omega), if_neg hc]) (fun q => by
      show X8_heavy_c22 _ _ s _ _ (zI (a : Nat)) (zI ((a + 1 + (16 - a) : Nat) : Int)) = _
      unfold X8_heavy_c22
      rw [z_16, if_pos (by rw [zI_lt (zR_small (by omega) (by omega)) (zR_small (by omega) (by omega))]; omega)])
  have key := wd_forF (fun q a (x : Int32 × Int32) => X8_heavy_l11 (fun x1 => X8_heavy_b116 s x1) s q x.1 x.2 (zI (a : Nat))) (fun x => some (x.1, s)) (fun a => (zI (foF (hvI n R e l D C) a (-9, 0)).1, zI (-(foF (hvI n R e l D C) a (-9, 0)).2))) 16 (by omega) (fun a q ha => by
    show X8_heavy_c11 _ _ s _ _ (zI (a : Nat)) = _
    have e1 : zI (a : Int) + (1 : Int32) = zI ((a + 1 : Nat) : Int) := by rw [z_1, zI_add]; rfl
    unfold X8_heavy_c11
    rw [z_16, if_neg (by rw [zI_le (zR_small (by omega) (by omega)) (zR_small (by omega) (by omega))]; omega), e1, inner a _ _ ha (hvO_bd hb a (by omega))]
    unfold X8_heavy_b110
    rw [e1]
    rfl) (fun q => by
    show X8_heavy_c11 _ _ s _ _ (zI 16) = _
    unfold X8_heavy_c11 X8_heavy_b116
    rw [if_pos (by rw [z_16]; exact Int32.le_refl _)])
  exact key
theorem smF_all {f : Nat → Int} {S : Nat} : ∀ k, (∀ j, j < k → S.testBit j = true) → smF f k S = sumF f k
  | 0, _ => rfl
  | k + 1, h => by
    simp only [smF, sumF]
    rw [if_pos (h k (by omega)), smF_all k (fun j hj => h j (by omega))]
theorem eallX {s : wd_Mem} (hn : n ≤ 5) (x1 : s 3 1 = zI n) (hs : ∀ i, i < n → s 4 i = zI (D i) ∧ s 5 i = zI (C i)) : X4_energyOfAll 3 s = some (zI (sumF (enF D C) n)) := by
  have key := wd_forF (fun q i x => X4_energyOfAll_l4 (fun x1 => X4_energyOfAll_b26 3 s x1) 3 s q x (zI (i : Nat))) (fun x => some x) (fun i => zI (sumF (enF D C) i)) n (by omega) (fun i q hi => by
    show X4_energyOfAll_c4 _ _ 3 s (zI (sumF _ i)) (zI (i : Nat)) = _
    have e1 : zI (i : Int) + (1 : Int32) = zI ((i + 1 : Nat) : Int) := by rw [z_1, zI_add]; rfl
    unfold X4_energyOfAll_c4
    rw [x1, if_neg (by rw [zI_le (zR_small (by omega) (by omega)) (zR_small (by omega) (by omega))]; omega), energyX (h := 3) (by omega) (hs i hi).1 (hs i hi).2]
    simp only [Option.bind_some]
    rw [zI_add, e1]
    rfl) (fun q => by
    show X4_energyOfAll_c4 _ _ 3 s _ (zI (n : Nat)) = _
    unfold X4_energyOfAll_c4 X4_energyOfAll_b26
    rw [x1, if_pos (Int32.le_refl _)])
  unfold X4_energyOfAll X4_energyOfAll_b0
  rw [z_0]
  exact key
theorem eallM {s : wd_Mem} (hn : n ≤ 5) (x0 : s 31 0 = zI n) (xR : s 31 1 = zI R) (hs : ∀ i, i < n → s 32 i = zI (D i) ∧ s 33 i = zI (C i)) : X8_energy s (X8_all s) = some (zI (sumF (enF D C) n)) := by
  have hp := pow5 hn
  have hp0 : 0 < 2 ^ n := Nat.two_pow_pos n
  rw [all_eq hn x0, show ((2 ^ n : Nat) : Int) - 1 = ((2 ^ n - 1 : Nat) : Int) by omega, energyM (e := fun i => (s 40 i).toInt) (l := fun i => (s 41 i).toInt) (R := R) (D := D) (C := C) hn ⟨x0, xR, fun i hi => ⟨(zI_of _).symm, (zI_of _).symm, (hs i hi).1, (hs i hi).2⟩⟩ (by omega)]
  rw [smF_all n (fun j hj => by rw [Nat.testBit_two_pow_sub_one]; exact decide_eq_true hj)]
end
theorem op_count (μ : wd_Mem) (x1 : Int32) (h : wd_rel μ) : ∃ (r : Int32) (μ1 μ2 : wd_Mem), X7_count μ x1 = some (r, μ1) ∧ X8_count μ1 x1 = some (r, μ2) ∧ wd_rel μ2 := by
  have h' := h
  obtain ⟨hT, hS, hL, n, hK, hW, hH, hI⟩ := h
  obtain ⟨R, e, l, D, c, hb, hx, hm⟩ := rel_N hK hW
  have hn := hK.1
  obtain ⟨v, rfl, hv⟩ := zI_x x1
  unfold X7_count X7_count_b0 X8_count X8_count_b0
  by_cases w : 0 ≤ v ∧ v ≤ 8
  · rcases (show v = 0 ∨ v = 1 ∨ v = 2 ∨ v = 3 ∨ v = 4 ∨ v = 5 ∨ v = 6 ∨ v = 7 ∨ v = 8 by omega) with rfl | rfl | rfl | rfl | rfl | rfl | rfl | rfl | rfl
    · simp only [if_pos (show zI 0 = nI 0 by decide)]
      exact ⟨_, μ, μ, rfl, by rw [hx.1, hm.1], h'⟩
    · simp only [if_neg (show ¬ zI 1 = nI 0 by decide), if_pos (show zI 1 = nI 1 by decide)]
      exact ⟨_, μ, μ, rfl, by rw [hx.2.1, hm.2.1], h'⟩
    · simp only [if_neg (show ¬ zI 2 = nI 0 by decide), if_neg (show ¬ zI 2 = nI 1 by decide), if_pos (show zI 2 = nI 2 by decide)]
      rw [broX hb hx]
      simp only [Option.bind_some]
      refine ⟨bI (brk n (cN e) (cN l) (cN D)), μ, μ, ?_, ?_, h'⟩
      · cases brk n (cN e) (cN l) (cN D) <;> rfl
      · rw [broM hb hm]
        simp only [Option.bind_some]
        cases brk n (cN e) (cN l) (cN D) <;> rfl
    · simp only [if_neg (show ¬ zI 3 = nI 0 by decide), if_neg (show ¬ zI 3 = nI 1 by decide), if_neg (show ¬ zI 3 = nI 2 by decide), if_pos (show zI 3 = nI 3 by decide)]
      obtain ⟨τ, b1, b2, b3⟩ := manyX hb hx hL
      obtain ⟨σ, m1, m2⟩ := manyM (ν := τ) hb (datM_congr (b3 31 (by omega)) (b3 34 (by omega)) (b3 32 (by omega)) (b3 33 (by omega)) hm)
      refine ⟨_, τ, σ, by rw [b1]; rfl, by rw [m1]; rfl, rel_scratch h' (fun a x y => by rw [m2 a (by omega), b3 a (by omega)]) ?_ (rLoad_congr (m2 26 (by omega)) b2)⟩
      have g : ∀ a, 14 ≤ a → a ≤ 17 → σ a = μ a := fun a x y => by rw [m2 a (by omega), b3 a (by omega)]
      exact rSight_congr (g 14 (by omega) (by omega)) (g 15 (by omega) (by omega)) (g 16 (by omega) (by omega)) (g 17 (by omega) (by omega)) hS
    · simp only [if_neg (show ¬ zI 4 = nI 0 by decide), if_neg (show ¬ zI 4 = nI 1 by decide), if_neg (show ¬ zI 4 = nI 2 by decide), if_neg (show ¬ zI 4 = nI 3 by decide), if_pos (show zI 4 = nI 4 by decide)]
      obtain ⟨τ, b1, b2, b3⟩ := shortX hb hx hL
      obtain ⟨σ, m1, m2⟩ := shortM (ν := τ) hb (datM_congr (b3 31 (by decide) (by decide) (by decide) (by decide)) (b3 34 (by decide) (by decide) (by decide) (by decide)) (b3 32 (by decide) (by decide) (by decide) (by decide)) (b3 33 (by decide) (by decide) (by decide) (by decide)) hm)
      refine ⟨_, τ, σ, by rw [b1]; rfl, by rw [m1, sh_same]; rfl, rel_scratch h' (fun a x y => by rw [m2 a (by omega), b3 a (by omega) (by omega) (by omega) (by omega)]) ?_ (rLoad_congr (m2 26 (by omega)) b2)⟩
      have g : ∀ a, 14 ≤ a → a ≤ 17 → σ a = μ a := fun a x y => by rw [m2 a (by omega), b3 a (by omega) (by omega) (by omega) (by omega)]
      exact rSight_congr (g 14 (by omega) (by omega)) (g 15 (by omega) (by omega)) (g 16 (by omega) (by omega)) (g 17 (by omega) (by omega)) hS
    · simp only [if_neg (show ¬ zI 5 = nI 0 by decide), if_neg (show ¬ zI 5 = nI 1 by decide), if_neg (show ¬ zI 5 = nI 2 by decide), if_neg (show ¬ zI 5 = nI 3 by decide), if_neg (show ¬ zI 5 = nI 4 by decide), if_pos (show zI 5 = nI 5 by decide)]
      obtain ⟨n', R', E', L', D', C', ν, ρ, v1, v2, v3, v4, v5, v6, v7, v8, v9, v10⟩ := views h'
      have hg : sgx ν n' R' E' L' D' C' := ⟨by rw [v6 3 (by omega)]; exact v2.1, by rw [v6 3 (by omega)]; exact v2.2.1, fun i hi => by rw [v6 4 (by omega), v6 5 (by omega)]; exact (v2.2.2 i hi).2.2, v5⟩
      refine ⟨zI (foF (hvI n' R' E' L' D' C') 16 (-9, 0)).1, ν, ρ, ?_, ?_, v10⟩
      · rw [v4]
        simp only [Option.bind_some]
        rw [heavyX v1 hg]
        rfl
      · unfold X8_heavy X8_heavy_b0
        rw [v7]
        simp only [Option.bind_some]
        rw [heavyM v1 v8]
        rfl
    · simp only [if_neg (show ¬ zI 6 = nI 0 by decide), if_neg (show ¬ zI 6 = nI 1 by decide), if_neg (show ¬ zI 6 = nI 2 by decide), if_neg (show ¬ zI 6 = nI 3 by decide), if_neg (show ¬ zI 6 = nI 4 by decide), if_neg (show ¬ zI 6 = nI 5 by decide), if_pos (show zI 6 = nI 6 by decide)]
      refine ⟨_, μ, μ, by rw [eallX hn hx.1 (fun i hi => (hx.2.2 i hi).2.2)]; rfl, by rw [eallM hn hm.1 hm.2.1 (fun i hi => (hm.2.2 i hi).2.2)]; rfl, h'⟩
    · simp only [if_neg (show ¬ zI 7 = nI 0 by decide), if_neg (show ¬ zI 7 = nI 1 by decide), if_neg (show ¬ zI 7 = nI 2 by decide), if_neg (show ¬ zI 7 = nI 3 by decide), if_neg (show ¬ zI 7 = nI 4 by decide), if_neg (show ¬ zI 7 = nI 5 by decide), if_neg (show ¬ zI 7 = nI 6 by decide), if_pos (show zI 7 = nI 7 by decide)]
      obtain ⟨len, -, t1, t2, -⟩ := hT
      exact ⟨_, μ, μ, rfl, by rw [t1, t2], h'⟩
    · simp only [if_neg (show ¬ zI 8 = nI 0 by decide), if_neg (show ¬ zI 8 = nI 1 by decide), if_neg (show ¬ zI 8 = nI 2 by decide), if_neg (show ¬ zI 8 = nI 3 by decide), if_neg (show ¬ zI 8 = nI 4 by decide), if_neg (show ¬ zI 8 = nI 5 by decide), if_neg (show ¬ zI 8 = nI 6 by decide), if_neg (show ¬ zI 8 = nI 7 by decide), if_pos (show zI 8 = nI 8 by decide)]
      obtain ⟨u, p, -, -, t1, t2, -⟩ := hH
      exact ⟨_, μ, μ, rfl, by rw [t1, t2], h'⟩
  · have ne : ∀ k : Nat, k ≤ 8 → ¬ zI v = nI k := fun k hk => by
      rw [zI_nat, zI_eq hv (zR_small (by omega) (by omega))]
      omega
    simp only [if_neg (ne 0 (by omega)), if_neg (ne 1 (by omega)), if_neg (ne 2 (by omega)), if_neg (ne 3 (by omega)), if_neg (ne 4 (by omega)), if_neg (ne 5 (by omega)), if_neg (ne 6 (by omega)), if_neg (ne 7 (by omega)), if_neg (ne 8 (by omega))]
    exact ⟨_, μ, μ, rfl, rfl, h'⟩
