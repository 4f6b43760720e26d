/-! ===== a rule, one way: the class ===== -/
def tbF (r n : Nat) (R : Int) (e l D C : Nat → Int) (i : Nat) : Bool := decide (e i < tnF r n R e l D C i)
def fvF (s r n : Nat) (R : Int) (e l D C : Nat → Int) (i : Nat) : Int32 := zI (vvF s (tnF r n R e l D C i))
def fcF (r n : Nat) (R : Int) (e l D C : Nat → Int) (i : Nat) : Int32 := zI (tcF r n R e l D C i)
theorem passX1 {ν : wd_Mem} {n r s : Nat} {R : Int} {e l D C : Nat → Int} (hb : bnd n R e l D C) (hw : ∀ i, i < n → e i + D i ≤ l i) (hg : sgx ν n R e l D C) (hr : r < 4) (hs : s < 2) : ∃ τ : wd_Mem, X1_tightenSide_l15 (fun x4 μ => X1_tightenSide_b202 48 μ x4) 48 (zI (r : Nat)) (zI (s : Nat)) wd_big 0 0 ν = some (bI (orF (tbF r n R e l D C) n), τ) ∧ τ 49 = upA (5 * s) n (tbF r n R e l D C) (fvF s r n R e l D C) (ν 49) ∧ τ 50 = upA (5 * s) n (tbF r n R e l D C) (fun _ => zI (r : Nat)) (ν 50) ∧ τ 51 = upA (5 * s) n (tbF r n R e l D C) (fcF r n R e l D C) (ν 51) ∧ ∀ a, a ≠ 19 → a ≠ 20 → a ≠ 49 → a ≠ 50 → a ≠ 51 → τ a = ν a := by
  have hn := hb.1
  have key : ∃ S : Int32 × wd_Mem, (S.1 = bI (orF (tbF r n R e l D C) n) ∧ S.2 49 = upA (5 * s) n (tbF r n R e l D C) (fvF s r n R e l D C) (ν 49) ∧ S.2 50 = upA (5 * s) n (tbF r n R e l D C) (fun _ => zI (r : Nat)) (ν 50) ∧ S.2 51 = upA (5 * s) n (tbF r n R e l D C) (fcF r n R e l D C) (ν 51) ∧ ∀ a, a ≠ 19 → a ≠ 20 → a ≠ 49 → a ≠ 50 → a ≠ 51 → S.2 a = ν a) ∧ X1_tightenSide_l15 (fun x4 μ => X1_tightenSide_b202 48 μ x4) 48 (zI (r : Nat)) (zI (s : Nat)) wd_big 0 (zI ((0 : Nat) : Int)) ν = X1_tightenSide_b202 48 S.2 S.1 := by
    refine wd_for0 (fun q i S => X1_tightenSide_l15 (fun x4 μ => X1_tightenSide_b202 48 μ x4) 48 (zI (r : Nat)) (zI (s : Nat)) q S.1 (zI (i : Nat)) S.2) (fun S : Int32 × wd_Mem => X1_tightenSide_b202 48 S.2 S.1) (fun i S => S.1 = bI (orF (tbF r n R e l D C) i) ∧ S.2 49 = upA (5 * s) i (tbF r n R e l D C) (fvF s r n R e l D C) (ν 49) ∧ S.2 50 = upA (5 * s) i (tbF r n R e l D C) (fun _ => zI (r : Nat)) (ν 50) ∧ S.2 51 = upA (5 * s) i (tbF r n R e l D C) (fcF r n R e l D C) (ν 51) ∧ ∀ a, a ≠ 19 → a ≠ 20 → a ≠ 49 → a ≠ 50 → a ≠ 51 → S.2 a = ν a) n (0, ν) (by omega) ⟨rfl, by rw [upA_0], by rw [upA_0], by rw [upA_0], fun _ _ _ _ _ _ => rfl⟩ (fun i S q hi hI => ?_) (fun S q hI => ?_)
    · obtain ⟨x, m⟩ := S
      obtain ⟨i1, i2, i3, i4, i5⟩ := hI
      have i1 : x = bI (orF (tbF r n R e l D C) i) := i1
      have i2 : m 49 = upA (5 * s) i (tbF r n R e l D C) (fvF s r n R e l D C) (ν 49) := i2
      have i3 : m 50 = upA (5 * s) i (tbF r n R e l D C) (fun _ => zI (r : Nat)) (ν 50) := i3
      have i4 : m 51 = upA (5 * s) i (tbF r n R e l D C) (fcF r n R e l D C) (ν 51) := i4
      have i5 : ∀ a, a ≠ 19 → a ≠ 20 → a ≠ 49 → a ≠ 50 → a ≠ 51 → m a = ν a := i5
      have hm : sgx m n R e l D C := sgx_congr (fun a ha => i5 a (by omega) (by omega) (by omega) (by omega) (by omega)) hg
      have y := hb.2.2.2 i hi
      have hwi := hw i hi
      obtain ⟨q1, q2, q3, q4, q5, q6⟩ := tp_rel (r := r) (c := 0) hb hi hwi
      obtain ⟨n1, n2, n3⟩ := tn_bd (r := r) hb hi hwi
      obtain ⟨f1, f2, f3, f4⟩ := hm.2.2.2.1 i hi
      have e1 : zI (i : Int) + (1 : Int32) = zI ((i + 1 : Nat) : Int) := by rw [z_1, zI_add]; rfl
      have hin : wd_in (zI (i : Int)) 5 = true := zI_in (by omega) (by omega) (by omega)
      obtain ⟨P, hP⟩ : ∃ P, P = tpX r n R e l D C i (e i, 0) := ⟨_, rfl⟩
      have hd := disX (s := m) (r := r) (p := (e i, 0)) (fun r4 => X1_tightenSide_b120 (X1_tightenSide_l15 (fun x4 μ => X1_tightenSide_b202 48 μ x4) 48 (zI (r : Nat)) (zI (s : Nat)) q) (fun x4 μ => X1_tightenSide_b202 48 μ x4) 48 r4 (zI (r : Nat)) (zI (s : Nat)) x (zI (i : Nat))) hb hm hi ⟨by show -100000 ≤ e i; omega, by show e i ≤ 100000; omega⟩ hwi hr
      have m0 : mset (mset m 19 i (m 10 i)) 20 i 0 = tMX m i (e i, 0) := by unfold tMX; rw [f1, z_0]
      have start : X1_tightenSide_l15 (fun x4 μ => X1_tightenSide_b202 48 μ x4) 48 (zI (r : Nat)) (zI (s : Nat)) (q + 1) x (zI (i : Nat)) m = X1_tightenSide_b120 (X1_tightenSide_l15 (fun x4 μ => X1_tightenSide_b202 48 μ x4) 48 (zI (r : Nat)) (zI (s : Nat)) q) (fun x4 μ => X1_tightenSide_b202 48 μ x4) 48 (tMX m i (tpX r n R e l D C i (e i, 0))) (zI (r : Nat)) (zI (s : Nat)) x (zI (i : Nat)) := by
        show X1_tightenSide_c15 _ _ 48 m (zI (r : Nat)) (zI (s : Nat)) x (zI i) = _
        unfold X1_tightenSide_c15
        rw [hm.1, if_neg (by rw [zI_le (zR_small (by omega) (by omega)) (zR_small (by omega) (by omega))]; omega)]
        simp only [wd_chk_t hin, zI_clN (show i < 2147483648 by omega), m0]
        exact hd
      rw [← hP] at q1 q3 n3 start
      have hq1 := q1.1
      have hq2 := q1.2
      have g19 : tMX m i P 19 i = zI P.1 := by unfold tMX; rw [mset_h _ _ _ _ (by decide), mset_eq]
      have g20 : tMX m i P 20 i = zI P.2 := by unfold tMX; rw [mset_eq]
      have g10 : tMX m i P 10 i = zI (e i) := by rw [tMX_ne (by decide) (by decide), f1]
      have g13 : tMX m i P 13 i = zI (l i - D i) := by rw [tMX_ne (by decide) (by decide), f4]
      have frm : ∀ a, a ≠ 19 → a ≠ 20 → tMX m i P a = m a := fun a h1 h2 => tMX_ne h1 h2
      have tn : min P.1 (l i - D i + 1) = tnF r n R e l D C i := by rw [hP]; rfl
      by_cases hc : e i < P.1
      · have tb : tbF r n R e l D C i = true := decide_eq_true (n3.mpr hc)
        refine ⟨(1, mset (mset (mset (tMX m i P) 49 (5 * s + i) (zI (vvF s (tnF r n R e l D C i)))) 50 (5 * s + i) (zI (r : Nat))) 51 (5 * s + i) (zI P.2)), ⟨?_, ?_, ?_, ?_, fun a h1 h2 h3 h4 h5 => ?_⟩, ?_⟩
        · show (1 : Int32) = bI (orF (tbF r n R e l D C) i || tbF r n R e l D C i)
          rw [tb, Bool.or_true]; rfl
        · show mset (mset (mset (tMX m i P) 49 (5 * s + i) (zI (vvF s (tnF r n R e l D C i)))) 50 (5 * s + i) (zI (r : Nat))) 51 (5 * s + i) (zI P.2) 49 = _
          rw [mset_ne (by decide), mset_ne (by decide), mset_row, frm 49 (by decide) (by decide), i2]
          funext k
          rw [upA_t tb]
          rfl
        · show mset (mset (mset (tMX m i P) 49 (5 * s + i) (zI (vvF s (tnF r n R e l D C i)))) 50 (5 * s + i) (zI (r : Nat))) 51 (5 * s + i) (zI P.2) 50 = _
          rw [mset_ne (by decide), mset_row, mset_ne (by decide), frm 50 (by decide) (by decide), i3]
          funext k
          rw [upA_t tb]
        · show mset (mset (mset (tMX m i P) 49 (5 * s + i) (zI (vvF s (tnF r n R e l D C i)))) 50 (5 * s + i) (zI (r : Nat))) 51 (5 * s + i) (zI P.2) 51 = _
          rw [mset_row, mset_ne (by decide), mset_ne (by decide), frm 51 (by decide) (by decide), i4]
          funext k
          rw [upA_t tb, hP]
          rfl
        · show mset (mset (mset (tMX m i P) 49 (5 * s + i) (zI (vvF s (tnF r n R e l D C i)))) 50 (5 * s + i) (zI (r : Nat))) 51 (5 * s + i) (zI P.2) a = _
          rw [mset_ne h5, mset_ne h4, mset_ne h3, frm a h1 h2, i5 a h1 h2 h3 h4 h5]
        · show X1_tightenSide_l15 (fun x4 μ => X1_tightenSide_b202 48 μ x4) 48 (zI (r : Nat)) (zI (s : Nat)) (q + 1) x (zI (i : Nat)) m = X1_tightenSide_l15 (fun x4 μ => X1_tightenSide_b202 48 μ x4) 48 (zI (r : Nat)) (zI (s : Nat)) q 1 (zI ((i + 1 : Nat) : Int)) _
          rw [start]
          unfold X1_tightenSide_b120 X1_tightenSide_b182 X1_tightenSide_b196
          simp only [wd_chk_t hin, zI_clN (show i < 2147483648 by omega), g19, g20, g10, g13]
          rw [e1, zl_le (zR_small (by omega) (by omega)) (zR_small (by omega) (by omega)), if_neg (by omega), z_1, zI_add, zmin (zR_small (by omega) (by omega)) (zR_small (by omega) (by omega)), tn, move_eq (by omega) hs, move_eq (by omega) hs]
          simp only [Option.bind_some]
          unfold vvF
          rcases (show s = 0 ∨ s = 1 by omega) with rfl | rfl
          · rw [if_pos (by decide), if_pos rfl]
          · rw [if_neg (by decide), if_neg (by decide), z_16, zI_sub]
      · have tb : tbF r n R e l D C i = false := decide_eq_false (fun h => hc (n3.mp h))
        refine ⟨(x, tMX m i P), ⟨?_, ?_, ?_, ?_, fun a h1 h2 h3 h4 h5 => ?_⟩, ?_⟩
        · show x = bI (orF (tbF r n R e l D C) i || tbF r n R e l D C i)
          rw [tb, Bool.or_false]; exact i1
        · show tMX m i P 49 = _
          rw [upA_f tb, frm 49 (by decide) (by decide), i2]
        · show tMX m i P 50 = _
          rw [upA_f tb, frm 50 (by decide) (by decide), i3]
        · show tMX m i P 51 = _
          rw [upA_f tb, frm 51 (by decide) (by decide), i4]
        · show tMX m i P a = _
          rw [frm a h1 h2, i5 a h1 h2 h3 h4 h5]
        · show X1_tightenSide_l15 (fun x4 μ => X1_tightenSide_b202 48 μ x4) 48 (zI (r : Nat)) (zI (s : Nat)) (q + 1) x (zI (i : Nat)) m = X1_tightenSide_l15 (fun x4 μ => X1_tightenSide_b202 48 μ x4) 48 (zI (r : Nat)) (zI (s : Nat)) q x (zI ((i + 1 : Nat) : Int)) _
          rw [start]
          unfold X1_tightenSide_b120 X1_tightenSide_b196
          rw [wd_chk_t hin, zI_clN (by omega), g19, g10, e1, if_pos (by rw [zI_le (zR_small (by omega) (by omega)) (zR_small (by omega) (by omega))]; omega)]
    · have hm3 : S.2 3 = ν 3 := hI.2.2.2.2 3 (by decide) (by decide) (by decide) (by decide) (by decide)
      show X1_tightenSide_c15 _ _ 48 S.2 (zI (r : Nat)) (zI (s : Nat)) S.1 (zI n) = _
      unfold X1_tightenSide_c15
      rw [hm3, hg.1, if_pos (Int32.le_refl _)]
  obtain ⟨⟨x, τ⟩, ⟨k1, k2, k3, k4, k5⟩, k6⟩ := key
  have k1 : x = bI (orF (tbF r n R e l D C) n) := k1
  refine ⟨τ, ?_, k2, k3, k4, k5⟩
  rw [z_0, ← z_0]
  refine Eq.trans k6 ?_
  unfold X1_tightenSide_b202
  rw [k1, wd_chk_t (bI_bit _)]
