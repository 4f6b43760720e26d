/-! ===== a rule, one way: the reference ===== -/
def setR (j : Nat) (x : Int32) (g : Nat → Int32) : Nat → Int32 := fun k => if k = j then x else g k
theorem upA_T {o i : Nat} {b : Nat → Bool} {f g : Nat → Int32} (h : b i = true) : upA o (i + 1) b f g = setR (o + i) (f i) (upA o i b f g) := by
  funext k
  rw [upA_t h]
  rfl
theorem upA_R {o i j : Nat} {b : Nat → Bool} {x : Int32} {f g : Nat → Int32} (h : j < o ∨ o + i ≤ j) : upA o i b f (setR j x g) = setR j x (upA o i b f g) := by
  funext k
  unfold upA setR
  by_cases hk : k = j
  · rw [if_pos hk, if_neg (by omega), if_pos hk]
  · rw [if_neg hk, if_neg hk]
def up3 (s i r : Nat) (b : Nat → Bool) (fv fc g : Nat → Int32) : Nat → Int32 := upA (20 + 5 * s) i b fc (upA (10 + 5 * s) i b (fun _ => zI (r : Nat)) (upA (5 * s) i b fv g))
theorem up3_0 {s r : Nat} {b : Nat → Bool} {fv fc g : Nat → Int32} : up3 s 0 r b fv fc g = g := by
  unfold up3
  rw [upA_0, upA_0, upA_0]
theorem up3_f {s i r : Nat} {b : Nat → Bool} {fv fc g : Nat → Int32} (h : b i = false) : up3 s (i + 1) r b fv fc g = up3 s i r b fv fc g := by
  unfold up3
  rw [upA_f h, upA_f h, upA_f h]
theorem up3_t {s i r : Nat} {b : Nat → Bool} {fv fc g : Nat → Int32} (hs : s < 2) (hi : i < 5) (h : b i = true) : up3 s (i + 1) r b fv fc g = setR (20 + 5 * s + i) (fc i) (setR (10 + 5 * s + i) (zI (r : Nat)) (setR (5 * s + i) (fv i) (up3 s i r b fv fc g))) := by
  unfold up3
  rw [upA_T h, upA_T h, upA_T h, upA_R (by omega), upA_R (by omega), upA_R (by omega)]
theorem passM1 {μ : wd_Mem} {n s : Nat} {x1 : Int32} {R : Int} {E L D C : Nat → Int} (K : wd_Mem → Option wd_Mem) (hb : bnd n R E L D C) (hm : datM μ n R E L D C) (hs : s < 2) : ∃ ρ : wd_Mem, X8_passes_l2 K x1 (zI (s : Nat)) wd_big 0 μ = K ρ ∧ datV ρ n R (sE s E L) (sL s E L) D C ∧ ∀ a, a ≠ 40 → a ≠ 41 → ρ a = μ a := by
  obtain ⟨hn, -, -, hB⟩ := hb
  obtain ⟨x0, xR, hX⟩ := hm
  have key : ∃ ρ : wd_Mem, ((∀ i, i < n → ρ 40 i = zI (sE s E L i) ∧ ρ 41 i = zI (sL s E L i)) ∧ ∀ a, a ≠ 40 → a ≠ 41 → ρ a = μ a) ∧ X8_passes_l2 K x1 (zI (s : Nat)) wd_big (zI ((0 : Nat) : Int)) μ = K ρ := by
    refine wd_for0 (fun q i m => X8_passes_l2 K x1 (zI (s : Nat)) q (zI (i : Nat)) m) K (fun i ρ => (∀ j, j < i → ρ 40 j = zI (sE s E L j) ∧ ρ 41 j = zI (sL s E L j)) ∧ ∀ a, a ≠ 40 → a ≠ 41 → ρ a = μ a) n μ (by omega) ⟨fun j hj => by omega, fun _ _ _ => rfl⟩ (fun i m q hi hI => ?_) (fun m q hI => ?_)
    · obtain ⟨c1, c2, -⟩ := hX i hi
      refine ⟨mset (mset m 40 i (zI (sE s E L i))) 41 i (zI (sL s E L i)), ⟨fun j hj => ?_, fun a p q => ?_⟩, ?_⟩
      · by_cases hji : j = i
        · subst hji
          exact ⟨by rw [mset_h _ _ _ _ (by decide), mset_eq], mset_eq _ _ _ _⟩
        · obtain ⟨f1, f2⟩ := hI.1 j (by omega)
          exact ⟨by rw [mset_j _ _ _ _ hji, mset_j _ _ _ _ hji, f1], by rw [mset_j _ _ _ _ hji, mset_j _ _ _ _ hji, f2]⟩
      · rw [mset_ne q, mset_ne p, hI.2 a p q]
      · show X8_passes_c2 _ _ m x1 (zI (s : Nat)) (zI i) = _
        unfold X8_passes_c2 X8_passes_b41 X8_passes_b73
        have q0 : (0 : Int32) + zI i = zI i := by rw [z_0, zI_add]; congr 1; omega
        have q5 : (5 : Int32) + zI i = zI ((5 + i : Nat) : Int) := by rw [z_5, zI_add]; rfl
        have e1 : zI (i : Int) + (1 : Int32) = zI ((i + 1 : Nat) : Int) := by rw [z_1, zI_add]; rfl
        have h5 : wd_in (zI (i : Int)) 5 = true := zI_in (by omega) (by omega) (by omega)
        have h30 : wd_in (zI (i : Int)) 30 = true := zI_in (by omega) (by omega) (by omega)
        have h35 : wd_in (zI ((5 + i : Nat) : Int)) 30 = true := zI_in (by omega) (by omega) (by omega)
        rw [hI.2 31 (by decide) (by decide), x0, if_neg (by rw [zI_le (zR_small (by omega) (by omega)) (zR_small (by omega) (by omega))]; omega)]
        simp only [q0, q5, e1, wd_chk_t h5, wd_chk_t h30, wd_chk_t h35, zI_clN (show i < 2147483648 by omega), zI_clN (show 5 + i < 2147483648 by omega), hI.2 34 (by decide) (by decide), c1, c2]
        unfold sE sL
        rcases (show s = 0 ∨ s = 1 by omega) with rfl | rfl
        · rw [if_pos (by decide : zI ((0 : Nat) : Int) = 0), if_pos (by decide : zI ((0 : Nat) : Int) = 0), if_pos rfl, if_pos rfl]
        · rw [if_neg (by decide : ¬ zI ((1 : Nat) : Int) = 0), if_neg (by decide : ¬ zI ((1 : Nat) : Int) = 0), if_neg (by decide), if_neg (by decide), z_16, zI_sub, zI_sub]
    · show X8_passes_c2 _ _ m x1 (zI (s : Nat)) (zI n) = _
      unfold X8_passes_c2
      rw [hI.2 31 (by decide) (by decide), x0, if_pos (Int32.le_refl _)]
  obtain ⟨ρ, ⟨k1, k2⟩, k3⟩ := key
  refine ⟨ρ, by rw [z_0]; exact k3, ⟨by rw [k2 31 (by decide) (by decide)]; exact x0, by rw [k2 31 (by decide) (by decide)]; exact xR, fun i hi => ⟨(k1 i hi).1, (k1 i hi).2, ?_, ?_⟩⟩, k2⟩
  · rw [k2 32 (by decide) (by decide)]; exact (hX i hi).2.2.1
  · rw [k2 33 (by decide) (by decide)]; exact (hX i hi).2.2.2
theorem datV_congr {s t : wd_Mem} {n : Nat} {R : Int} {e l D C : Nat → Int} (f : ∀ a, a = 31 ∨ a = 32 ∨ a = 33 ∨ a = 40 ∨ a = 41 → t a = s a) (h : datV s n R e l D C) : datV t n R e l D C := by
  unfold datV at *
  rw [f 31 (by omega), f 32 (by omega), f 33 (by omega), f 40 (by omega), f 41 (by omega)]
  exact h
theorem passM2 {μ : wd_Mem} {n r : Nat} {x2 : Int32} {R : Int} {e l D C : Nat → Int} (K : wd_Mem → Option wd_Mem) (hb : bnd n R e l D C) (hw : ∀ i, i < n → e i + D i ≤ l i) (hv : datV μ n R e l D C) (hr : r < 4) : ∃ ρ : wd_Mem, X8_passes_l82 K (zI (r : Nat)) x2 wd_big 0 μ = K ρ ∧ (∀ i, i < n → ∃ c : Int, ρ 42 i = zI (tpM r n R e l D C i (e i, c)).1 ∧ ρ 43 i = zI (tpM r n R e l D C i (e i, c)).2) ∧ ∀ a, a ≠ 42 → a ≠ 43 → ρ a = μ a := by
  have hn := hb.1
  have key : ∃ ρ : wd_Mem, ((∀ i, i < n → ∃ c : Int, ρ 42 i = zI (tpM r n R e l D C i (e i, c)).1 ∧ ρ 43 i = zI (tpM r n R e l D C i (e i, c)).2) ∧ ∀ a, a ≠ 42 → a ≠ 43 → ρ a = μ a) ∧ X8_passes_l82 K (zI (r : Nat)) x2 wd_big (zI ((0 : Nat) : Int)) μ = K ρ := by
    refine wd_for0 (fun q i m => X8_passes_l82 K (zI (r : Nat)) x2 q (zI (i : Nat)) m) K (fun i ρ => (∀ j, j < i → ∃ c : Int, ρ 42 j = zI (tpM r n R e l D C j (e j, c)).1 ∧ ρ 43 j = zI (tpM r n R e l D C j (e j, c)).2) ∧ ∀ a, a ≠ 42 → a ≠ 43 → ρ a = μ a) n μ (by omega) ⟨fun j hj => by omega, fun _ _ _ => rfl⟩ (fun i m q hi hI => ?_) (fun m q hI => ?_)
    · have hm : datV m n R e l D C := datV_congr (fun a ha => hI.2 a (by omega) (by omega)) hv
      have y := hb.2.2.2 i hi
      have e1 : zI (i : Int) + (1 : Int32) = zI ((i + 1 : Nat) : Int) := by rw [z_1, zI_add]; rfl
      have hin : wd_in (zI (i : Int)) 5 = true := zI_in (by omega) (by omega) (by omega)
      have hd := disM (s := m) (r := r) (p := (e i, (m 43 i).toInt)) (fun r4 => X8_passes_b157 (X8_passes_l82 K (zI (r : Nat)) x2 q) K r4 (zI (r : Nat)) x2 (zI (i : Nat))) hb hm hi ⟨by show -100000 ≤ e i; omega, by show e i ≤ 100000; omega⟩ (hw i hi) hr
      have m0 : mset m 42 i (m 40 i) = tMM m i (e i, (m 43 i).toInt) := by
        unfold tMM
        have h1 := mset_same (mset m 42 i (zI (e i))) 43 i
        rw [mset_h _ _ _ _ (by decide : (43 : Nat) ≠ 42)] at h1
        show _ = mset (mset m 42 i (zI (e i))) 43 i (zI (m 43 i).toInt)
        rw [zI_of, h1, (hm.2.2 i hi).1]
      obtain ⟨P, hP⟩ : ∃ P, P = tpM r n R e l D C i (e i, (m 43 i).toInt) := ⟨_, rfl⟩
      refine ⟨tMM m i P, ⟨fun j hj => ?_, fun a p q => ?_⟩, ?_⟩
      · by_cases hji : j = i
        · subst hji
          refine ⟨(m 43 j).toInt, ?_, ?_⟩
          · unfold tMM; rw [mset_h _ _ _ _ (by decide), mset_eq, hP]
          · unfold tMM; rw [mset_eq, hP]
        · obtain ⟨c, f1, f2⟩ := hI.1 j (by omega)
          refine ⟨c, ?_, ?_⟩
          · unfold tMM; rw [mset_j _ _ _ _ hji, mset_j _ _ _ _ hji, f1]
          · unfold tMM; rw [mset_j _ _ _ _ hji, mset_j _ _ _ _ hji, f2]
      · rw [tMM_ne p q, hI.2 a p q]
      · show X8_passes_c82 _ _ m (zI (r : Nat)) x2 (zI i) = _
        unfold X8_passes_c82
        rw [hm.1, if_neg (by rw [zI_le (zR_small (by omega) (by omega)) (zR_small (by omega) (by omega))]; omega)]
        simp only [wd_chk_t hin, zI_clN (show i < 2147483648 by omega), m0]
        refine Eq.trans hd ?_
        unfold X8_passes_b157
        rw [e1, hP]
    · show X8_passes_c82 _ _ m (zI (r : Nat)) x2 (zI n) = _
      unfold X8_passes_c82
      rw [hI.2 31 (by decide) (by decide), hv.1, if_pos (Int32.le_refl _)]
  obtain ⟨ρ, ⟨k1, k2⟩, k3⟩ := key
  exact ⟨ρ, by rw [z_0]; exact k3, k1, k2⟩
theorem passM3 {μ : wd_Mem} {n r s : Nat} {R : Int} {e l D C : Nat → Int} (hb : bnd n R e l D C) (hw : ∀ i, i < n → e i + D i ≤ l i) (hv : datV μ n R e l D C) (hs : s < 2) (hT : ∀ i, i < n → ∃ c : Int, μ 42 i = zI (tpM r n R e l D C i (e i, c)).1 ∧ μ 43 i = zI (tpM r n R e l D C i (e i, c)).2) : ∃ ρ : wd_Mem, X8_passes_l165 (fun μ => X8_passes_b291 μ) (zI (r : Nat)) (zI (s : Nat)) wd_big 0 μ = some ρ ∧ ρ 34 = up3 s n r (tbF r n R e l D C) (fvF s r n R e l D C) (fcF r n R e l D C) (μ 34) ∧ ∀ a, a ≠ 34 → ρ a = μ a := by
  have hn := hb.1
  have key : ∃ ρ : wd_Mem, (ρ 34 = up3 s n r (tbF r n R e l D C) (fvF s r n R e l D C) (fcF r n R e l D C) (μ 34) ∧ ∀ a, a ≠ 34 → ρ a = μ a) ∧ X8_passes_l165 (fun μ => X8_passes_b291 μ) (zI (r : Nat)) (zI (s : Nat)) wd_big (zI ((0 : Nat) : Int)) μ = some ρ := by
    refine wd_for0 (fun q i m => X8_passes_l165 (fun μ => X8_passes_b291 μ) (zI (r : Nat)) (zI (s : Nat)) q (zI (i : Nat)) m) (fun m => some m) (fun i ρ => ρ 34 = up3 s i r (tbF r n R e l D C) (fvF s r n R e l D C) (fcF r n R e l D C) (μ 34) ∧ ∀ a, a ≠ 34 → ρ a = μ a) n μ (by omega) ⟨by rw [up3_0], fun _ _ => rfl⟩ (fun i m q hi hI => ?_) (fun m q hI => ?_)
    · obtain ⟨i1, i2⟩ := hI
      have hm : datV m n R e l D C := datV_congr (fun a ha => i2 a (by omega)) hv
      have y := hb.2.2.2 i hi
      have hwi := hw i hi
      obtain ⟨c, t1, t2⟩ := hT i hi
      obtain ⟨q1, q2, q3, q4, q5, q6⟩ := tp_rel (r := r) (c := c) hb hi hwi
      obtain ⟨n1, n2, n3⟩ := tn_bd (r := r) hb hi hwi
      have e1 : zI (i : Int) + (1 : Int32) = zI ((i + 1 : Nat) : Int) := by rw [z_1, zI_add]; rfl
      have hin : wd_in (zI (i : Int)) 5 = true := zI_in (by omega) (by omega) (by omega)
      obtain ⟨P, hP⟩ : ∃ P, P = tpM r n R e l D C i (e i, c) := ⟨_, rfl⟩
      rw [← hP] at q2 q4 q5 q6 t1 t2
      have hq1 := q2.1
      have hq2 := q2.2
      have g42 : m 42 i = zI P.1 := by rw [i2 42 (by decide), t1]
      have g43 : m 43 i = zI P.2 := by rw [i2 43 (by decide), t2]
      have g40 : m 40 i = zI (e i) := (hm.2.2 i hi).1
      have tn : min (tpX r n R e l D C i (e i, 0)).1 (l i - D i + 1) = tnF r n R e l D C i := rfl
      by_cases hc : e i < P.1
      · have hc' := q4.mp hc
        have tb : tbF r n R e l D C i = true := decide_eq_true (n3.mpr hc')
        have c2 : zI P.2 = fcF r n R e l D C i := by unfold fcF tcF; rw [q6 hc']
        refine ⟨mset (mset (mset m 34 (5 * s + i) (fvF s r n R e l D C i)) 34 (10 + 5 * s + i) (zI (r : Nat))) 34 (20 + 5 * s + i) (fcF r n R e l D C i), ⟨?_, fun a h => ?_⟩, ?_⟩
        · rw [mset_row, mset_row, mset_row, i1, up3_t hs (by omega) tb]
          rfl
        · rw [mset_ne h, mset_ne h, mset_ne h, i2 a h]
        · show X8_passes_c165 _ _ m (zI (r : Nat)) (zI (s : Nat)) (zI i) = _
          have b251 : ∀ (rec : Int32 → wd_Mem → Option wd_Mem) (K : wd_Mem → Option wd_Mem) (v : Int32), X8_passes_b251 rec K m (zI (r : Nat)) (zI (s : Nat)) (zI i) (zI ((5 * s + i : Nat) : Int)) v = rec (zI ((i + 1 : Nat) : Int)) (mset (mset (mset m 34 (5 * s + i) v) 34 (10 + 5 * s + i) (zI (r : Nat))) 34 (20 + 5 * s + i) (fcF r n R e l D C i)) := by
            intro rec K v
            unfold X8_passes_b251 X8_passes_b285
            rw [z_10, z_20, z_5, zI_mul, zI_add, zI_add, zI_add, zI_add, wd_chk_in (by omega) (by omega) (by omega), wd_chk_in (by omega) (by omega) (by omega), wd_chk_in (by omega) (by omega) (by omega), wd_chk_in (by omega) (by omega) (by omega), zI_clN (show 5 * s + i < 2147483648 by omega), zI_clN (show i < 2147483648 by omega), zI_cl (by omega) (by omega), zI_cl (by omega) (by omega), show (10 + 5 * (s : Int) + (i : Int)).toNat = 10 + 5 * s + i by omega, show (20 + 5 * (s : Int) + (i : Int)).toNat = 20 + 5 * s + i by omega, g43, c2, e1]
          have b218 : ∀ (rec : Int32 → wd_Mem → Option wd_Mem) (K : wd_Mem → Option wd_Mem), X8_passes_b218 rec K m (zI (r : Nat)) (zI (s : Nat)) (zI i) (zI (tnF r n R e l D C i)) = rec (zI ((i + 1 : Nat) : Int)) (mset (mset (mset m 34 (5 * s + i) (fvF s r n R e l D C i)) 34 (10 + 5 * s + i) (zI (r : Nat))) 34 (20 + 5 * s + i) (fcF r n R e l D C i)) := by
            intro rec K
            rw [← b251 rec K]
            unfold X8_passes_b218 X8_passes_b237 fvF vvF
            have q0 : (0 : Int32) + zI i = zI ((5 * 0 + i : Nat) : Int) := by rw [z_0, zI_add]; congr 1
            have q5 : (5 : Int32) + zI i = zI ((5 * 1 + i : Nat) : Int) := by rw [z_5, zI_add]; rfl
            rcases (show s = 0 ∨ s = 1 by omega) with rfl | rfl
            · rw [if_pos (by decide : zI ((0 : Nat) : Int) = 0), if_pos (by decide : zI ((0 : Nat) : Int) = 0), if_pos rfl, q0]
            · rw [if_neg (by decide : ¬ zI ((1 : Nat) : Int) = 0), if_neg (by decide : ¬ zI ((1 : Nat) : Int) = 0), if_neg (by decide), q5, z_16, zI_sub]
          unfold X8_passes_c165
          rw [hm.1, if_neg (by rw [zI_le (zR_small (by omega) (by omega)) (zR_small (by omega) (by omega))]; omega), wd_chk_t hin, zI_clN (by omega), g42, g40, if_neg (by rw [zI_le (zR_small (by omega) (by omega)) (zR_small (by omega) (by omega))]; omega), startM hn hm hi]
          simp only [Option.bind_some]
          rw [zl_le (zR_small (by omega) (by omega)) (zR_small (by omega) (by omega)), z_1, zI_add]
          rw [tn] at q5
          by_cases hle : P.1 ≤ l i - D i
          · rw [if_pos hle] at q5 ⊢
            rw [q5, b218]
          · rw [if_neg hle] at q5 ⊢
            rw [q5, b218]
      · have hc' : ¬ e i < (tpX r n R e l D C i (e i, 0)).1 := fun h => hc (q4.mpr h)
        have tb : tbF r n R e l D C i = false := decide_eq_false (fun h => hc' (n3.mp h))
        refine ⟨m, ⟨by rw [up3_f tb]; exact i1, i2⟩, ?_⟩
        show X8_passes_c165 _ _ m (zI (r : Nat)) (zI (s : Nat)) (zI i) = _
        unfold X8_passes_c165 X8_passes_b285
        rw [hm.1, if_neg (by rw [zI_le (zR_small (by omega) (by omega)) (zR_small (by omega) (by omega))]; omega), wd_chk_t hin, zI_clN (by omega), g42, g40, if_pos (by rw [zI_le (zR_small (by omega) (by omega)) (zR_small (by omega) (by omega))]; omega), e1]
    · show X8_passes_c165 _ _ m (zI (r : Nat)) (zI (s : Nat)) (zI n) = _
      unfold X8_passes_c165 X8_passes_b291
      rw [hI.2 31 (by decide), hv.1, if_pos (Int32.le_refl _)]
  obtain ⟨ρ, ⟨k1, k2⟩, k3⟩ := key
  exact ⟨ρ, by rw [z_0]; exact k3, k1, k2⟩
theorem bnd_s {n s : Nat} {R : Int} {E L D C : Nat → Int} (hb : bnd n R E L D C) : bnd n R (sE s E L) (sL s E L) D C := by
  obtain ⟨h1, h2, h3, h4⟩ := hb
  refine ⟨h1, h2, h3, fun i hi => ?_⟩
  have := h4 i hi
  unfold sE sL
  split <;> omega
theorem ok_s {n s : Nat} {E L D : Nat → Int} (hw : ∀ i, i < n → E i + D i ≤ L i) : ∀ i, i < n → sE s E L i + D i ≤ sL s E L i := fun i hi => by
  have := hw i hi
  unfold sE sL
  split <;> omega
/-- the reference's row behind a rule, one way -/
def psF (n : Nat) (R : Int) (D C : Nat → Int) (r s : Nat) (E L : Nat → Int) (g : Nat → Int32) : Nat → Int32 := up3 s n r (tbF r n R (sE s E L) (sL s E L) D C) (fvF s r n R (sE s E L) (sL s E L) D C) (fcF r n R (sE s E L) (sL s E L) D C) g
theorem passM {μ : wd_Mem} {n r s : Nat} {R : Int} {E L D C : Nat → Int} (hb : bnd n R E L D C) (hw : ∀ i, i < n → E i + D i ≤ L i) (hm : datM μ n R E L D C) (hr : r < 4) (hs : s < 2) : ∃ ρ : wd_Mem, X8_passes μ (zI (r : Nat)) (zI (s : Nat)) = some ρ ∧ ρ 34 = psF n R D C r s E L (μ 34) ∧ ∀ a, a ≠ 34 → a ≠ 40 → a ≠ 41 → a ≠ 42 → a ≠ 43 → ρ a = μ a := by
  have hb' := bnd_s (s := s) hb
  have hw' := ok_s (s := s) hw
  obtain ⟨ρ1, a1, a2, a3⟩ := passM1 (x1 := zI (r : Nat)) (fun μ => X8_passes_b80 μ (zI (r : Nat)) (zI (s : Nat))) hb hm hs
  obtain ⟨ρ2, b1, b2, b3⟩ := passM2 (r := r) (x2 := zI (s : Nat)) (fun μ => X8_passes_b163 μ (zI (r : Nat)) (zI (s : Nat))) hb' hw' a2 hr
  obtain ⟨ρ3, c1, c2, c3⟩ := passM3 (r := r) hb' hw' (datV_congr (fun a ha => b3 a (by omega) (by omega)) a2) hs b2
  refine ⟨ρ3, ?_, ?_, fun a h1 h2 h3 h4 h5 => ?_⟩
  · unfold X8_passes X8_passes_b0
    rw [a1]
    unfold X8_passes_b80
    rw [b1]
    unfold X8_passes_b163
    exact c1
  · rw [c2, b3 34 (by decide) (by decide), a3 34 (by decide) (by decide)]
    rfl
  · rw [c3 a h1, b3 a h4 h5, a3 a h2 h3]
