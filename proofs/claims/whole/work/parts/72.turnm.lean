/-! ===== the reference: a rule both ways, all rules ===== -/
def frM (ν τ : wd_Mem) : Prop := ∀ a, a ≠ 34 → a ≠ 40 → a ≠ 41 → a ≠ 42 → a ≠ 43 → τ a = ν a
theorem frM_trans {a b c : wd_Mem} (h : frM a b) (k : frM b c) : frM a c := fun x h1 h2 h3 h4 h5 => by rw [k x h1 h2 h3 h4 h5, h x h1 h2 h3 h4 h5]
section
variable {n : Nat} {R : Int} {D C : Nat → Int}
theorem tdM_f {ν τ : wd_Mem} (f : frM ν τ) (h : tdM ν n R D C) : tdM τ n R D C := by
  unfold tdM
  rw [f 31 (by decide) (by decide) (by decide) (by decide) (by decide), f 32 (by decide) (by decide) (by decide) (by decide) (by decide), f 33 (by decide) (by decide) (by decide) (by decide) (by decide)]
  exact h
theorem ruleM {ν : wd_Mem} {r : Nat} (ho : okG n R D C (ν 34)) (hb : brG n D (ν 34) = false) (ht : tdM ν n R D C) (hr : r < 4) : ∃ τ : wd_Mem, X8_rules ν (zI (r : Nat)) = some τ ∧ τ 34 = ruG n R D C r (ν 34) ∧ frM ν τ := by
  obtain ⟨τ1, a1, a2, a3⟩ := passM (r := r) (s := 0) ho (brG_f hb) (datM_G ht) hr (by omega)
  have a2' : τ1 34 = sdG n R D C r 0 (ν 34) := a2
  have o1 := (sd_ok (r := r) ho hb (show 0 < 2 by omega)).1
  rw [← a2'] at o1
  have t1 := tdM_f a3 ht
  have hbr := broM o1 (datM_G t1)
  have hk : X8_rules ν (zI (r : Nat)) = (if brG n D (τ1 34) = true then some τ1 else (X8_passes τ1 (zI (r : Nat)) (zI ((1 : Nat) : Int))).bind (fun r4 => some r4)) := by
    unfold X8_rules X8_rules_b0
    have a1' : X8_passes ν (zI (r : Nat)) 0 = _ := a1
    rw [a1']
    simp only [Option.bind_some]
    rw [hbr]
    simp only [Option.bind_some]
    unfold brG
    cases hq : brk n (eG (τ1 34)) (lG (τ1 34)) D with
    | true => rw [if_neg (by decide), if_pos rfl]
    | false => rw [if_pos (by decide), if_neg (by decide)]; rfl
  rw [hk]
  unfold ruG
  rw [← a2']
  cases hb1 : brG n D (τ1 34) with
  | true =>
    rw [if_pos rfl, if_pos rfl]
    exact ⟨τ1, rfl, rfl, a3⟩
  | false =>
    obtain ⟨τ2, c1, c2, c3⟩ := passM (r := r) (s := 1) o1 (brG_f hb1) (datM_G t1) hr (by omega)
    rw [c1]
    exact ⟨τ2, rfl, c2, frM_trans a3 c3⟩
theorem winsM {ν : wd_Mem} (ho : okG n R D C (ν 34)) (ht : tdM ν n R D C) : X8_windows ν = some (zI (wsG n (ν 34))) := by
  have hn := ho.1
  have hm := datM_G ht
  have key := wd_forF (fun q i x => X8_windows_l4 (fun x1 => X8_windows_b38 ν x1) ν q x (zI (i : Nat))) (fun x => some x) (fun i => zI (sumF (fun i => lG (ν 34) i - eG (ν 34) i) i)) n (by omega) (fun i q hi => by
    show X8_windows_c4 _ _ ν (zI (sumF _ i)) (zI i) = _
    obtain ⟨c1, c2, -⟩ := hm.2.2 i hi
    have q0 : (0 : Int32) + zI i = zI i := by rw [z_0, zI_add]; congr 1; omega
    have q5 : (5 : Int32) + zI i = zI ((5 + i : Nat) : Int) := by rw [z_5, zI_add]; rfl
    have e1 : zI (i : Int) + (1 : Int32) = zI ((i + 1 : Nat) : Int) := by rw [z_1, zI_add]; rfl
    unfold X8_windows_c4
    rw [ht.1, if_neg (by rw [zI_le (zR_small (by omega) (by omega)) (zR_small (by omega) (by omega))]; omega), q0, q5, wd_chk_in (by omega) (by omega) (by omega), wd_chk_in (by omega) (by omega) (by omega), zI_clN (by omega), zI_clN (by omega), c1, c2, zI_sub, zI_add, e1]
    rfl) (fun q => by
    show X8_windows_c4 _ _ ν (zI (sumF _ n)) (zI n) = _
    unfold X8_windows_c4 X8_windows_b38
    rw [ht.1, if_pos (Int32.le_refl _)])
  unfold X8_windows X8_windows_b0
  rw [z_0]
  exact key
theorem fourM {g : Nat → Int32} (K : wd_Mem → Option (Int32 × wd_Mem)) (x2 : Int32) (ho : okG n R D C g) (k : Nat) : ∀ (m j q : Nat) (ν : wd_Mem), j + m = 4 → m < q → ν 34 = sqG n R D C g (4 * k + j) → tdM ν n R D C → ∃ τ : wd_Mem, X8_tightens_l91 K x2 q (zI (j : Nat)) ν = K τ ∧ τ 34 = sqG n R D C g (4 * (k + 1)) ∧ frM ν τ := by
  intro m
  induction m with
  | zero =>
    intro j q ν h1 h2 hg ht
    obtain ⟨q, rfl⟩ : ∃ a, q = a + 1 := ⟨q - 1, by omega⟩
    refine ⟨ν, ?_, ?_, fun a _ _ _ _ _ => rfl⟩
    · show X8_tightens_c91 _ _ ν x2 (zI j) = _
      unfold X8_tightens_c91
      rw [show (4 : Int32) = zI 4 from zI_lit 4, if_pos (by rw [zI_le (zR_small (by omega) (by omega)) (zR_small (by omega) (by omega))]; omega)]
    · rw [hg]; congr 1; omega
  | succ m ih =>
    intro j q ν h1 h2 hg ht
    obtain ⟨q, rfl⟩ : ∃ a, q = a + 1 := ⟨q - 1, by omega⟩
    have o := sq_ok ho (4 * k + j)
    rw [← hg] at o
    have e0 : X8_tightens_l91 K x2 (q + 1) (zI (j : Nat)) ν = X8_tightens_c91 (X8_tightens_l91 K x2 q) K ν x2 (zI j) := rfl
    rw [e0]
    unfold X8_tightens_c91
    rw [show (4 : Int32) = zI 4 from zI_lit 4, if_neg (by rw [zI_le (zR_small (by omega) (by omega)) (zR_small (by omega) (by omega))]; omega), broM o (datM_G ht)]
    simp only [Option.bind_some]
    cases hb : brG n D (ν 34) with
    | true =>
      have e : brk n (eG (ν 34)) (lG (ν 34)) D = true := hb
      rw [e, if_neg (by decide)]
      refine ⟨ν, rfl, ?_, fun a _ _ _ _ _ => rfl⟩
      rw [hg] at hb
      have := sq_fx (fx_br hb) (4 - j)
      rw [show 4 * k + j + (4 - j) = 4 * (k + 1) by omega] at this
      rw [this, hg]
    | false =>
      have e : brk n (eG (ν 34)) (lG (ν 34)) D = false := hb
      obtain ⟨τ, a1, a2, a3⟩ := ruleM (r := j) o hb ht (by omega)
      have e2 : sqG n R D C g (4 * k + (j + 1)) = ruG n R D C j (ν 34) := by
        show stG n R D C ((4 * k + j) % 4) (sqG n R D C g (4 * k + j)) = _
        rw [← hg, show (4 * k + j) % 4 = j by omega]
        unfold stG
        rw [if_neg (by rw [hb]; decide)]
      have e1 : zI (j : Int) + (1 : Int32) = zI ((j + 1 : Nat) : Int) := by rw [z_1, zI_add]; rfl
      rw [e, if_pos (by decide), a1]
      simp only [Option.bind_some]
      rw [e1]
      obtain ⟨σ, b1, b2, b3⟩ := ih (j + 1) q τ (by omega) (by omega) (by rw [a2, e2]) (tdM_f a3 ht)
      exact ⟨σ, b1, b2, frM_trans a3 b3⟩
theorem loopM {g : Nat → Int32} (K : wd_Mem → Option (Int32 × wd_Mem)) (ho : okG n R D C g) : ∀ (m k q : Nat) (w : Int) (ν : wd_Mem), k + m = 163 → m < q → ((k = 0 ∧ w = -99) ∨ (1 ≤ k ∧ w = wsG n (sqG n R D C g (4 * (k - 1))))) → ν 34 = sqG n R D C g (4 * k) → tdM ν n R D C → ∃ τ : wd_Mem, X8_tightens_l69 K q (zI w) ν = K τ ∧ τ 34 = enG n R D C g ∧ frM ν τ := by
  intro m
  induction m with
  | zero =>
    intro k q w ν h1 h2 hw hg ht
    obtain ⟨q, rfl⟩ : ∃ a, q = a + 1 := ⟨q - 1, by omega⟩
    have o := sq_ok ho (4 * k)
    rw [← hg] at o
    have f1 : ∀ m, sqG n R D C g (644 + m) = enG n R D C g := fun m => sq_fx (fx_end ho) m
    have hw' : w = wsG n (enG n R D C g) := by
      rcases hw with hw | hw
      · omega
      · rw [hw.2, show 4 * (k - 1) = 644 + 4 by omega, f1]
    have hg' : ν 34 = enG n R D C g := by
      rw [hg, show 4 * k = 644 + 8 by omega, f1]
    refine ⟨ν, ?_, hg', fun a _ _ _ _ _ => rfl⟩
    show X8_tightens_c69 _ _ ν (zI w) = _
    unfold X8_tightens_c69
    rw [winsM o ht, hg', hw']
    simp only [Option.bind_some, if_true]
  | succ m ih =>
    intro k q w ν h1 h2 hw hg ht
    obtain ⟨q, rfl⟩ : ∃ a, q = a + 1 := ⟨q - 1, by omega⟩
    have o := sq_ok ho (4 * k)
    have ob := ws_bd o
    rw [← hg] at o ob
    have wb : -100 ≤ w ∧ w ≤ 100 := by
      rcases hw with hw | hw
      · omega
      · have := ws_bd (sq_ok ho (4 * (k - 1)))
        omega
    have e0 : X8_tightens_l69 K (q + 1) (zI w) ν = X8_tightens_c69 (X8_tightens_l69 K q) K ν (zI w) := rfl
    rw [e0]
    unfold X8_tightens_c69
    rw [winsM o ht]
    simp only [Option.bind_some]
    by_cases hq : wsG n (ν 34) = w
    · rw [hq, if_pos rfl]
      refine ⟨ν, rfl, ?_, fun a _ _ _ _ _ => rfl⟩
      rcases hw with hw | hw
      · omega
      · have d := (sq_dec ho (4 * (k - 1)) 4)
        rw [show 4 * (k - 1) + 4 = 4 * k by omega, ← hg] at d
        have d2 := d.2 (by rw [hq, hw.2])
        have f := fx_of d2
        have f4 := sq_fx f 4
        rw [show 4 * (k - 1) + 4 = 4 * k by omega, ← hg] at f4
        rw [f4]
        exact fx_is ho f
    · rw [if_neg (by rw [zI_eq (zR_small (by omega) (by omega)) (zR_small (by omega) (by omega))]; exact hq), broM o (datM_G ht)]
      simp only [Option.bind_some]
      cases hb : brG n D (ν 34) with
      | true =>
        have e : brk n (eG (ν 34)) (lG (ν 34)) D = true := hb
        rw [e, if_neg (by decide)]
        refine ⟨ν, rfl, ?_, fun a _ _ _ _ _ => rfl⟩
        rw [hg] at hb ⊢
        exact fx_is ho (fx_br hb)
      | false =>
        have e : brk n (eG (ν 34)) (lG (ν 34)) D = false := hb
        rw [e, if_pos (by decide)]
        obtain ⟨τ, a1, a2, a3⟩ := fourM (fun μ => X8_tightens_b114 (X8_tightens_l69 K q) K μ (zI (wsG n (ν 34)))) (zI (wsG n (ν 34))) ho k 4 0 wd_big ν (by omega) (by unfold wd_big; omega) hg ht
        have a1' : X8_tightens_l91 (fun μ => X8_tightens_b114 (X8_tightens_l69 K q) K μ (zI (wsG n (ν 34)))) (zI (wsG n (ν 34))) wd_big 0 ν = _ := a1
        rw [a1']
        obtain ⟨σ, b1, b2, b3⟩ := ih (k + 1) q (wsG n (ν 34)) τ (by omega) (by omega) (Or.inr ⟨by omega, by rw [hg]; rfl⟩) a2 (tdM_f a3 ht)
        exact ⟨σ, b1, b2, frM_trans a3 b3⟩
end
