/-! ===== the class: a rule both ways, all rules ===== -/
def clG (ν : wd_Mem) (n : Nat) (g : Nat → Int32) : Prop := ∀ j, j < n → ∀ t, t < 2 → ν 49 (5 * t + j) = g (5 * t + j) ∧ ν 50 (5 * t + j) = g (10 + (5 * t + j)) ∧ ν 51 (5 * t + j) = g (20 + (5 * t + j))
def tkX (ν : wd_Mem) (n : Nat) (R : Int) (D C : Nat → Int) : Prop := ν 3 1 = zI n ∧ ν 3 0 = zI R ∧ ∀ i, i < n → ν 4 i = zI (D i) ∧ ν 5 i = zI (C i)
def tdM (ν : wd_Mem) (n : Nat) (R : Int) (D C : Nat → Int) : Prop := ν 31 0 = zI n ∧ ν 31 1 = zI R ∧ ∀ i, i < n → ν 32 i = zI (D i) ∧ ν 33 i = zI (C i)
theorem tkX_congr {ν τ : wd_Mem} {n : Nat} {R : Int} {D C : Nat → Int} (e3 : τ 3 = ν 3) (e4 : τ 4 = ν 4) (e5 : τ 5 = ν 5) (h : tkX ν n R D C) : tkX τ n R D C := by
  unfold tkX
  rw [e3, e4, e5]
  exact h
theorem datX_G {ν : wd_Mem} {n : Nat} {R : Int} {D C : Nat → Int} {g : Nat → Int32} (h : tkX ν n R D C) (hc : clG ν n g) : datX ν n R (eG g) (lG g) D C := by
  refine ⟨h.1, h.2.1, fun i hi => ⟨?_, ?_, (h.2.2 i hi).1, (h.2.2 i hi).2⟩⟩
  · have := (hc i hi 0 (by omega)).1
    simp only [Nat.mul_zero, Nat.zero_add] at this
    rw [this]
    exact (zI_of _).symm
  · have := (hc i hi 1 (by omega)).1
    simp only [Nat.mul_one] at this
    rw [this]
    exact (zI_of _).symm
theorem datM_G {ν : wd_Mem} {n : Nat} {R : Int} {D C : Nat → Int} (h : tdM ν n R D C) : datM ν n R (eG (ν 34)) (lG (ν 34)) D C := ⟨h.1, h.2.1, fun i hi => ⟨(zI_of _).symm, (zI_of _).symm, (h.2.2 i hi).1, (h.2.2 i hi).2⟩⟩
theorem upA_at {o i k : Nat} {b : Nat → Bool} {f g g' : Nat → Int32} (h : g k = g' k) : upA o i b f g k = upA o i b f g' k := by
  unfold upA
  rw [h]
def frX (ν τ : wd_Mem) : Prop := ∀ a, ¬ (10 ≤ a ∧ a ≤ 20) → a ≠ 49 → a ≠ 50 → a ≠ 51 → τ a = ν a
theorem frX_trans {a b c : wd_Mem} (h : frX a b) (k : frX b c) : frX a c := fun x h1 h2 h3 h4 => by rw [k x h1 h2 h3 h4, h x h1 h2 h3 h4]
section
variable {n : Nat} {R : Int} {D C : Nat → Int}
theorem sideX {ν : wd_Mem} {r s : Nat} {g : Nat → Int32} (ho : okG n R D C g) (hb : brG n D g = false) (ht : tkX ν n R D C) (hc : clG ν n g) (hS : rSight ν) (hr : r < 4) (hs : s < 2) : ∃ τ : wd_Mem, X1_tightenSide 48 ν (zI (r : Nat)) (zI (s : Nat)) = some (bI (mvG n R D C r s g), τ) ∧ clG τ n (sdG n R D C r s g) ∧ rSight τ ∧ frX ν τ := by
  obtain ⟨ν', l1, l2, l3⟩ := lookX ho (datX_G ht hc) hS hs
  have hg : sgx ν' n R (sE s (eG g) (lG g)) (sL s (eG g) (lG g)) D C := ⟨by rw [l3 3 (by omega)]; exact ht.1, by rw [l3 3 (by omega)]; exact ht.2.1, fun i hi => by rw [l3 4 (by omega), l3 5 (by omega)]; exact ht.2.2 i hi, l2⟩
  obtain ⟨τ, p1, p2, p3, p4, p5⟩ := passX1 (r := r) (bnd_s (s := s) ho) (ok_s (s := s) (brG_f hb)) hg hr hs
  have hn := ho.1
  refine ⟨τ, ?_, fun j hj t ht' => ?_, ?_, fun a h1 h2 h3 h4 => ?_⟩
  · unfold X1_tightenSide X1_tightenSide_b0
    rw [l1]
    exact p1
  · obtain ⟨c1, c2, c3⟩ := hc j hj t ht'
    rw [p2, p3, p4, l3 49 (by omega), l3 50 (by omega), l3 51 (by omega)]
    unfold sdG psF
    rw [up3_lo (by omega), up3_mid hs hn (by omega), up3_hi hs hn (by omega)]
    exact ⟨upA_at c1, upA_at c2, upA_at c3⟩
  · exact rSight_congr (p5 14 (by decide) (by decide) (by decide) (by decide) (by decide)) (p5 15 (by decide) (by decide) (by decide) (by decide) (by decide)) (p5 16 (by decide) (by decide) (by decide) (by decide) (by decide)) (p5 17 (by decide) (by decide) (by decide) (by decide) (by decide)) (sgt_sight l2)
  · rw [p5 a (by omega) (by omega) h2 h3 h4, l3 a (by omega)]
theorem tkX_f {ν τ : wd_Mem} (f : frX ν τ) (h : tkX ν n R D C) : tkX τ n R D C := tkX_congr (f 3 (by omega) (by decide) (by decide) (by decide)) (f 4 (by omega) (by decide) (by decide) (by decide)) (f 5 (by omega) (by decide) (by decide) (by decide)) h
theorem ruleX {ν : wd_Mem} {r : Nat} {g : Nat → Int32} (ho : okG n R D C g) (hb : brG n D g = false) (ht : tkX ν n R D C) (hc : clG ν n g) (hS : rSight ν) (hr : r < 4) : ∃ τ : wd_Mem, X1_tighten 48 ν (zI (r : Nat)) = some (bI (rmG n R D C r g), τ) ∧ clG τ n (ruG n R D C r g) ∧ rSight τ ∧ frX ν τ := by
  obtain ⟨τ1, a1, a2, a3, a4⟩ := sideX ho hb ht hc hS hr (show 0 < 2 by omega)
  have o1 := (sd_ok (r := r) ho hb (show 0 < 2 by omega)).1
  have t1 := tkX_f a4 ht
  have hbr := broX o1 (datX_G t1 a2)
  have hk : X1_tighten 48 ν (zI (r : Nat)) = (if brG n D (sdG n R D C r 0 g) = true then some (bI (mvG n R D C r 0 g), τ1) else (X1_tightenSide 48 τ1 (zI (r : Nat)) (zI ((1 : Nat) : Int))).bind (fun r4 => (if bI (mvG n R D C r 0 g) = 0 then (if r4.1 = 0 then some ((0 : Int32), r4.2) else some ((1 : Int32), r4.2)) else some ((1 : Int32), r4.2)))) := by
    unfold X1_tighten X1_tighten_b0
    have a1' : X1_tightenSide 48 ν (zI (r : Nat)) 0 = _ := a1
    rw [a1']
    simp only [Option.bind_some]
    rw [hbr]
    simp only [Option.bind_some]
    unfold brG
    cases hq : brk n (eG (sdG n R D C r 0 g)) (lG (sdG n R D C r 0 g)) D with
    | true => rw [if_neg (by decide), if_pos rfl, wd_chk_t (bI_bit _)]
    | false => rw [if_pos (by decide), if_neg (by decide)]; rfl
  rw [hk]
  unfold ruG rmG
  cases hb1 : brG n D (sdG n R D C r 0 g) with
  | true =>
    rw [if_pos rfl, if_pos rfl, if_pos rfl]
    exact ⟨τ1, rfl, a2, a3, a4⟩
  | false =>
    obtain ⟨τ2, c1, c2, c3, c4⟩ := sideX o1 hb1 t1 a2 a3 hr (show 1 < 2 by omega)
    rw [c1]
    refine ⟨τ2, ?_, c2, c3, frX_trans a4 c4⟩
    simp only [Option.bind_some]
    cases mvG n R D C r 0 g <;> cases mvG n R D C r 1 (sdG n R D C r 0 g) <;> rfl
theorem zI_rem4 {a : Int} (h0 : 0 ≤ a) (h1 : a < 1000000) : zI a - zI a / zI 4 * zI 4 = zI (a % 4) := by
  rw [zI_div h0 (by omega) (by omega) (by omega), zI_mul, zI_sub]
  congr 1
  omega
theorem allXl {g : Nat → Int32} (ho : okG n R D C g) : ∀ (m t d q : Nat) (ν : wd_Mem), t + m = 10000 → m < q → d ≤ 4 → d ≤ t → (∀ j, j ≤ d → sqG n R D C g (t - j) = sqG n R D C g t) → tkX ν n R D C → clG ν n (sqG n R D C g t) → rSight ν → ∃ τ : wd_Mem, X1_tightenByAll_l4 (fun μ => X1_tightenByAll_b53 48 μ) 48 q (zI (d : Nat)) (zI (t : Nat)) ν = some τ ∧ clG τ n (enG n R D C g) ∧ rSight τ ∧ frX ν τ := by
  intro m
  induction m with
  | zero =>
    intro t d q ν h1 h2 h3 h4 h5 ht hc hS
    obtain ⟨q, rfl⟩ : ∃ a, q = a + 1 := ⟨q - 1, by omega⟩
    refine ⟨ν, ?_, ?_, hS, fun a _ _ _ _ => rfl⟩
    · show X1_tightenByAll_c4 _ _ 48 ν (zI d) (zI t) = _
      unfold X1_tightenByAll_c4
      rw [show (10000 : Int32) = zI 10000 from zI_lit 10000, if_pos (by rw [zI_le (zR_small (by omega) (by omega)) (zR_small (by omega) (by omega))]; omega)]
      rfl
    · have : sqG n R D C g t = enG n R D C g := by
        rw [show t = 644 + 9356 by omega]
        exact sq_fx (fx_end ho) 9356
      rw [← this]
      exact hc
  | succ m ih =>
    intro t d q ν h1 h2 h3 h4 h5 ht hc hS
    obtain ⟨q, rfl⟩ : ∃ a, q = a + 1 := ⟨q - 1, by omega⟩
    have o := sq_ok ho t
    have hx := datX_G ht hc
    have z4 : (4 : Int32) = zI 4 := zI_lit 4
    have e0 : X1_tightenByAll_l4 (fun μ => X1_tightenByAll_b53 48 μ) 48 (q + 1) (zI (d : Nat)) (zI (t : Nat)) ν = X1_tightenByAll_c4 (X1_tightenByAll_l4 (fun μ => X1_tightenByAll_b53 48 μ) 48 q) (fun μ => X1_tightenByAll_b53 48 μ) 48 ν (zI d) (zI t) := rfl
    rw [e0]
    unfold X1_tightenByAll_c4
    rw [show (10000 : Int32) = zI 10000 from zI_lit 10000, if_neg (by rw [zI_le (zR_small (by omega) (by omega)) (zR_small (by omega) (by omega))]; omega)]
    by_cases hd : d = 4
    · rw [if_pos (by rw [hd]; rfl)]
      refine ⟨ν, rfl, ?_, hS, fun a _ _ _ _ => rfl⟩
      have hf : fxG n R D C g (t - 4) := fx_of (fun j hj => by
        have k1 := h5 (4 - j) (by omega)
        have k2 := h5 4 (by omega)
        rw [show t - 4 + j = t - (4 - j) by omega, k1, k2])
      have k2 := h5 4 (by omega)
      rw [← fx_is ho hf, k2]
      exact hc
    · rw [if_neg (by rw [z4, zI_eq (zR_small (by omega) (by omega)) (zR_small (by omega) (by omega))]; omega), broX o hx]
      simp only [Option.bind_some]
      cases hb : brG n D (sqG n R D C g t) with
      | true =>
        have e : brk n (eG (sqG n R D C g t)) (lG (sqG n R D C g t)) D = true := hb
        rw [e, if_neg (by decide)]
        refine ⟨ν, rfl, ?_, hS, fun a _ _ _ _ => rfl⟩
        rw [← fx_is ho (fx_br hb)]
        exact hc
      | false =>
        have e : brk n (eG (sqG n R D C g t)) (lG (sqG n R D C g t)) D = false := hb
        obtain ⟨τ, a1, a2, a3, a4⟩ := ruleX (r := t % 4) o hb ht hc hS (Nat.mod_lt _ (by omega))
        have e2 : sqG n R D C g (t + 1) = ruG n R D C (t % 4) (sqG n R D C g t) := by
          show stG n R D C (t % 4) (sqG n R D C g t) = _
          unfold stG
          rw [if_neg (by rw [hb]; decide)]
        rw [e, if_pos (by decide), z4, wd_chk_nz (zR_small (by omega) (by omega)) (by omega), zI_rem4 (by omega) (by omega), show ((t : Int) % 4) = ((t % 4 : Nat) : Int) by omega, a1]
        simp only [Option.bind_some]
        unfold X1_tightenByAll_b46
        have e1 : zI (t : Int) + (1 : Int32) = zI ((t + 1 : Nat) : Int) := by rw [z_1, zI_add]; rfl
        have e3 : zI (d : Int) + (1 : Int32) = zI ((d + 1 : Nat) : Int) := by rw [z_1, zI_add]; rfl
        rcases (ru_ok (r := t % 4) o hb).2 with ⟨m1, m2⟩ | ⟨m1, m2⟩
        · rw [m1, if_pos (by decide), e1, e3]
          obtain ⟨σ, b1, b2, b3, b4⟩ := ih (t + 1) (d + 1) q τ (by omega) (by omega) (by omega) (by omega) (fun j hj => by
            rw [e2, m2]
            by_cases hj0 : j = 0
            · rw [hj0, Nat.sub_zero, e2, m2]
            · rw [show t + 1 - j = t - (j - 1) by omega]
              exact h5 (j - 1) (by omega)) (tkX_f a4 ht) (by rw [e2]; exact a2) a3
          exact ⟨σ, b1, b2, b3, frX_trans a4 b4⟩
        · rw [m1, if_neg (by decide), e1, show (0 : Int32) = zI ((0 : Nat) : Int) from z_0]
          obtain ⟨σ, b1, b2, b3, b4⟩ := ih (t + 1) 0 q τ (by omega) (by omega) (by omega) (by omega) (fun j hj => by rw [show j = 0 by omega, Nat.sub_zero]) (tkX_f a4 ht) (by rw [e2]; exact a2) a3
          exact ⟨σ, b1, b2, b3, frX_trans a4 b4⟩
theorem allX {g : Nat → Int32} {ν : wd_Mem} (ho : okG n R D C g) (ht : tkX ν n R D C) (hc : clG ν n g) (hS : rSight ν) : ∃ τ : wd_Mem, X1_tightenByAll 48 ν = some τ ∧ clG τ n (enG n R D C g) ∧ rSight τ ∧ frX ν τ := by
  obtain ⟨τ, h⟩ := allXl ho 10000 0 0 wd_big ν (by omega) (by unfold wd_big; omega) (by omega) (by omega) (fun j hj => by rw [show j = 0 by omega]) ht hc hS
  exact ⟨τ, by unfold X1_tightenByAll X1_tightenByAll_b0; rw [z_0]; exact h.1, h.2⟩
end
