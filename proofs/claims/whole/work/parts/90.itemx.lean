/-! ===== an item of the class; what items leave ===== -/
section
variable {T : Nat → Nat} {len : Nat}
theorem outX_1 {ν τ : wd_Mem} {rec : Int32 → wd_Mem → Option (Int32 × wd_Mem)} {x3 : Int32} {L : Option (Int32 × wd_Mem)} {o : Option pSt × Nat} (f : fr1 ν τ) (h : outX τ rec x3 L o) : outX ν rec x3 L o := by
  obtain ⟨σ, h1, h2⟩ := h
  exact ⟨σ, frD_trans (frD_1 f) h1, h2⟩
theorem itemX {ν : wd_Mem} {p m r k : Nat} {e l d c : Nat → Nat} {rec : Int32 → wd_Mem → Option (Int32 × wd_Mem)} {K : wd_Mem → Option (Int32 × wd_Mem)} (hp : p ≤ len) (ht : txX ν T len) (hpl : ν 1 2 = zI (p : Nat)) (hk : k ≤ 100) (hm : m ≤ 5) (hr : 1 ≤ r ∧ r ≤ 20) (hlt : tkP T len p < len) (ho : toldX ν m r e l d c) : outX ν rec (zI (k : Nat)) (X5_read_c11 rec K 6 52 ν (zI (k : Nat))) (itm T len (decide (k = 0)) m r e l d c p) := by
  obtain ⟨τ, a1, a2, a3, a4, a5, a6⟩ := nextX hp ht hpl
  have bd := tk_bd (T := T) hp
  have rg := tkK_rng (p := p) (fun j hj => (ht.2.2 j hj).2)
  have t1 := txX_f a6 ht
  have o1 := toldX_1 a6 ho
  have hl := ht.1
  have hk0 : zI (k : Nat) = 0 ↔ k = 0 := by
    rw [z_0, zI_eq (zR_small (by omega) (by omega)) (zR_small (by omega) (by omega))]
    omega
  unfold X5_read_c11 itm
  rw [z_100, zl_lt (zR_small (by omega) (by omega)) (zR_small (by omega) (by omega)), if_neg (by omega), a1]
  simp only [Option.bind_some]
  rw [a3, t1.2.1, zl_lt (zR_small (by omega) (by omega)) (zR_small (by omega) (by omega)), if_pos (by omega), a4, z_99, zl_eq (zR_small (by omega) (by omega)) (zR_small (by omega) (by omega))]
  by_cases q1 : tkK T len p = 99
  · rw [if_pos q1, if_pos q1]
    by_cases q2 : k = 0
    · rw [if_pos (hk0.mpr q2), if_pos (decide_eq_true q2)]
      exact outX_1 a6 (roomX' (p := tkN T len p) (by omega) t1 a2 o1)
    · rw [if_neg (fun w => q2 (hk0.mp w)), if_neg (by rw [decide_eq_false q2]; decide)]
      exact ⟨τ, frD_1 a6, Or.inl ⟨_, rfl, faultX a3⟩⟩
  · rw [if_neg q1, if_neg q1]
    by_cases q2 : tkK T len p = 116
    · have h116 : τ 1 3 = 116 := by rw [a4, q2]; rfl
      rw [if_pos q2]
      by_cases q3 : 5 ≤ m
      · have hx : X5_readTask 6 52 τ = some (0, τ) := by
          unfold X5_readTask X5_readTask_b0 X5_readTask_b27
          rw [if_pos h116, o1.1, if_pos (by rw [z_5, zI_le (zR_small (by omega) (by omega)) (zR_small (by omega) (by omega))]; omega)]
        rw [hx, if_pos q3]
        simp only [Option.bind_some]
        exact ⟨τ, frD_1 a6, Or.inl ⟨_, rfl, faultX a3⟩⟩
      · rw [if_neg q3]
        exact outX_1 a6 (taskX' (p := tkN T len p) (by omega) t1 a2 h116 (by omega) hr o1)
    · have hx : X5_readTask 6 52 τ = some (0, τ) := by
        unfold X5_readTask X5_readTask_b0 X5_readTask_b27
        rw [if_neg (by rw [a4, z_116, zI_eq (zR_small (by omega) (by omega)) (zR_small (by omega) (by omega))]; exact q2)]
      rw [hx, if_neg q2]
      simp only [Option.bind_some]
      exact ⟨τ, frD_1 a6, Or.inl ⟨_, rfl, faultX a3⟩⟩
theorem endRX {ν : wd_Mem} {p k : Nat} {rec : Int32 → wd_Mem → Option (Int32 × wd_Mem)} {K : wd_Mem → Option (Int32 × wd_Mem)} (hp : p ≤ len) (ht : txX ν T len) (hpl : ν 1 2 = zI (p : Nat)) (hk : k ≤ 100) (hge : len ≤ tkP T len p) : ∃ τ : wd_Mem, X5_read_c11 rec K 6 52 ν (zI (k : Nat)) = some (zI (k : Nat), τ) ∧ fr1 ν τ := by
  obtain ⟨τ, a1, a2, a3, a4, a5, a6⟩ := nextX hp ht hpl
  have bd := tk_bd (T := T) hp
  have t1 := txX_f a6 ht
  have hl := ht.1
  refine ⟨τ, ?_, a6⟩
  unfold X5_read_c11
  rw [z_100, zl_lt (zR_small (by omega) (by omega)) (zR_small (by omega) (by omega)), if_neg (by omega), a1]
  simp only [Option.bind_some]
  rw [a3, t1.2.1, zl_lt (zR_small (by omega) (by omega)) (zR_small (by omega) (by omega)), if_neg (by omega)]
theorem sk_stop : ∀ (f p : Nat), len - p ≤ f → p ≤ len → ¬ (skF T len f p < len ∧ T (skF T len f p) = 32)
  | 0, p, h, hp => by
    simp only [skF]
    omega
  | f + 1, p, h, hp => by
    simp only [skF]
    split
    · exact sk_stop f (p + 1) (by omega) (by omega)
    · rename_i q
      exact q
theorem sk_same {p : Nat} (h : ¬ (p < len ∧ T p = 32)) : ∀ f, skF T len f p = p
  | 0 => rfl
  | f + 1 => by
    simp only [skF]
    rw [if_neg h]
theorem tk_idem {p : Nat} (hp : p ≤ len) : tkP T len (tkP T len p) = tkP T len p := sk_same (sk_stop (len - p) p (Nat.le_refl _) hp) _
theorem itm_tk {p m r : Nat} {e l d c : Nat → Nat} {b : Bool} (hp : p ≤ len) : itm T len b m r e l d c (tkP T len p) = itm T len b m r e l d c p := by
  have i0 := tk_idem (T := T) hp
  have iE : tkE T len (tkP T len p) = tkE T len p := by
    unfold tkE
    rw [i0]
  have iN : tkN T len (tkP T len p) = tkN T len p := by
    unfold tkN
    rw [i0, iE]
  have iK : tkK T len (tkP T len p) = tkK T len p := by
    unfold tkK
    rw [i0, iE]
  unfold itm
  rw [iK, iN, i0]
def goodO (len p : Nat) (o : Option pSt × Nat) : Prop := o.2 ≤ len ∧ ∀ st : pSt, o.1 = some st → p < o.2 ∧ okSt st.1 st.2.1 st.2.2.1 st.2.2.2.1 st.2.2.2.2.1 st.2.2.2.2.2
theorem good_no {len p f : Nat} (h : f ≤ len) : goodO len p (none, f) := ⟨h, fun _ w => by cases w⟩
theorem good_yes {len p q : Nat} {m r : Nat} {e l d c : Nat → Nat} (h : q ≤ len) (h2 : p < q) (ok : okSt m r e l d c) : goodO len p (some (m, r, e, l, d, c), q) := ⟨h, fun st w => by
  cases w
  exact ⟨h2, ok⟩⟩
theorem roomI_ok {p p0 r : Nat} {e l d c : Nat → Nat} (hp : p ≤ len) (h0 : p0 < p) : goodO len p0 (roomI T len 0 e l d c p) := by
  have b1 := tk_bd (T := T) hp
  have b2 := tk_bd (T := T) (show tkN T len p ≤ len by omega)
  unfold roomI
  by_cases q1 : rnB T len 1 20 p = true
  · rw [if_pos q1]
    have := rn_bd q1
    by_cases q2 : tkK T len (tkN T len p) = 59
    · rw [if_pos q2]
      exact good_yes (by omega) (by omega) ⟨by omega, by omega, by omega, fun i hi => by omega⟩
    · rw [if_neg q2]
      exact good_no (by omega)
  · rw [if_neg q1]
    exact good_no (by omega)
theorem taskI_ok {p p0 m r : Nat} {e l d c : Nat → Nat} (hp : p ≤ len) (h0 : p0 < p) (hm : m < 5) (ok : okSt m r e l d c) : goodO len p0 (taskI T len m r e l d c p (tkN T len p) (tkN T len (tkN T len p)) (tkN T len (tkN T len (tkN T len p))) (tkN T len (tkN T len (tkN T len (tkN T len p))))) := by
  have b1 := tk_bd (T := T) hp
  obtain ⟨p2, hp2⟩ : ∃ q, q = tkN T len p := ⟨_, rfl⟩
  rw [← hp2] at b1 ⊢
  have b2 := tk_bd (T := T) (show p2 ≤ len by omega)
  obtain ⟨p3, hp3⟩ : ∃ q, q = tkN T len p2 := ⟨_, rfl⟩
  rw [← hp3] at b2 ⊢
  have b3 := tk_bd (T := T) (show p3 ≤ len by omega)
  obtain ⟨p4, hp4⟩ : ∃ q, q = tkN T len p3 := ⟨_, rfl⟩
  rw [← hp4] at b3 ⊢
  have b4 := tk_bd (T := T) (show p4 ≤ len by omega)
  obtain ⟨p5, hp5⟩ : ∃ q, q = tkN T len p4 := ⟨_, rfl⟩
  rw [← hp5] at b4 ⊢
  have b5 := tk_bd (T := T) (show p5 ≤ len by omega)
  unfold taskI
  by_cases q1 : rnB T len 0 15 p = true
  · rw [if_pos q1]
    have r1 := rn_bd q1
    by_cases q2 : rnB T len (tkV T len p + 1) 16 p2 = true
    · rw [if_pos q2]
      have r2 := rn_bd q2
      by_cases q3 : rnB T len 1 (min 9 (tkV T len p2 - tkV T len p)) p3 = true
      · rw [if_pos q3]
        have r3 := rn_bd q3
        by_cases q4 : rnB T len 1 (min 9 r) p4 = true
        · rw [if_pos q4]
          have r4 := rn_bd q4
          by_cases q5 : tkK T len p5 = 59
          · rw [if_pos q5]
            obtain ⟨k1, k2, k3, k4⟩ := ok
            refine good_yes (by omega) (by omega) ⟨by omega, k2, k3, fun i hi => ?_⟩
            by_cases z : i = m
            · subst z
              rw [bset_eq, bset_eq, bset_eq, bset_eq]
              omega
            · rw [bset_ne z, bset_ne z, bset_ne z, bset_ne z]
              exact k4 i (by omega)
          · rw [if_neg q5]
            exact good_no (by omega)
        · rw [if_neg q4]
          exact good_no (by omega)
      · rw [if_neg q3]
        exact good_no (by omega)
    · rw [if_neg q2]
      exact good_no (by omega)
  · rw [if_neg q1]
    exact good_no (by omega)
theorem itm_ok {p m r : Nat} {e l d c : Nat → Nat} {b : Bool} (hp : p ≤ len) (hlt : tkP T len p < len) (hb : b = true → m = 0) (ok : okSt m r e l d c) : goodO len p (itm T len b m r e l d c p) := by
  have b1 := tk_bd (T := T) hp
  unfold itm
  by_cases q1 : tkK T len p = 99
  · rw [if_pos q1]
    by_cases q2 : b = true
    · rw [if_pos q2, hb q2]
      exact roomI_ok (r := r) (by omega) (by omega)
    · rw [if_neg q2]
      exact good_no (by omega)
  · rw [if_neg q1]
    by_cases q2 : tkK T len p = 116
    · rw [if_pos q2]
      by_cases q3 : 5 ≤ m
      · rw [if_pos q3]
        exact good_no (by omega)
      · rw [if_neg q3]
        exact taskI_ok (by omega) (by omega) (by omega) ok
    · rw [if_neg q2]
      exact good_no (by omega)
def rdF (T : Nat → Nat) (len : Nat) : Nat → Nat → pSt → Nat → Option (Nat × pSt) × Nat
  | 0, _, _, p => (none, p)
  | f + 1, k, st, p => if len ≤ tkP T len p then (some (k, st), p) else
    match itm T len (decide (k = 0)) st.1 st.2.1 st.2.2.1 st.2.2.2.1 st.2.2.2.2.1 st.2.2.2.2.2 p with
    | (none, q) => (none, q)
    | (some st', q) => rdF T len f (k + 1) st' q
theorem rdX (K : wd_Mem → Option (Int32 × wd_Mem)) : ∀ (f k p m r q : Nat) (e l d c : Nat → Nat) (ν : wd_Mem), len - p < f → f ≤ q → k ≤ p → p ≤ len → txX ν T len → ν 1 2 = zI (p : Nat) → toldX ν m r e l d c → okSt m r e l d c → (k = 0 → m = 0) → ∃ τ : wd_Mem, frD ν τ ∧ ((∃ x : Nat, rdF T len f k (m, r, e, l, d, c) p = (none, x) ∧ x ≤ len ∧ X5_read_l11 K 6 52 q (zI (k : Nat)) ν = some (zI (-10 - (x : Int)), τ)) ∨ ∃ (k' m' r' x : Nat) (e' l' d' c' : Nat → Nat), rdF T len f k (m, r, e, l, d, c) p = (some (k', m', r', e', l', d', c'), x) ∧ k' ≤ 100 ∧ X5_read_l11 K 6 52 q (zI (k : Nat)) ν = some (zI (k' : Nat), τ) ∧ toldX τ m' r' e' l' d' c' ∧ okSt m' r' e' l' d' c') := by
  intro f
  induction f with
  | zero =>
    intro k p m r q e l d c ν h1
    omega
  | succ f ih =>
    intro k p m r q e l d c ν h1 h2 h3 hp ht hpl ho ok hk
    obtain ⟨q, rfl⟩ : ∃ a, q = a + 1 := ⟨q - 1, by omega⟩
    have hl := ht.1
    have hL : X5_read_l11 K 6 52 (q + 1) (zI (k : Nat)) ν = X5_read_c11 (X5_read_l11 K 6 52 q) K 6 52 ν (zI (k : Nat)) := rfl
    simp only [rdF]
    rw [hL]
    by_cases hge : len ≤ tkP T len p
    · obtain ⟨τ, a1, a2⟩ := endRX (rec := X5_read_l11 K 6 52 q) (K := K) (k := k) hp ht hpl (by omega) hge
      refine ⟨τ, frD_1 a2, Or.inr ⟨k, m, r, p, e, l, d, c, ?_, by omega, a1, toldX_1 a2 ho, ok⟩⟩
      rw [if_pos hge]
    · have gd := itm_ok (b := decide (k = 0)) hp (show tkP T len p < len by omega) (fun w => hk (of_decide_eq_true w)) ok
      obtain ⟨τ, fD, hh⟩ := itemX (rec := X5_read_l11 K 6 52 q) (K := K) (k := k) hp ht hpl (by omega) ok.1 ⟨ok.2.1, ok.2.2.1⟩ (by omega) ho
      rw [if_neg hge]
      rcases hh with ⟨x, e1, e2⟩ | ⟨m', r', e', l', d', c', p', e1, e2, e3, e4⟩
      · rw [e1] at gd ⊢
        exact ⟨τ, fD, Or.inl ⟨x, rfl, gd.1, e2⟩⟩
      · rw [e1] at gd ⊢
        obtain ⟨g1, g2⟩ := gd
        obtain ⟨g2, g3⟩ := g2 _ rfl
        simp only at g1 g2 g3
        have e5 : zI (k : Int) + (1 : Int32) = zI ((k + 1 : Nat) : Int) := by rw [z_1, zI_add]; rfl
        rw [e5] at e2
        obtain ⟨σ, s1, s2⟩ := ih (k + 1) p' m' r' q e' l' d' c' τ (by omega) (by omega) (by omega) g1 (txX_D fD ht) e4 e3 g3 (fun w => by omega)
        rw [e2]
        exact ⟨σ, frD_trans fD s1, s2⟩
end
