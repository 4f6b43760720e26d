/-! ===== the windows as one row; all rules in turn until nothing moves ===== -/
def eG (g : Nat → Int32) (i : Nat) : Int := (g i).toInt
def lG (g : Nat → Int32) (i : Nat) : Int := (g (5 + i)).toInt
def sdG (n : Nat) (R : Int) (D C : Nat → Int) (r s : Nat) (g : Nat → Int32) : Nat → Int32 := psF n R D C r s (eG g) (lG g) g
def mvG (n : Nat) (R : Int) (D C : Nat → Int) (r s : Nat) (g : Nat → Int32) : Bool := orF (tbF r n R (sE s (eG g) (lG g)) (sL s (eG g) (lG g)) D C) n
def brG (n : Nat) (D : Nat → Int) (g : Nat → Int32) : Bool := brk n (eG g) (lG g) D
def ruG (n : Nat) (R : Int) (D C : Nat → Int) (r : Nat) (g : Nat → Int32) : Nat → Int32 := if brG n D (sdG n R D C r 0 g) = true then sdG n R D C r 0 g else sdG n R D C r 1 (sdG n R D C r 0 g)
def stG (n : Nat) (R : Int) (D C : Nat → Int) (r : Nat) (g : Nat → Int32) : Nat → Int32 := if brG n D g = true then g else ruG n R D C r g
def wsG (n : Nat) (g : Nat → Int32) : Int := sumF (fun i => lG g i - eG g i) n
def okG (n : Nat) (R : Int) (D C : Nat → Int) (g : Nat → Int32) : Prop := bnd n R (eG g) (lG g) D C
theorem brG_f {n : Nat} {D : Nat → Int} {g : Nat → Int32} (h : brG n D g = false) : ∀ i, i < n → eG g i + D i ≤ lG g i := by
  intro i hi
  unfold brG brk at h
  have : ¬ anyF (fun i => decide (lG g i < eG g i + D i)) 0 n = true := by rw [h]; decide
  rw [anyF_iff] at this
  by_cases q : eG g i + D i ≤ lG g i
  · exact q
  · exact absurd ⟨i, by omega, by omega, by simp only [decide_eq_true_eq]; omega⟩ this
theorem sumF_cmp {f g : Nat → Int} {b : Nat → Bool} : ∀ k, (∀ i, i < k → f i ≤ g i ∧ (b i = true → f i < g i)) → sumF f k ≤ sumF g k ∧ (orF b k = true → sumF f k < sumF g k)
  | 0, _ => ⟨Int.le_refl _, fun h => by cases h⟩
  | k + 1, h => by
    obtain ⟨i1, i2⟩ := sumF_cmp (f := f) (g := g) (b := b) k (fun i hi => h i (by omega))
    obtain ⟨j1, j2⟩ := h k (by omega)
    simp only [sumF, orF, Bool.or_eq_true]
    refine ⟨by omega, fun q => ?_⟩
    rcases q with q | q
    · have := i2 q; omega
    · have := j2 q; omega
theorem up3_lo {s n r k : Nat} {b : Nat → Bool} {fv fc g : Nat → Int32} (hk : k < 10) : up3 s n r b fv fc g k = upA (5 * s) n b fv g k := by
  unfold up3
  show (if _ then _ else (if _ then _ else _)) = _
  rw [if_neg (by omega), if_neg (by omega)]
theorem up3_mid {s n r k : Nat} {b : Nat → Bool} {fv fc g : Nat → Int32} (hs : s < 2) (hn : n ≤ 5) (hk : k < 10) : up3 s n r b fv fc g (10 + k) = upA (5 * s) n b (fun _ => zI (r : Nat)) (fun k => g (10 + k)) k := by
  unfold up3
  show (if _ then _ else (if 10 + 5 * s ≤ 10 + k ∧ 10 + k < 10 + 5 * s + n ∧ b (10 + k - (10 + 5 * s)) = true then _ else (if _ then _ else _))) = (if 5 * s ≤ k ∧ k < 5 * s + n ∧ b (k - 5 * s) = true then _ else _)
  rw [if_neg (by omega), show 10 + k - (10 + 5 * s) = k - 5 * s by omega]
  by_cases q : 5 * s ≤ k ∧ k < 5 * s + n ∧ b (k - 5 * s) = true
  · rw [if_pos ⟨by omega, by omega, q.2.2⟩, if_pos q]
  · rw [if_neg (fun w => q ⟨by omega, by omega, w.2.2⟩), if_neg (by omega), if_neg q]
theorem up3_hi {s n r k : Nat} {b : Nat → Bool} {fv fc g : Nat → Int32} (hs : s < 2) (hn : n ≤ 5) (hk : k < 10) : up3 s n r b fv fc g (20 + k) = upA (5 * s) n b fc (fun k => g (20 + k)) k := by
  unfold up3
  show (if 20 + 5 * s ≤ 20 + k ∧ 20 + k < 20 + 5 * s + n ∧ b (20 + k - (20 + 5 * s)) = true then fc (20 + k - (20 + 5 * s)) else (if _ then _ else (if _ then _ else _))) = (if 5 * s ≤ k ∧ k < 5 * s + n ∧ b (k - 5 * s) = true then _ else _)
  rw [show 20 + k - (20 + 5 * s) = k - 5 * s by omega]
  by_cases q : 5 * s ≤ k ∧ k < 5 * s + n ∧ b (k - 5 * s) = true
  · rw [if_pos ⟨by omega, by omega, q.2.2⟩, if_pos q]
  · rw [if_neg (fun w => q ⟨by omega, by omega, w.2.2⟩), if_neg (by omega), if_neg (by omega), if_neg q]
theorem up3_none {s n r : Nat} {b : Nat → Bool} {fv fc g : Nat → Int32} (h : orF b n = false) : up3 s n r b fv fc g = g := by
  have hb := orF_f n h
  have key : ∀ (o : Nat) (f g : Nat → Int32), upA o n b f g = g := by
    intro o f g
    funext k
    unfold upA
    rw [if_neg]
    rintro ⟨h1, h2, h3⟩
    rw [hb (k - o) (by omega)] at h3
    cases h3
  unfold up3
  rw [key, key, key]
theorem sd_val {n : Nat} {R : Int} {D C : Nat → Int} {r s : Nat} {g : Nat → Int32} (ho : okG n R D C g) (hb : brG n D g = false) (hs : s < 2) (i : Nat) (hi : i < n) : (0 ≤ eG (sdG n R D C r s g) i ∧ eG (sdG n R D C r s g) i ≤ 16 ∧ 0 ≤ lG (sdG n R D C r s g) i ∧ lG (sdG n R D C r s g) i ≤ 16) ∧ lG (sdG n R D C r s g) i - eG (sdG n R D C r s g) i ≤ lG g i - eG g i ∧ (tbF r n R (sE s (eG g) (lG g)) (sL s (eG g) (lG g)) D C i = true → lG (sdG n R D C r s g) i - eG (sdG n R D C r s g) i < lG g i - eG g i) := by
  have hn := ho.1
  have y := ho.2.2.2 i hi
  have ht := tn_bd (r := r) (bnd_s (s := s) ho) hi (ok_s (s := s) (brG_f hb) i hi)
  have e1 : ∀ k, k < 10 → sdG n R D C r s g k = upA (5 * s) n (tbF r n R (sE s (eG g) (lG g)) (sL s (eG g) (lG g)) D C) (fvF s r n R (sE s (eG g) (lG g)) (sL s (eG g) (lG g)) D C) g k := fun k hk => up3_lo hk
  obtain ⟨T, hT⟩ : ∃ T, tnF r n R (sE s (eG g) (lG g)) (sL s (eG g) (lG g)) D C i = T := ⟨_, rfl⟩
  have hv : fvF s r n R (sE s (eG g) (lG g)) (sL s (eG g) (lG g)) D C i = zI (vvF s T) := by unfold fvF; rw [hT]
  rw [hT] at ht
  have htb : tbF r n R (sE s (eG g) (lG g)) (sL s (eG g) (lG g)) D C i = decide (sE s (eG g) (lG g) i < T) := by unfold tbF; rw [hT]
  have q1 : eG (sdG n R D C r s g) i = if s = 0 ∧ sE s (eG g) (lG g) i < T then vvF s T else eG g i := by
    show (sdG n R D C r s g i).toInt = _
    rw [e1 i (by omega)]
    unfold upA
    by_cases c : s = 0 ∧ sE s (eG g) (lG g) i < T
    · rw [if_pos c, if_pos ⟨by omega, by omega, by rw [show i - 5 * s = i by omega, htb]; exact decide_eq_true c.2⟩, show i - 5 * s = i by omega, hv, zI_toInt]
      · unfold vvF; rw [if_pos c.1]; unfold sE sL at ht; rw [if_pos c.1, if_pos c.1] at ht; omega
      · unfold vvF; rw [if_pos c.1]; unfold sE sL at ht; rw [if_pos c.1, if_pos c.1] at ht; omega
    · rw [if_neg c, if_neg]
      · rfl
      · rintro ⟨h1, h2, h3⟩
        have s0 : s = 0 := by omega
        rw [show i - 5 * s = i by omega, htb] at h3
        exact c ⟨s0, of_decide_eq_true h3⟩
  have q2 : lG (sdG n R D C r s g) i = if s = 1 ∧ sE s (eG g) (lG g) i < T then vvF s T else lG g i := by
    show (sdG n R D C r s g (5 + i)).toInt = _
    rw [e1 (5 + i) (by omega)]
    unfold upA
    by_cases c : s = 1 ∧ sE s (eG g) (lG g) i < T
    · rw [if_pos c, if_pos ⟨by omega, by omega, by rw [show 5 + i - 5 * s = i by omega, htb]; exact decide_eq_true c.2⟩, show 5 + i - 5 * s = i by omega, hv, zI_toInt]
      · unfold vvF; rw [if_neg (by omega)]; unfold sE sL at ht; rw [if_neg (by omega), if_neg (by omega)] at ht; omega
      · unfold vvF; rw [if_neg (by omega)]; unfold sE sL at ht; rw [if_neg (by omega), if_neg (by omega)] at ht; omega
    · rw [if_neg c, if_neg]
      · rfl
      · rintro ⟨h1, h2, h3⟩
        have s0 : s = 1 := by omega
        rw [show 5 + i - 5 * s = i by omega, htb] at h3
        exact c ⟨s0, of_decide_eq_true h3⟩
  rw [q1, q2, htb, decide_eq_true_eq]
  have w := brG_f hb i hi
  rcases (show s = 0 ∨ s = 1 by omega) with rfl | rfl
  · rw [if_neg (fun q => absurd q.1 (by decide) : ¬ ((0 : Nat) = 1 ∧ _))]
    simp only [sE, sL, vvF, if_true, true_and] at ht ⊢
    by_cases c : eG g i < T
    · rw [if_pos c]; omega
    · rw [if_neg c]; omega
  · rw [if_neg (fun q => absurd q.1 (by decide) : ¬ ((1 : Nat) = 0 ∧ _))]
    have s10 : ¬ (1 : Nat) = 0 := by decide
    simp only [sE, sL, vvF, s10, if_false, true_and] at ht ⊢
    by_cases c : 16 - lG g i < T
    · rw [if_pos c]; omega
    · rw [if_neg c]; omega
theorem sd_ok {n : Nat} {R : Int} {D C : Nat → Int} {r s : Nat} {g : Nat → Int32} (ho : okG n R D C g) (hb : brG n D g = false) (hs : s < 2) : okG n R D C (sdG n R D C r s g) ∧ ((mvG n R D C r s g = false ∧ sdG n R D C r s g = g) ∨ (mvG n R D C r s g = true ∧ wsG n (sdG n R D C r s g) < wsG n g)) := by
  refine ⟨⟨ho.1, ho.2.1, ho.2.2.1, fun i hi => ?_⟩, ?_⟩
  · have y := ho.2.2.2 i hi
    have v := (sd_val (r := r) ho hb hs i hi).1
    omega
  · cases hm : mvG n R D C r s g with
    | false => exact Or.inl ⟨rfl, up3_none hm⟩
    | true => exact Or.inr ⟨rfl, (sumF_cmp (f := fun i => lG (sdG n R D C r s g) i - eG (sdG n R D C r s g) i) (g := fun i => lG g i - eG g i) n (fun i hi => (sd_val (r := r) ho hb hs i hi).2)).2 hm⟩
/-- did a rule move an edge? -/
def rmG (n : Nat) (R : Int) (D C : Nat → Int) (r : Nat) (g : Nat → Int32) : Bool := if brG n D (sdG n R D C r 0 g) = true then mvG n R D C r 0 g else (mvG n R D C r 0 g || mvG n R D C r 1 (sdG n R D C r 0 g))
theorem ru_ok {n : Nat} {R : Int} {D C : Nat → Int} {r : Nat} {g : Nat → Int32} (ho : okG n R D C g) (hb : brG n D g = false) : okG n R D C (ruG n R D C r g) ∧ ((rmG n R D C r g = false ∧ ruG n R D C r g = g) ∨ (rmG n R D C r g = true ∧ wsG n (ruG n R D C r g) < wsG n g)) := by
  obtain ⟨o1, m1⟩ := sd_ok (r := r) ho hb (show 0 < 2 by omega)
  unfold ruG rmG
  cases hb1 : brG n D (sdG n R D C r 0 g) with
  | true =>
    rw [if_pos rfl, if_pos rfl]
    exact ⟨o1, m1⟩
  | false =>
    rw [if_neg (by decide), if_neg (by decide)]
    obtain ⟨o2, m2⟩ := sd_ok (r := r) o1 hb1 (show 1 < 2 by omega)
    refine ⟨o2, ?_⟩
    rcases m1 with ⟨a1, a2⟩ | ⟨a1, a2⟩
    · rcases m2 with ⟨c1, c2⟩ | ⟨c1, c2⟩
      · exact Or.inl ⟨by rw [a1, c1]; rfl, by rw [c2, a2]⟩
      · refine Or.inr ⟨by rw [c1, Bool.or_true], ?_⟩
        rw [a2] at c2
        rw [a2]
        exact c2
    · rcases m2 with ⟨c1, c2⟩ | ⟨c1, c2⟩
      · exact Or.inr ⟨by rw [a1]; rfl, by rw [c2]; exact a2⟩
      · exact Or.inr ⟨by rw [a1]; rfl, by omega⟩
theorem st_ok {n : Nat} {R : Int} {D C : Nat → Int} {r : Nat} {g : Nat → Int32} (ho : okG n R D C g) : okG n R D C (stG n R D C r g) ∧ (stG n R D C r g = g ∨ wsG n (stG n R D C r g) < wsG n g) := by
  unfold stG
  cases hb : brG n D g with
  | true => rw [if_pos rfl]; exact ⟨ho, Or.inl rfl⟩
  | false =>
    rw [if_neg (by decide)]
    obtain ⟨o, m⟩ := ru_ok (r := r) ho hb
    refine ⟨o, ?_⟩
    rcases m with m | m
    · exact Or.inl m.2
    · exact Or.inr m.2
/-- the rules in turn -/
def sqG (n : Nat) (R : Int) (D C : Nat → Int) (g : Nat → Int32) : Nat → Nat → Int32
  | 0 => g
  | t + 1 => stG n R D C (t % 4) (sqG n R D C g t)
def fxG (n : Nat) (R : Int) (D C : Nat → Int) (g : Nat → Int32) (t : Nat) : Prop := ∀ r, r < 4 → stG n R D C r (sqG n R D C g t) = sqG n R D C g t
section
variable {n : Nat} {R : Int} {D C : Nat → Int} {g : Nat → Int32}
theorem sq_ok (ho : okG n R D C g) : ∀ t, okG n R D C (sqG n R D C g t)
  | 0 => ho
  | t + 1 => (st_ok (sq_ok ho t)).1
theorem sq_fx {t : Nat} (h : fxG n R D C g t) : ∀ m, sqG n R D C g (t + m) = sqG n R D C g t
  | 0 => rfl
  | m + 1 => by
    show stG n R D C ((t + m) % 4) (sqG n R D C g (t + m)) = _
    rw [sq_fx h m]
    exact h _ (Nat.mod_lt _ (by omega))
theorem fx_up {t : Nat} (h : fxG n R D C g t) (m : Nat) : fxG n R D C g (t + m) := by
  intro r hr
  rw [sq_fx h m]
  exact h r hr
theorem fx_of {t : Nat} (h : ∀ j, j ≤ 4 → sqG n R D C g (t + j) = sqG n R D C g t) : fxG n R D C g t := by
  intro r hr
  have key : ∀ j, j < 4 → stG n R D C ((t + j) % 4) (sqG n R D C g t) = sqG n R D C g t := by
    intro j hj
    have h1 := h (j + 1) (by omega)
    have h2 : stG n R D C ((t + j) % 4) (sqG n R D C g (t + j)) = sqG n R D C g (t + (j + 1)) := rfl
    rw [h j (by omega), h1] at h2
    exact h2
  have hj := key ((r + 4 - t % 4) % 4) (Nat.mod_lt _ (by omega))
  rw [show (t + (r + 4 - t % 4) % 4) % 4 = r by omega] at hj
  exact hj
theorem sq_dec (ho : okG n R D C g) (t : Nat) : ∀ m, wsG n (sqG n R D C g (t + m)) ≤ wsG n (sqG n R D C g t) ∧ (wsG n (sqG n R D C g (t + m)) = wsG n (sqG n R D C g t) → ∀ j, j ≤ m → sqG n R D C g (t + j) = sqG n R D C g t)
  | 0 => ⟨Int.le_refl _, fun _ j hj => by rw [show j = 0 by omega]; rfl⟩
  | m + 1 => by
    obtain ⟨i1, i2⟩ := sq_dec ho t m
    have s := (st_ok (r := (t + m) % 4) (sq_ok ho (t + m))).2
    have e : sqG n R D C g (t + (m + 1)) = stG n R D C ((t + m) % 4) (sqG n R D C g (t + m)) := rfl
    rw [← e] at s
    rcases s with s | s
    · refine ⟨by rw [s]; exact i1, fun h j hj => ?_⟩
      rw [s] at h
      by_cases q : j = m + 1
      · rw [q, s]; exact i2 h m (Nat.le_refl _)
      · exact i2 h j (by omega)
    · exact ⟨by omega, fun h => by omega⟩
theorem sq_4 (ho : okG n R D C g) (t : Nat) : fxG n R D C g t ∨ wsG n (sqG n R D C g (t + 4)) < wsG n (sqG n R D C g t) := by
  obtain ⟨i1, i2⟩ := sq_dec ho t 4
  by_cases h : wsG n (sqG n R D C g (t + 4)) = wsG n (sqG n R D C g t)
  · exact Or.inl (fx_of (i2 h))
  · exact Or.inr (by omega)
theorem ws_bd (ho : okG n R D C g) : -80 ≤ wsG n g ∧ wsG n g ≤ 80 := by
  have key : ∀ k, k ≤ n → -(16 * (k : Int)) ≤ sumF (fun i => lG g i - eG g i) k ∧ sumF (fun i => lG g i - eG g i) k ≤ 16 * (k : Int) := by
    intro k
    induction k with
    | zero => intro _; simp [sumF]
    | succ k ih =>
      intro hk
      have := ih (by omega)
      have y := ho.2.2.2 k (by omega)
      simp only [sumF]
      omega
  have := key n (Nat.le_refl _)
  have := ho.1
  unfold wsG
  omega
theorem sq_k (ho : okG n R D C g) : ∀ k : Nat, fxG n R D C g (4 * k) ∨ wsG n (sqG n R D C g (4 * k)) + k ≤ 80
  | 0 => Or.inr (by have := ws_bd ho; show wsG n g + _ ≤ 80; omega)
  | k + 1 => by
    rcases sq_k ho k with h | h
    · exact Or.inl (fx_up h 4)
    · rcases sq_4 ho (4 * k) with q | q
      · exact Or.inl (fx_up q 4)
      · refine Or.inr ?_
        rw [show 4 * (k + 1) = 4 * k + 4 by omega]
        omega
theorem fx_end (ho : okG n R D C g) : fxG n R D C g 644 := by
  rcases sq_k ho 161 with h | h
  · exact h
  · have := ws_bd (sq_ok ho (4 * 161))
    omega
def enG (n : Nat) (R : Int) (D C : Nat → Int) (g : Nat → Int32) : Nat → Int32 := sqG n R D C g 644
theorem fx_is (ho : okG n R D C g) {t : Nat} (h : fxG n R D C g t) : sqG n R D C g t = enG n R D C g := by
  unfold enG
  by_cases q : t ≤ 644
  · have := sq_fx h (644 - t)
    rw [show t + (644 - t) = 644 by omega] at this
    exact this.symm
  · have := sq_fx (fx_end ho) (t - 644)
    rw [show 644 + (t - 644) = t by omega] at this
    exact this
theorem fx_br {t : Nat} (h : brG n D (sqG n R D C g t) = true) : fxG n R D C g t := by
  intro r _
  unfold stG
  rw [if_pos h]
end
