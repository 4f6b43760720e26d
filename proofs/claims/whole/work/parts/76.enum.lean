/-! ===== schedules: all of them in order; how many, by any order of tasks; the first ===== -/
def enP (rc : Nat → List (Nat → Nat)) (ok : Nat → Bool) : Nat → Nat → List (Nat → Nat)
  | 0, _ => []
  | r + 1, x => (if ok x = true then rc x else []) ++ enP rc ok r (x + 1)
def okS (R : Nat) (D c : Nat → Nat) (q : Nat → Nat → Bool) (w : Nat → Nat) (i x : Nat) : Bool := q i x && ftB R w (c i) x (D i)
def enL (R : Nat) (e l D c : Nat → Nat) (q : Nat → Nat → Bool) : Nat → Nat → (Nat → Nat) → (Nat → Nat) → List (Nat → Nat)
  | 0, _, _, b => [b]
  | m + 1, i, w, b => enP (fun x => enL R e l D c q m (i + 1) (flN w x (D i) (c i)) (bset b i x)) (okS R D c q w i) (l i + 1 - (e i + D i)) (e i)
def sR (f : Nat → Nat) : Nat → Nat → Nat
  | 0, _ => 0
  | r + 1, x => f x + sR f r (x + 1)
theorem sR_congr {f g : Nat → Nat} : ∀ (r x : Nat), (∀ y, f y = g y) → sR f r x = sR g r x
  | 0, _, _ => rfl
  | r + 1, x, h => by simp only [sR]; rw [h x, sR_congr r (x + 1) h]
theorem sR_zero : ∀ (r x : Nat), sR (fun _ => 0) r x = 0
  | 0, _ => rfl
  | r + 1, x => by simp only [sR]; rw [sR_zero r (x + 1)]
theorem sR_add {f g : Nat → Nat} : ∀ (r x : Nat), sR (fun y => f y + g y) r x = sR f r x + sR g r x
  | 0, _ => rfl
  | r + 1, x => by simp only [sR]; rw [sR_add r (x + 1)]; omega
theorem sR_swap {g : Nat → Nat → Nat} {s y : Nat} : ∀ (r x : Nat), sR (fun x => sR (fun y => g x y) s y) r x = sR (fun y => sR (fun x => g x y) r x) s y
  | 0, x => by simp only [sR]; rw [sR_zero]
  | r + 1, x => by
    simp only [sR]
    rw [sR_swap r (x + 1), sR_add]
theorem sR_if {f : Nat → Nat} {A : Bool} {ok : Nat → Bool} (r x : Nat) : (if A = true then sR (fun y => if ok y = true then f y else 0) r x else 0) = sR (fun y => if (A && ok y) = true then f y else 0) r x := by
  cases A with
  | true => rw [if_pos rfl]; exact sR_congr r x (fun y => by rw [Bool.true_and])
  | false =>
    rw [if_neg (by decide)]
    refine (sR_zero r x).symm.trans ?_
    exact sR_congr r x (fun y => by rw [Bool.false_and]; rfl)
/-- how many schedules, tasks taken as the list says -/
def nc (R : Nat) (e l D c : Nat → Nat) (q : Nat → Nat → Bool) : List Nat → (Nat → Nat) → Nat
  | [], _ => 1
  | i :: is, w => sR (fun x => if okS R D c q w i x = true then nc R e l D c q is (flN w x (D i) (c i)) else 0) (l i + 1 - (e i + D i)) (e i)
theorem fl_comm {w : Nat → Nat} {x d k y d' k' : Nat} : flN (flN w x d k) y d' k' = flN (flN w y d' k') x d k := by
  funext t
  unfold flN
  by_cases h1 : x ≤ t ∧ t < x + d
  · by_cases h2 : y ≤ t ∧ t < y + d'
    · rw [if_pos h2, if_pos h1, if_pos h1, if_pos h2]; omega
    · rw [if_neg h2, if_pos h1, if_pos h1, if_neg h2]
  · by_cases h2 : y ≤ t ∧ t < y + d'
    · rw [if_pos h2, if_neg h1, if_neg h1, if_pos h2]
    · rw [if_neg h2, if_neg h1, if_neg h1, if_neg h2]
theorem fl_ge {w : Nat → Nat} {x d k t : Nat} : w t ≤ flN w x d k t := by
  unfold flN
  split <;> omega
theorem fit_sym {R : Nat} {w : Nat → Nat} {x d k y d' k' : Nat} (h1 : ftB R w k x d = true) (h2 : ftB R (flN w x d k) k' y d' = true) : ftB R w k' y d' = true ∧ ftB R (flN w y d' k') k x d = true := by
  rw [ftB_iff] at h1 h2
  refine ⟨ftB_iff.mpr (fun t a b => ?_), ftB_iff.mpr (fun t a b => ?_)⟩
  · have := h2 t a b
    have := fl_ge (w := w) (x := x) (d := d) (k := k) (t := t)
    omega
  · by_cases q : y ≤ t ∧ t < y + d'
    · have h3 := h2 t q.1 q.2
      unfold flN at h3 ⊢
      rw [if_pos ⟨a, b⟩] at h3
      rw [if_pos q]
      omega
    · unfold flN
      rw [if_neg q]
      exact h1 t a b
theorem ok_sym {R : Nat} {D c : Nat → Nat} {q : Nat → Nat → Bool} {w : Nat → Nat} {i x j y : Nat} : (okS R D c q w i x && okS R D c q (flN w x (D i) (c i)) j y) = (okS R D c q w j y && okS R D c q (flN w y (D j) (c j)) i x) := by
  rw [Bool.eq_iff_iff]
  unfold okS
  simp only [Bool.and_eq_true]
  constructor
  · rintro ⟨⟨a1, a2⟩, ⟨b1, b2⟩⟩
    obtain ⟨s1, s2⟩ := fit_sym a2 b2
    exact ⟨⟨b1, s1⟩, ⟨a1, s2⟩⟩
  · rintro ⟨⟨a1, a2⟩, ⟨b1, b2⟩⟩
    obtain ⟨s1, s2⟩ := fit_sym a2 b2
    exact ⟨⟨b1, s1⟩, ⟨a1, s2⟩⟩
section
variable {R : Nat} {e l D c : Nat → Nat} {q : Nat → Nat → Bool}
theorem nc_swap (i j : Nat) (is : List Nat) (w : Nat → Nat) : nc R e l D c q (i :: j :: is) w = nc R e l D c q (j :: i :: is) w := by
  simp only [nc]
  have h1 : ∀ x, (if okS R D c q w i x = true then sR (fun y => if okS R D c q (flN w x (D i) (c i)) j y = true then nc R e l D c q is (flN (flN w x (D i) (c i)) y (D j) (c j)) else 0) (l j + 1 - (e j + D j)) (e j) else 0) = sR (fun y => if (okS R D c q w i x && okS R D c q (flN w x (D i) (c i)) j y) = true then nc R e l D c q is (flN (flN w x (D i) (c i)) y (D j) (c j)) else 0) (l j + 1 - (e j + D j)) (e j) := fun x => sR_if _ _
  have h2 : ∀ y, (if okS R D c q w j y = true then sR (fun x => if okS R D c q (flN w y (D j) (c j)) i x = true then nc R e l D c q is (flN (flN w y (D j) (c j)) x (D i) (c i)) else 0) (l i + 1 - (e i + D i)) (e i) else 0) = sR (fun x => if (okS R D c q w j y && okS R D c q (flN w y (D j) (c j)) i x) = true then nc R e l D c q is (flN (flN w y (D j) (c j)) x (D i) (c i)) else 0) (l i + 1 - (e i + D i)) (e i) := fun y => sR_if _ _
  rw [sR_congr _ _ h1, sR_congr _ _ h2, sR_swap]
  refine sR_congr _ _ (fun y => sR_congr _ _ (fun x => ?_))
  rw [ok_sym, fl_comm]
theorem nc_perm {a b : List Nat} (h : a.Perm b) : ∀ w, nc R e l D c q a w = nc R e l D c q b w := by
  induction h with
  | nil => intro w; rfl
  | cons x _ ih =>
    intro w
    simp only [nc]
    exact sR_congr _ _ (fun y => by rw [ih])
  | swap x y l => intro w; exact nc_swap y x l w
  | trans _ _ ih1 ih2 => intro w; rw [ih1, ih2]
theorem enP_len {rc : Nat → List (Nat → Nat)} {ok : Nat → Bool} {f : Nat → Nat} (h : ∀ x, (rc x).length = f x) : ∀ (r x : Nat), (enP rc ok r x).length = sR (fun x => if ok x = true then f x else 0) r x
  | 0, x => rfl
  | r + 1, x => by
    simp only [enP, sR, List.length_append]
    rw [enP_len h r (x + 1)]
    congr 1
    split
    · exact h x
    · rfl
theorem enL_len : ∀ (m i : Nat) (w b : Nat → Nat), (enL R e l D c q m i w b).length = nc R e l D c q (List.range' i m) w
  | 0, i, w, b => rfl
  | m + 1, i, w, b => by
    rw [List.range'_succ]
    simp only [enL, nc]
    exact enP_len (fun x => enL_len m (i + 1) _ _) _ _
end
/-! the first -/
def cpl (n R : Nat) (e l D c : Nat → Nat) (q : Nat → Nat → Bool) (i : Nat) (w b : Nat → Nat) : Prop := (∀ j, i ≤ j → j < n → e j ≤ b j ∧ b j + D j ≤ l j ∧ q j (b j) = true) ∧ ∀ t, w t + ldN n D c (fun j => decide (i ≤ j)) b t ≤ R
def lexm (n : Nat) (i : Nat) (b b' : Nat → Nat) : Prop := ∀ k, i ≤ k → k < n → (∀ j, i ≤ j → j < k → b' j = b j) → b k ≤ b' k
section
variable {n R : Nat} {e l D c : Nat → Nat} {q : Nat → Nat → Bool}
theorem ld_step {i : Nat} {b : Nat → Nat} (hi : i < n) (t : Nat) : ldN n D c (fun j => decide (i ≤ j)) b t = ldN n D c (fun j => decide (i + 1 ≤ j)) b t + ruN D c b t i := by
  have := sN_one (f := fun j => if decide (i ≤ j) = true then ruN D c b t j else 0) (g := fun j => if decide (i + 1 ≤ j) = true then ruN D c b t j else 0) n hi (fun j _ hj => by
    show (if decide (i ≤ j) = true then _ else _) = (if decide (i + 1 ≤ j) = true then _ else _)
    by_cases z : i ≤ j
    · rw [decide_eq_true z, decide_eq_true (by omega : i + 1 ≤ j)]
    · rw [decide_eq_false z, decide_eq_false (by omega : ¬ i + 1 ≤ j)])
  have e1 : (if decide (i ≤ i) = true then ruN D c b t i else 0) = ruN D c b t i := by rw [decide_eq_true (Nat.le_refl _), if_pos rfl]
  have e2 : (if decide (i + 1 ≤ i) = true then ruN D c b t i else 0) = 0 := by rw [decide_eq_false (by omega : ¬ i + 1 ≤ i)]; rfl
  simp only [e1, e2] at this
  unfold ldN
  omega
theorem fl_ru {i : Nat} {w b : Nat → Nat} (t : Nat) : flN w (b i) (D i) (c i) t = w t + ruN D c b t i := by
  unfold flN ruN
  split <;> omega
theorem cpl_step {i : Nat} {w b : Nat → Nat} (hi : i < n) : cpl n R e l D c q i w b ↔ (e i ≤ b i ∧ b i + D i ≤ l i ∧ q i (b i) = true) ∧ cpl n R e l D c q (i + 1) (flN w (b i) (D i) (c i)) b := by
  unfold cpl
  constructor
  · rintro ⟨h1, h2⟩
    refine ⟨h1 i (Nat.le_refl _) hi, fun j a b => h1 j (by omega) b, fun t => ?_⟩
    have := h2 t
    rw [ld_step hi] at this
    rw [fl_ru]
    omega
  · rintro ⟨h0, h1, h2⟩
    refine ⟨fun j a d => ?_, fun t => ?_⟩
    · by_cases z : j = i
      · rw [z]; exact h0
      · exact h1 j (by omega) d
    · have := h2 t
      rw [fl_ru] at this
      rw [ld_step hi]
      omega
theorem cpl_fit {i : Nat} {w b : Nat → Nat} (hi : i < n) (h : cpl n R e l D c q i w b) : okS R D c q w i (b i) = true := by
  unfold okS
  rw [Bool.and_eq_true]
  refine ⟨(h.1 i (Nat.le_refl _) hi).2.2, ftB_iff.mpr (fun t a d => ?_)⟩
  have h2 := h.2 t
  rw [ld_step hi] at h2
  have : ruN D c b t i = c i := by unfold ruN; rw [if_pos ⟨a, d⟩]
  omega
theorem en_first : ∀ (m i : Nat) (w b : Nat → Nat), i + m = n → (∀ t, w t ≤ R) → (enL R e l D c q m i w b = [] ∧ ∀ b', ¬ cpl n R e l D c q i w b') ∨ ∃ b' T, enL R e l D c q m i w b = b' :: T ∧ cpl n R e l D c q i w b' ∧ (∀ j, j < i → b' j = b j) ∧ ∀ b'', cpl n R e l D c q i w b'' → lexm n i b' b'' := by
  intro m
  induction m with
  | zero =>
    intro i w b hi hw
    refine Or.inr ⟨b, [], rfl, ⟨fun j h1 h2 => by omega, fun t => ?_⟩, fun _ _ => rfl, fun b'' _ k h1 h2 => by omega⟩
    have : ldN n D c (fun j => decide (i ≤ j)) b t ≤ sN (fun _ => 0) n := sN_le n (fun j hj => by rw [if_neg (fun h => absurd (of_decide_eq_true h) (by omega))]; exact Nat.le_refl _)
    have z : ∀ k, sN (fun _ => 0) k = 0 := by
      intro k
      induction k with
      | zero => rfl
      | succ k ih => simp only [sN]; omega
    rw [z] at this
    have := hw t
    omega
  | succ m ih =>
    intro i w b hi hw
    have hin : i < n := by omega
    have key : ∀ (r x : Nat), r = l i + 1 - (x + D i) → e i ≤ x → (enP (fun x => enL R e l D c q m (i + 1) (flN w x (D i) (c i)) (bset b i x)) (okS R D c q w i) r x = [] ∧ ∀ b', x ≤ b' i → ¬ cpl n R e l D c q i w b') ∨ ∃ b' T, enP (fun x => enL R e l D c q m (i + 1) (flN w x (D i) (c i)) (bset b i x)) (okS R D c q w i) r x = b' :: T ∧ cpl n R e l D c q i w b' ∧ (∀ j, j < i → b' j = b j) ∧ ∀ b'', x ≤ b'' i → cpl n R e l D c q i w b'' → lexm n i b' b'' := by
      intro r
      induction r with
      | zero =>
        intro x hr hx
        refine Or.inl ⟨rfl, fun b' h1 h2 => ?_⟩
        have := (h2.1 i (Nat.le_refl _) hin).2.1
        omega
      | succ r ihr =>
        intro x hr hx
        have nx := ihr (x + 1) (by omega) (by omega)
        simp only [enP]
        have skip : (∀ b', b' i = x → ¬ cpl n R e l D c q i w b') → (if okS R D c q w i x = true then enL R e l D c q m (i + 1) (flN w x (D i) (c i)) (bset b i x) else []) = [] → ((if okS R D c q w i x = true then enL R e l D c q m (i + 1) (flN w x (D i) (c i)) (bset b i x) else []) ++ enP (fun x => enL R e l D c q m (i + 1) (flN w x (D i) (c i)) (bset b i x)) (okS R D c q w i) r (x + 1) = [] ∧ ∀ b', x ≤ b' i → ¬ cpl n R e l D c q i w b') ∨ ∃ b' T, (if okS R D c q w i x = true then enL R e l D c q m (i + 1) (flN w x (D i) (c i)) (bset b i x) else []) ++ enP (fun x => enL R e l D c q m (i + 1) (flN w x (D i) (c i)) (bset b i x)) (okS R D c q w i) r (x + 1) = b' :: T ∧ cpl n R e l D c q i w b' ∧ (∀ j, j < i → b' j = b j) ∧ ∀ b'', x ≤ b'' i → cpl n R e l D c q i w b'' → lexm n i b' b'' := by
          intro hno hnil
          rw [hnil, List.nil_append]
          rcases nx with ⟨n1, n2⟩ | ⟨b', T, n1, n2, n3, n4⟩
          · refine Or.inl ⟨n1, fun b' h1 h2 => ?_⟩
            by_cases z : b' i = x
            · exact hno b' z h2
            · exact n2 b' (by omega) h2
          · refine Or.inr ⟨b', T, n1, n2, n3, fun b'' h1 h2 => ?_⟩
            by_cases z : b'' i = x
            · exact absurd h2 (hno b'' z)
            · exact n4 b'' (by omega) h2
        by_cases ho : okS R D c q w i x = true
        · have hf : ftB R w (c i) x (D i) = true := by
            unfold okS at ho
            rw [Bool.and_eq_true] at ho
            exact ho.2
          have hq : q i x = true := by
            unfold okS at ho
            rw [Bool.and_eq_true] at ho
            exact ho.1
          rcases ih (i + 1) (flN w x (D i) (c i)) (bset b i x) (by omega) (fl_R hw hf) with ⟨n1, n2⟩ | ⟨b', T, n1, n2, n3, n4⟩
          · refine skip (fun b' h1 h2 => ?_) (by rw [if_pos ho]; exact n1)
            have := ((cpl_step hin).mp h2).2
            rw [h1] at this
            exact n2 b' this
          · have hbi : b' i = x := by rw [n3 i (by omega), bset_eq]
            refine Or.inr ⟨b', T ++ enP (fun x => enL R e l D c q m (i + 1) (flN w x (D i) (c i)) (bset b i x)) (okS R D c q w i) r (x + 1), by rw [if_pos ho, n1]; rfl, (cpl_step hin).mpr ⟨⟨by omega, by omega, by rw [hbi]; exact hq⟩, by rw [hbi]; exact n2⟩, fun j hj => by rw [n3 j (by omega), bset_ne (by omega)], fun b'' h1 h2 k k1 k2 k3 => ?_⟩
            by_cases z : k = i
            · rw [z, hbi]; exact h1
            · have h3 := k3 i (Nat.le_refl _) (by omega)
              have h4 := ((cpl_step hin).mp h2).2
              rw [h3, hbi] at h4
              exact n4 b'' h4 k (by omega) k2 (fun j j1 j2 => k3 j (by omega) j2)
        · refine skip (fun b' h1 h2 => ho ?_) (by rw [if_neg ho])
          rw [← h1]
          exact cpl_fit hin h2
    rcases key (l i + 1 - (e i + D i)) (e i) rfl (Nat.le_refl _) with ⟨k1, k2⟩ | ⟨b', T, k1, k2, k3, k4⟩
    · exact Or.inl ⟨k1, fun b' h => k2 b' (h.1 i (Nat.le_refl _) hin).1 h⟩
    · exact Or.inr ⟨b', T, k1, k2, k3, fun b'' h => k4 b'' (h.1 i (Nat.le_refl _) hin).1 h⟩
/-- all schedules -/
def aL (n R : Nat) (e l D c : Nat → Nat) (q : Nat → Nat → Bool) : List (Nat → Nat) := enL R e l D c q n 0 (fun _ => 0) (fun _ => 0)
theorem cpl_0 {b : Nat → Nat} : cpl n R e l D c q 0 (fun _ => 0) b ↔ fea n R e l D c b ∧ ∀ i, i < n → q i (b i) = true := by
  have h : ∀ t, ldN n D c (fun j => decide (0 ≤ j)) b t = sN (ruN D c b t) n := fun t => sN_congr n (fun i _ => if_pos (decide_eq_true (Nat.zero_le _)))
  unfold cpl fea
  simp only [h, Nat.zero_add]
  constructor
  · rintro ⟨h1, h2⟩
    exact ⟨⟨fun i hi => ⟨(h1 i (Nat.zero_le _) hi).1, (h1 i (Nat.zero_le _) hi).2.1⟩, h2⟩, fun i hi => (h1 i (Nat.zero_le _) hi).2.2⟩
  · rintro ⟨⟨h1, h2⟩, h3⟩
    exact ⟨fun j _ hj => ⟨(h1 j hj).1, (h1 j hj).2, h3 j hj⟩, h2⟩
theorem aL_first : (aL n R e l D c q = [] ∧ ∀ b', fea n R e l D c b' → ¬ ∀ i, i < n → q i (b' i) = true) ∨ ∃ b' T, aL n R e l D c q = b' :: T ∧ fea n R e l D c b' ∧ (∀ i, i < n → q i (b' i) = true) ∧ ∀ b'', fea n R e l D c b'' → (∀ i, i < n → q i (b'' i) = true) → lexm n 0 b' b'' := by
  rcases en_first (n := n) (R := R) (e := e) (l := l) (D := D) (c := c) (q := q) n 0 (fun _ => 0) (fun _ => 0) (by omega) (fun _ => Nat.zero_le _) with ⟨h1, h2⟩ | ⟨b', T, h1, h2, h3, h4⟩
  · exact Or.inl ⟨h1, fun b' f g => h2 b' (cpl_0.mpr ⟨f, g⟩)⟩
  · obtain ⟨f, g⟩ := cpl_0.mp h2
    exact Or.inr ⟨b', T, h1, f, g, fun b'' f' g' => h4 b'' (cpl_0.mpr ⟨f', g'⟩)⟩
theorem aL_len : (aL n R e l D c q).length = nc R e l D c q (List.range' 0 n) (fun _ => 0) := enL_len n 0 _ _
end
