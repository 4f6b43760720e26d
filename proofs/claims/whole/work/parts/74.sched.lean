/-! ===== schedules: is there one? every order, each as early as it fits ===== -/
def sN (f : Nat → Nat) : Nat → Nat
  | 0 => 0
  | k + 1 => sN f k + f k
theorem sN_le {f g : Nat → Nat} : ∀ k, (∀ i, i < k → f i ≤ g i) → sN f k ≤ sN g k
  | 0, _ => Nat.le_refl _
  | k + 1, h => by
    have h1 := sN_le k (fun i hi => h i (by omega))
    have h2 := h k (by omega)
    simp only [sN]
    omega
theorem sN_congr {f g : Nat → Nat} (k : Nat) (h : ∀ i, i < k → f i = g i) : sN f k = sN g k :=
  Nat.le_antisymm (sN_le k (fun i hi => by rw [h i hi]; exact Nat.le_refl _)) (sN_le k (fun i hi => by rw [h i hi]; exact Nat.le_refl _))
theorem sN_one {f g : Nat → Nat} {i : Nat} : ∀ k, i < k → (∀ j, j < k → j ≠ i → f j = g j) → sN f k + g i = sN g k + f i
  | 0, h, _ => by omega
  | k + 1, h, hj => by
    simp only [sN]
    by_cases q : i = k
    · subst q
      rw [sN_congr (f := f) (g := g) i (fun j h1 => hj j (by omega) (by omega))]
      omega
    · have h1 := sN_one k (by omega) (fun j h1 h2 => hj j (by omega) h2)
      have h2 := hj k (by omega) (fun w => q w.symm)
      omega
theorem sN_1 : ∀ k, sN (fun _ => 1) k = k
  | 0 => rfl
  | k + 1 => by simp only [sN]; rw [sN_1 k]
theorem sN_pos {f : Nat → Nat} : ∀ k, 0 < sN f k → ∃ i, i < k ∧ 0 < f i
  | 0, h => by simp [sN] at h
  | k + 1, h => by
    simp only [sN] at h
    by_cases q : 0 < f k
    · exact ⟨k, by omega, q⟩
    · obtain ⟨i, h1, h2⟩ := sN_pos (f := f) k (by omega)
      exact ⟨i, by omega, h2⟩
def ruN (D c b : Nat → Nat) (t i : Nat) : Nat := if b i ≤ t ∧ t < b i + D i then c i else 0
def ldN (n : Nat) (D c : Nat → Nat) (P : Nat → Bool) (b : Nat → Nat) (t : Nat) : Nat := sN (fun i => if P i = true then ruN D c b t i else 0) n
/-- a schedule -/
def fea (n R : Nat) (e l D c b : Nat → Nat) : Prop := (∀ i, i < n → e i ≤ b i ∧ b i + D i ≤ l i) ∧ ∀ t, sN (ruN D c b t) n ≤ R
def flN (w : Nat → Nat) (x d c : Nat) : Nat → Nat := fun t => if x ≤ t ∧ t < x + d then w t + c else w t
def ftB (R : Nat) (w : Nat → Nat) (c x d : Nat) : Bool := !anyF (fun k => decide (R < w (x + k) + c)) 0 d
theorem ftB_iff {R : Nat} {w : Nat → Nat} {c x d : Nat} : ftB R w c x d = true ↔ ∀ t, x ≤ t → t < x + d → w t + c ≤ R := by
  unfold ftB
  constructor
  · intro h t h1 h2
    by_cases q : w t + c ≤ R
    · exact q
    · have : anyF (fun k => decide (R < w (x + k) + c)) 0 d = true := (anyF_iff _ _ _).mpr ⟨t - x, by omega, by omega, by
        rw [show x + (t - x) = t by omega]; exact decide_eq_true (by omega)⟩
      rw [this] at h
      cases h
  · intro h
    cases hq : anyF (fun k => decide (R < w (x + k) + c)) 0 d with
    | false => rfl
    | true =>
      obtain ⟨k, h1, h2, h3⟩ := (anyF_iff _ _ _).mp hq
      have := h (x + k) (by omega) (by omega)
      have h4 : R < w (x + k) + c := of_decide_eq_true h3
      omega
theorem ftB_f {R : Nat} {w : Nat → Nat} {c x d : Nat} : ftB R w c x d = false ↔ ∃ t, x ≤ t ∧ t < x + d ∧ R < w t + c := by
  constructor
  · intro h
    unfold ftB at h
    have h' : anyF (fun k => decide (R < w (x + k) + c)) 0 d = true := by
      cases hq : anyF (fun k => decide (R < w (x + k) + c)) 0 d with
      | true => rfl
      | false => rw [hq] at h; cases h
    obtain ⟨k, h1, h2, h3⟩ := (anyF_iff _ _ _).mp h'
    exact ⟨x + k, by omega, by omega, of_decide_eq_true h3⟩
  · rintro ⟨t, h1, h2, h3⟩
    cases hq : ftB R w c x d with
    | false => rfl
    | true =>
      have := ftB_iff.mp hq t h1 h2
      omega
def fsF (g : Nat → Bool) : Nat → Nat → Option Nat
  | 0, _ => none
  | m + 1, x => if g x = true then some x else fsF g m (x + 1)
theorem fsF_some {g : Nat → Bool} : ∀ (m x v : Nat), fsF g m x = some v → x ≤ v ∧ v < x + m ∧ g v = true ∧ ∀ y, x ≤ y → y < v → g y = false
  | 0, x, v, h => by cases h
  | m + 1, x, v, h => by
    simp only [fsF] at h
    by_cases q : g x = true
    · rw [if_pos q] at h
      cases h
      exact ⟨Nat.le_refl _, by omega, q, fun y h1 h2 => by omega⟩
    · rw [if_neg q] at h
      obtain ⟨a1, a2, a3, a4⟩ := fsF_some m (x + 1) v h
      refine ⟨by omega, by omega, a3, fun y h1 h2 => ?_⟩
      by_cases z : y = x
      · subst z
        cases hz : g y with
        | false => rfl
        | true => exact absurd hz q
      · exact a4 y (by omega) h2
theorem fsF_none {g : Nat → Bool} : ∀ (m x : Nat), fsF g m x = none → ∀ y, x ≤ y → y < x + m → g y = false
  | 0, x, h, y, h1, h2 => by omega
  | m + 1, x, h, y, h1, h2 => by
    simp only [fsF] at h
    by_cases q : g x = true
    · rw [if_pos q] at h
      cases h
    · rw [if_neg q] at h
      by_cases z : y = x
      · subst z
        cases hz : g y with
        | false => rfl
        | true => exact absurd hz q
      · exact fsF_none m (x + 1) h y (by omega) (by omega)
def efN (R : Nat) (e l D c w : Nat → Nat) (i : Nat) : Option Nat := fsF (fun x => ftB R w (c i) x (D i)) (l i + 1 - (e i + D i)) (e i)
theorem efN_some {R : Nat} {e l D c w : Nat → Nat} {i v : Nat} (h : efN R e l D c w i = some v) : e i ≤ v ∧ v + D i ≤ l i ∧ ftB R w (c i) v (D i) = true ∧ ∀ y, e i ≤ y → y < v → ftB R w (c i) y (D i) = false := by
  obtain ⟨a1, a2, a3, a4⟩ := fsF_some _ _ _ h
  exact ⟨a1, by omega, a3, a4⟩
theorem efN_none {R : Nat} {e l D c w : Nat → Nat} {i : Nat} (h : efN R e l D c w i = none) (y : Nat) (h1 : e i ≤ y) (h2 : y + D i ≤ l i) : ftB R w (c i) y (D i) = false := fsF_none _ _ h y h1 (by omega)
theorem efN_is {R : Nat} {e l D c w : Nat → Nat} {i v : Nat} (h1 : e i ≤ v) (h2 : v + D i ≤ l i) (h3 : ftB R w (c i) v (D i) = true) (h4 : ∀ y, e i ≤ y → y < v → ftB R w (c i) y (D i) = false) : efN R e l D c w i = some v := by
  cases hq : efN R e l D c w i with
  | none =>
    have := efN_none hq v h1 h2
    rw [h3] at this
    cases this
  | some x =>
    obtain ⟨a1, a2, a3, a4⟩ := efN_some hq
    by_cases q1 : x < v
    · have := h4 x a1 q1
      rw [a3] at this
      cases this
    · by_cases q2 : v < x
      · have := a4 v h1 q2
        rw [h3] at this
        cases this
      · congr 1
        omega
theorem efN_no {R : Nat} {e l D c w : Nat → Nat} {i : Nat} (h : ∀ y, e i ≤ y → y + D i ≤ l i → ftB R w (c i) y (D i) = false) : efN R e l D c w i = none := by
  cases hq : efN R e l D c w i with
  | none => rfl
  | some x =>
    obtain ⟨a1, a2, a3, a4⟩ := efN_some hq
    have := h x a1 a2
    rw [a3] at this
    cases this
def upB (P : Nat → Bool) (i : Nat) : Nat → Bool := fun j => P j || decide (j = i)
def lpS (ef : Nat → Option Nat) (P : Nat → Bool) (rc : Nat → Nat → Bool) : Nat → Nat → Bool
  | 0, _ => false
  | k + 1, i => if P i = true then lpS ef P rc k (i + 1) else
    match ef i with
    | none => false
    | some x => if rc i x = true then true else lpS ef P rc k (i + 1)
def anyS (n R : Nat) (e l D c : Nat → Nat) : Nat → (Nat → Bool) → (Nat → Nat) → Bool
  | 0, _, _ => true
  | m + 1, P, w => lpS (efN R e l D c w) P (fun i x => anyS n R e l D c m (upB P i) (flN w x (D i) (c i))) n 0
theorem lpS_true {ef : Nat → Option Nat} {P : Nat → Bool} {rc : Nat → Nat → Bool} : ∀ (k i : Nat), lpS ef P rc k i = true → ∃ j x, i ≤ j ∧ j < i + k ∧ P j = false ∧ ef j = some x ∧ rc j x = true
  | 0, i, h => by cases h
  | k + 1, i, h => by
    simp only [lpS] at h
    by_cases q : P i = true
    · rw [if_pos q] at h
      obtain ⟨j, x, a1, a2, a3⟩ := lpS_true k (i + 1) h
      exact ⟨j, x, by omega, by omega, a3⟩
    · rw [if_neg q] at h
      cases he : ef i with
      | none => rw [he] at h; cases h
      | some x =>
        rw [he] at h
        by_cases r : rc i x = true
        · exact ⟨i, x, Nat.le_refl _, by omega, by cases hp : P i with | false => rfl | true => exact absurd hp q, he, r⟩
        · have h' : lpS ef P rc k (i + 1) = true := by
            simp only [if_neg r] at h
            exact h
          obtain ⟨j, y, a1, a2, a3⟩ := lpS_true k (i + 1) h'
          exact ⟨j, y, by omega, by omega, a3⟩
theorem lpS_of {ef : Nat → Option Nat} {P : Nat → Bool} {rc : Nat → Nat → Bool} {j x : Nat} (h3 : P j = false) (h4 : ef j = some x) (h5 : rc j x = true) : ∀ (k i : Nat), i ≤ j → j < i + k → (∀ a, i ≤ a → a < i + k → P a = false → ∃ y, ef a = some y) → lpS ef P rc k i = true
  | 0, i, h1, h2, _ => by omega
  | k + 1, i, h1, h2, h => by
    simp only [lpS]
    by_cases q : P i = true
    · rw [if_pos q]
      have : i ≠ j := fun w => by rw [w, h3] at q; cases q
      exact lpS_of h3 h4 h5 k (i + 1) (by omega) (by omega) (fun a ha hb hc => h a (by omega) (by omega) hc)
    · rw [if_neg q]
      obtain ⟨y, hy⟩ := h i (Nat.le_refl _) (by omega) (by cases hp : P i with | false => rfl | true => exact absurd hp q)
      rw [hy]
      by_cases r : rc i y = true
      · simp only [if_pos r]
      · simp only [if_neg r]
        have : i ≠ j := fun w => by
          rw [w, h4] at hy
          cases hy
          rw [w] at r
          exact r h5
        exact lpS_of h3 h4 h5 k (i + 1) (by omega) (by omega) (fun a ha hb hc => h a (by omega) (by omega) hc)
def cP (P : Nat → Bool) (n : Nat) : Nat := sN (fun i => if P i = true then 1 else 0) n
theorem cP_up {P : Nat → Bool} {n i : Nat} (hi : i < n) (h : P i = false) : cP (upB P i) n = cP P n + 1 := by
  have := sN_one (f := fun j => if upB P i j = true then 1 else 0) (g := fun j => if P j = true then 1 else 0) n hi (fun j _ hj => by
    unfold upB
    rw [decide_eq_false hj, Bool.or_false])
  have e1 : (if upB P i i = true then 1 else 0) = 1 := by
    unfold upB
    rw [decide_eq_true rfl, Bool.or_true]
    rfl
  have e2 : (if P i = true then 1 else 0) = 0 := by rw [h]; rfl
  simp only [e1, e2] at this
  unfold cP
  omega
theorem cP_lt {P : Nat → Bool} {n : Nat} (h : cP P n < n) : ∃ i, i < n ∧ P i = false := by
  have key : ∀ k, (∀ i, i < k → P i = true) → cP P k = k := by
    intro k
    induction k with
    | zero => intro _; rfl
    | succ k ih =>
      intro h
      show cP P k + (if P k = true then 1 else 0) = k + 1
      rw [ih (fun i hi => h i (by omega)), h k (by omega)]
      rfl
  have key2 : ∀ k, (∀ i, i < k → P i = true) ∨ ∃ i, i < k ∧ P i = false := by
    intro k
    induction k with
    | zero => exact Or.inl (fun i hi => by omega)
    | succ k ih =>
      rcases ih with ih | ⟨i, h1, h2⟩
      · cases hp : P k with
        | false => exact Or.inr ⟨k, by omega, hp⟩
        | true => exact Or.inl (fun i hi => by
            by_cases q : i = k
            · rw [q]; exact hp
            · exact ih i (by omega))
      · exact Or.inr ⟨i, by omega, h2⟩
  rcases key2 n with q | q
  · rw [key n q] at h
    omega
  · exact q
theorem cP_all {P : Nat → Bool} {n : Nat} (h : cP P n = n) (i : Nat) (hi : i < n) : P i = true := by
  cases hp : P i with
  | true => rfl
  | false =>
    have h1 := cP_up hi hp
    have h2 : cP (upB P i) n ≤ n := by
      have := sN_le (f := fun j => if upB P i j = true then 1 else 0) (g := fun _ => 1) n (fun j _ => by split <;> omega)
      rw [sN_1] at this
      exact this
    omega
theorem argmin {P : Nat → Bool} {b : Nat → Nat} : ∀ k, (∃ i, i < k ∧ P i = false) → ∃ i, i < k ∧ P i = false ∧ ∀ j, j < k → P j = false → b i ≤ b j
  | 0, h => by obtain ⟨i, h1, _⟩ := h; omega
  | k + 1, h => by
    by_cases q : ∃ i, i < k ∧ P i = false
    · obtain ⟨i, a1, a2, a3⟩ := argmin (P := P) (b := b) k q
      by_cases r : P k = false ∧ b k < b i
      · refine ⟨k, by omega, r.1, fun j hj hp => ?_⟩
        by_cases z : j = k
        · rw [z]; exact Nat.le_refl _
        · have := a3 j (by omega) hp; omega
      · refine ⟨i, by omega, a2, fun j hj hp => ?_⟩
        by_cases z : j = k
        · rw [z] at hp ⊢
          by_cases y : b k < b i
          · exact absurd ⟨hp, y⟩ r
          · omega
        · exact a3 j (by omega) hp
    · obtain ⟨i, h1, h2⟩ := h
      have : i = k := by
        by_cases z : i = k
        · exact z
        · exact absurd ⟨i, by omega, h2⟩ q
      subst this
      refine ⟨i, by omega, h2, fun j hj hp => ?_⟩
      by_cases z : j = i
      · rw [z]; exact Nat.le_refl _
      · exact absurd ⟨j, by omega, hp⟩ q
def bset (b : Nat → Nat) (i x : Nat) : Nat → Nat := fun j => if j = i then x else b j
theorem bset_eq {b : Nat → Nat} {i x : Nat} : bset b i x i = x := by unfold bset; rw [if_pos rfl]
theorem bset_ne {b : Nat → Nat} {i x j : Nat} (h : j ≠ i) : bset b i x j = b j := by unfold bset; rw [if_neg h]
theorem ruN_upd_ne {D c b : Nat → Nat} {i x t j : Nat} (h : j ≠ i) : ruN D c (bset b i x) t j = ruN D c b t j := by
  unfold ruN
  rw [bset_ne h]
theorem ruN_upd_eq {D c b : Nat → Nat} {i x t : Nat} : ruN D c (bset b i x) t i = if x ≤ t ∧ t < x + D i then c i else 0 := by
  unfold ruN
  rw [bset_eq]
theorem ld_up {n : Nat} {D c b : Nat → Nat} {P : Nat → Bool} {i x : Nat} (hi : i < n) (h : P i = false) (t : Nat) : ldN n D c (upB P i) (bset b i x) t = flN (ldN n D c P b) x (D i) (c i) t := by
  have := sN_one (f := fun j => if upB P i j = true then ruN D c (bset b i x) t j else 0) (g := fun j => if P j = true then ruN D c b t j else 0) n hi (fun j _ hj => by
    show (if upB P i j = true then _ else _) = (if P j = true then _ else _)
    unfold upB
    rw [decide_eq_false hj, Bool.or_false, ruN_upd_ne hj])
  have e1 : (if upB P i i = true then ruN D c (bset b i x) t i else 0) = if x ≤ t ∧ t < x + D i then c i else 0 := by
    unfold upB
    rw [decide_eq_true rfl, Bool.or_true, if_pos rfl, ruN_upd_eq]
  have e2 : (if P i = true then ruN D c b t i else 0) = 0 := by rw [h]; rfl
  simp only [e1, e2] at this
  unfold ldN flN
  split at this <;> rename_i q
  · rw [if_pos q]; omega
  · rw [if_neg q]; omega
section
variable {n R : Nat} {e l D c : Nat → Nat}
theorem any_sound : ∀ (m : Nat) (P : Nat → Bool) (w b : Nat → Nat), anyS n R e l D c m P w = true → (∀ t, w t = ldN n D c P b t) → (∀ i, i < n → P i = true → e i ≤ b i ∧ b i + D i ≤ l i) → (∀ t, w t ≤ R) → cP P n + m = n → ∃ b', fea n R e l D c b'
  | 0, P, w, b, _, hw, hb, hR, hm => by
    refine ⟨b, fun i hi => hb i hi (cP_all (by omega) i hi), fun t => ?_⟩
    have h1 := hR t
    rw [hw t] at h1
    have : sN (ruN D c b t) n = ldN n D c P b t := sN_congr n (fun i hi => by rw [if_pos (cP_all (by omega) i hi)])
    omega
  | m + 1, P, w, b, h, hw, hb, hR, hm => by
    obtain ⟨i, x, -, h2, h3, h4, h5⟩ := lpS_true n 0 h
    obtain ⟨f1, f2, f3, -⟩ := efN_some h4
    have hi : i < n := by omega
    have hw' : w = ldN n D c P b := funext hw
    refine any_sound m (upB P i) (flN w x (D i) (c i)) (bset b i x) h5 (fun t => by rw [ld_up hi h3, hw']) (fun j hj hp => ?_) (fun t => ?_) (by rw [cP_up hi h3]; omega)
    · by_cases q : j = i
      · rw [q, bset_eq]; exact ⟨f1, f2⟩
      · rw [bset_ne q]
        refine hb j hj ?_
        unfold upB at hp
        rw [decide_eq_false q, Bool.or_false] at hp
        exact hp
    · unfold flN
      split <;> rename_i q
      · exact ftB_iff.mp f3 t q.1 q.2
      · exact hR t
def sB (b : Nat → Nat) (n : Nat) : Nat := sN b n
theorem ld_sub {b : Nat → Nat} {P : Nat → Bool} {i t : Nat} (hi : i < n) (h : P i = false) : ldN n D c P b t + ruN D c b t i ≤ sN (ruN D c b t) n := by
  have h1 := sN_one (f := fun j => if upB P i j = true then ruN D c b t j else 0) (g := fun j => if P j = true then ruN D c b t j else 0) n hi (fun j _ hj => by
    show (if upB P i j = true then _ else _) = (if P j = true then _ else _)
    unfold upB
    rw [decide_eq_false hj, Bool.or_false])
  have e1 : (if upB P i i = true then ruN D c b t i else 0) = ruN D c b t i := by
    unfold upB
    rw [decide_eq_true rfl, Bool.or_true, if_pos rfl]
  have e2 : (if P i = true then ruN D c b t i else 0) = 0 := by rw [h]; rfl
  simp only [e1, e2] at h1
  have h2 := sN_le (f := fun j => if upB P i j = true then ruN D c b t j else 0) (g := ruN D c b t) n (fun j _ => by split <;> omega)
  unfold ldN
  omega
theorem any_complete {b : Nat → Nat} (hf : fea n R e l D c b) (hmin : ∀ b', fea n R e l D c b' → sN b n ≤ sN b' n) : ∀ (m : Nat) (P : Nat → Bool), (∀ i j, i < n → j < n → P i = true → P j = false → b i ≤ b j) → cP P n + m = n → anyS n R e l D c m P (ldN n D c P b) = true
  | 0, _, _, _ => rfl
  | m + 1, P, hP, hm => by
    have fit : ∀ i, i < n → P i = false → ftB R (ldN n D c P b) (c i) (b i) (D i) = true := by
      intro i hi hp
      refine ftB_iff.mpr (fun t h1 h2 => ?_)
      have h3 := ld_sub (D := D) (c := c) (b := b) (t := t) hi hp
      have h4 := hf.2 t
      have h5 : ruN D c b t i = c i := by unfold ruN; rw [if_pos ⟨h1, h2⟩]
      omega
    obtain ⟨i, hi, hp, hlow⟩ := argmin (b := b) n (cP_lt (P := P) (n := n) (by omega))
    have hw := hf.1 i hi
    have he : efN R e l D c (ldN n D c P b) i = some (b i) := by
      refine efN_is hw.1 hw.2 (fit i hi hp) (fun x h1 h2 => ?_)
      cases hx : ftB R (ldN n D c P b) (c i) x (D i) with
      | false => rfl
      | true =>
        exfalso
        have hfx := ftB_iff.mp hx
        have hf' : fea n R e l D c (bset b i x) := by
          refine ⟨fun j hj => ?_, fun t => ?_⟩
          · by_cases q : j = i
            · rw [q, bset_eq]; omega
            · rw [bset_ne q]; exact hf.1 j hj
          · have key := sN_one (f := ruN D c (bset b i x) t) (g := ruN D c b t) n hi (fun j _ hj => ruN_upd_ne hj)
            rw [ruN_upd_eq] at key
            have hR := hf.2 t
            by_cases q : x ≤ t ∧ t < x + D i
            · rw [if_pos q] at key
              by_cases q2 : b i ≤ t
              · have : ruN D c b t i = c i := by unfold ruN; rw [if_pos ⟨q2, by omega⟩]
                omega
              · have h0 : ruN D c b t i = 0 := by unfold ruN; rw [if_neg (by omega)]
                have h3 : sN (ruN D c b t) n ≤ ldN n D c P b t := by
                  refine sN_le n (fun j hj => ?_)
                  cases hpj : P j with
                  | true => rw [if_pos rfl]; exact Nat.le_refl _
                  | false =>
                    have := hlow j hj hpj
                    have : ruN D c b t j = 0 := by unfold ruN; rw [if_neg (by omega)]
                    omega
                have := hfx t q.1 q.2
                omega
            · rw [if_neg q] at key
              omega
        have h1 := hmin _ hf'
        have h2 := sN_one (f := bset b i x) (g := b) n hi (fun j _ hj => bset_ne hj)
        rw [bset_eq] at h2
        omega
    have hb : bset b i (b i) = b := by
      funext j
      unfold bset
      split <;> rename_i q
      · rw [q]
      · rfl
    have hl : flN (ldN n D c P b) (b i) (D i) (c i) = ldN n D c (upB P i) b := by
      funext t
      rw [← ld_up hi hp, hb]
    have ih := any_complete hf hmin m (upB P i) (fun a j ha hj h1 h2 => by
      unfold upB at h1 h2
      simp only [Bool.or_eq_true, Bool.or_eq_false_iff, decide_eq_true_eq, decide_eq_false_iff_not] at h1 h2
      rcases h1 with h1 | h1
      · exact hP a j ha hj h1 h2.1
      · rw [h1]; exact hlow j hj h2.1) (by rw [cP_up hi hp]; omega)
    refine lpS_of hp he (by rw [hl]; exact ih) n 0 (Nat.zero_le _) (by omega) (fun a _ ha hpa => ?_)
    cases hq : efN R e l D c (ldN n D c P b) a with
    | some y => exact ⟨y, rfl⟩
    | none =>
      have h1 := hf.1 a (by omega)
      have := efN_none hq (b a) h1.1 h1.2
      rw [fit a (by omega) hpa] at this
      cases this
theorem fea_min : ∀ (s : Nat) (b : Nat → Nat), fea n R e l D c b → sN b n ≤ s → ∃ b', fea n R e l D c b' ∧ ∀ b'', fea n R e l D c b'' → sN b' n ≤ sN b'' n
  | 0, b, h, hs => ⟨b, h, fun b'' _ => by omega⟩
  | s + 1, b, h, hs => by
    by_cases q : ∃ b', fea n R e l D c b' ∧ sN b' n < sN b n
    · obtain ⟨b', h1, h2⟩ := q
      exact fea_min s b' h1 (by omega)
    · refine ⟨b, h, fun b'' h'' => ?_⟩
      by_cases z : sN b n ≤ sN b'' n
      · exact z
      · exact absurd ⟨b'', h'', by omega⟩ q
theorem any_iff : anyS n R e l D c n (fun _ => false) (fun _ => 0) = true ↔ ∃ b, fea n R e l D c b := by
  have c0 : cP (fun _ => false) n = 0 := by
    have h1 := sN_le (f := fun i => if (fun _ : Nat => false) i = true then 1 else 0) (g := fun _ => 0) n (fun _ _ => by simp)
    have h2 : ∀ k, sN (fun _ => 0) k = 0 := by
      intro k
      induction k with
      | zero => rfl
      | succ k ih => simp only [sN]; omega
    rw [h2] at h1
    unfold cP
    omega
  have l0 : ∀ b, ldN n D c (fun _ => false) b = fun _ => 0 := by
    intro b
    funext t
    have h2 : ∀ k, sN (fun i => if (fun _ : Nat => false) i = true then ruN D c b t i else 0) k = 0 := by
      intro k
      induction k with
      | zero => rfl
      | succ k ih => simp only [sN, ih]; rfl
    exact h2 n
  constructor
  · intro h
    exact any_sound n _ _ (fun _ => 0) h (fun t => by rw [l0]) (fun i _ h => by cases h) (fun _ => Nat.zero_le _) (by rw [c0]; omega)
  · rintro ⟨b, hb⟩
    obtain ⟨b', h1, h2⟩ := fea_min (sN b n) b hb (Nat.le_refl _)
    have := any_complete h1 h2 n (fun _ => false) (fun _ _ _ _ h => by cases h) (by rw [c0]; omega)
    rw [l0] at this
    exact this
end
