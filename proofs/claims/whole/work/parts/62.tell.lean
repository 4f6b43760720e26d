/-! ===== what a rule tells ===== -/
theorem mul_bd {a b : Int} {A B : Nat} (h1 : -(A : Int) ≤ a) (h2 : a ≤ A) (h3 : -(B : Int) ≤ b) (h4 : b ≤ B) : -((A * B : Nat) : Int) ≤ a * b ∧ a * b ≤ ((A * B : Nat) : Int) := by
  have h := Nat.mul_le_mul (show a.natAbs ≤ A by omega) (show b.natAbs ≤ B by omega)
  rw [← Int.natAbs_mul] at h
  omega
theorem zsmall {a : Int} (h1 : -1000000 ≤ a) (h2 : a ≤ 1000000) : zR a := zR_small h1 h2
theorem zl_le {α : Type} {a b : Int} (ha : zR a) (hb : zR b) {x y : α} : (if zI a ≤ zI b then x else y) = if a ≤ b then x else y := by
  by_cases h : a ≤ b
  · rw [if_pos h, if_pos ((zI_le ha hb).mpr h)]
  · rw [if_neg h, if_neg (fun q => h ((zI_le ha hb).mp q))]
theorem zl_lt {α : Type} {a b : Int} (ha : zR a) (hb : zR b) {x y : α} : (if zI a < zI b then x else y) = if a < b then x else y := by
  by_cases h : a < b
  · rw [if_pos h, if_pos ((zI_lt ha hb).mpr h)]
  · rw [if_neg h, if_neg (fun q => h ((zI_lt ha hb).mp q))]
theorem zl_eq {α : Type} {a b : Int} (ha : zR a) (hb : zR b) {x y : α} : (if zI a = zI b then x else y) = if a = b then x else y := by
  by_cases h : a = b
  · rw [if_pos h, if_pos ((zI_eq ha hb).mpr h)]
  · rw [if_neg h, if_neg (fun q => h ((zI_eq ha hb).mp q))]
def tl (v b : Int) (p : Int × Int) : Int × Int := if p.1 < v then (v, b) else p
def bP (p : Int × Int) : Prop := -100000 ≤ p.1 ∧ p.1 ≤ 100000
theorem tl_bd {v b : Int} {p : Int × Int} (hp : bP p) (h1 : -100000 ≤ v) (h2 : v ≤ 100000) : bP (tl v b p) := by
  unfold tl
  split
  · exact ⟨h1, h2⟩
  · exact hp
def tMX (μ : wd_Mem) (i : Nat) (p : Int × Int) : wd_Mem := mset (mset μ 19 i (zI p.1)) 20 i (zI p.2)
def tMM (μ : wd_Mem) (i : Nat) (p : Int × Int) : wd_Mem := mset (mset μ 42 i (zI p.1)) 43 i (zI p.2)
theorem mset_2 (μ : wd_Mem) {k l : Nat} (i : Nat) (a b c d : Int32) (h : k ≠ l) : mset (mset (mset (mset μ k i a) l i b) k i c) l i d = mset (mset μ k i c) l i d := by
  funext x y
  by_cases h1 : x = l ∧ y = i
  · simp [mset, h1]
  · by_cases h2 : x = k ∧ y = i
    · simp [mset, h1, h2]
    · simp [mset, h1, h2]
theorem mset_same (μ : wd_Mem) (k i : Nat) : mset μ k i (μ k i) = μ := by
  funext x y
  by_cases h1 : x = k ∧ y = i
  · simp [mset, h1]
  · simp [mset, h1]
theorem tMX_ne {μ : wd_Mem} {i : Nat} {p : Int × Int} {a : Nat} (h1 : a ≠ 19) (h2 : a ≠ 20) : tMX μ i p a = μ a := by
  unfold tMX
  rw [mset_ne h2, mset_ne h1]
theorem tMM_ne {μ : wd_Mem} {i : Nat} {p : Int × Int} {a : Nat} (h1 : a ≠ 42) (h2 : a ≠ 43) : tMM μ i p a = μ a := by
  unfold tMM
  rw [mset_ne h2, mset_ne h1]
theorem tellX {μ : wd_Mem} {i : Nat} (hi : i < 5) {p : Int × Int} {v b : Int} (hp : bP p) (h1 : -100000 ≤ v) (h2 : v ≤ 100000) : X1_tell (tMX μ i p) (zI i) (zI v) (zI b) = some (tMX μ i (tl v b p)) := by
  obtain ⟨q1, q2⟩ := hp
  unfold X1_tell X1_tell_b0
  have e : tMX μ i p 19 i = zI p.1 := by unfold tMX; rw [mset_h _ _ _ _ (by decide), mset_eq]
  rw [wd_chk_in (by omega) (by omega) (by omega), zI_clN (by omega), e, zl_le (zR_small (by omega) (by omega)) (zR_small (by omega) (by omega))]
  unfold tl
  by_cases h : p.1 < v
  · rw [if_neg (by omega), if_pos h]
    unfold tMX
    rw [mset_2 _ _ _ _ _ _ (by decide)]
  · rw [if_pos (by omega), if_neg h]
theorem tellM {μ : wd_Mem} {i : Nat} (hi : i < 5) {p : Int × Int} {v b : Int} (hp : bP p) (h1 : -100000 ≤ v) (h2 : v ≤ 100000) : X8_tells (tMM μ i p) (zI i) (zI v) (zI b) = some (tMM μ i (tl v b p)) := by
  obtain ⟨q1, q2⟩ := hp
  unfold X8_tells X8_tells_b0
  have e : tMM μ i p 42 i = zI p.1 := by unfold tMM; rw [mset_h _ _ _ _ (by decide), mset_eq]
  rw [wd_chk_in (by omega) (by omega) (by omega), zI_clN (by omega), e, zl_le (zR_small (by omega) (by omega)) (zR_small (by omega) (by omega))]
  unfold tl
  by_cases h : p.1 < v
  · rw [if_neg (by omega), if_pos h]
    unfold tMM
    rw [mset_2 _ _ _ _ _ _ (by decide)]
  · rw [if_pos (by omega), if_neg h]
/-- a body that tells, again and again -/
def foF (b : Nat → Int × Int → Int × Int) : Nat → Int × Int → Int × Int
  | 0, p => p
  | k + 1, p => b k (foF b k p)
theorem foF_bd {b : Nat → Int × Int → Int × Int} (h : ∀ k p, bP p → bP (b k p)) {p : Int × Int} (hp : bP p) : ∀ k, bP (foF b k p)
  | 0 => hp
  | k + 1 => h k _ (foF_bd h hp k)
def ptF (h : Nat → Int × Int → Int × Int) (S : Nat) : Nat → Nat → Int × Int → Int × Int
  | 0, _, p => p
  | q + 1, T, p => if T = 0 then p else ptF h S q ((T - 1) &&& S) (h T p)
theorem ptF_bd {h : Nat → Int × Int → Int × Int} (hh : ∀ T p, bP p → bP (h T p)) {S : Nat} : ∀ (q T : Nat) (p : Int × Int), bP p → bP (ptF h S q T p)
  | 0, _, _, hp => hp
  | q + 1, T, p, hp => by
    simp only [ptF]
    split
    · exact hp
    · exact ptF_bd hh q _ _ (hh T p hp)
/-- what is told doesn't hang on the cause that stood there -/
def inR (b : Int × Int → Int × Int) : Prop := ∀ t c c', (b (t, c)).1 = (b (t, c')).1 ∧ t ≤ (b (t, c)).1 ∧ (t < (b (t, c)).1 → (b (t, c)).2 = (b (t, c')).2) ∧ ((b (t, c)).1 = t → (b (t, c)).2 = c)
theorem inR_id : inR (fun p => p) := fun t c c' => ⟨rfl, Int.le_refl _, fun h => absurd h (Int.lt_irrefl _), fun _ => rfl⟩
theorem inR_tl (v b : Int) : inR (tl v b) := by
  intro t c c'
  unfold tl
  by_cases h : t < v
  · rw [if_pos h, if_pos h]
    exact ⟨rfl, by show t ≤ v; omega, fun _ => rfl, fun q => by have q : v = t := q; omega⟩
  · rw [if_neg h, if_neg h]
    exact ⟨rfl, Int.le_refl _, fun q => absurd q (Int.lt_irrefl _), fun _ => rfl⟩
theorem inR_comp {f g : Int × Int → Int × Int} (hf : inR f) (hg : inR g) : inR (fun p => g (f p)) := by
  intro t c c'
  obtain ⟨a1, a2, a3, a4⟩ := hf t c c'
  obtain ⟨-, -, -, a4'⟩ := hf t c' c
  show (g (f (t, c))).1 = (g (f (t, c'))).1 ∧ t ≤ (g (f (t, c))).1 ∧ (t < (g (f (t, c))).1 → (g (f (t, c))).2 = (g (f (t, c'))).2) ∧ ((g (f (t, c))).1 = t → (g (f (t, c))).2 = c)
  rcases hu : f (t, c) with ⟨u, d⟩
  rcases hu' : f (t, c') with ⟨u', d'⟩
  rw [hu] at a1 a2 a3 a4
  rw [hu'] at a1 a3 a4'
  have a1 : u = u' := a1
  subst a1
  have a2 : t ≤ u := a2
  obtain ⟨b1, b2, b3, b4⟩ := hg u d d'
  obtain ⟨-, -, -, b4'⟩ := hg u d' d
  refine ⟨b1, by omega, fun h => ?_, fun h => ?_⟩
  · by_cases q : u < (g (u, d)).1
    · exact b3 q
    · have e1 : (g (u, d)).1 = u := by omega
      rw [b4 e1, b4' (by rw [← b1]; exact e1)]
      exact a3 (by show t < u; omega)
  · have e0 : u = t := by omega
    rw [b4 (by omega)]
    exact a4 e0
theorem inR_foF {b : Nat → Int × Int → Int × Int} (h : ∀ k, inR (b k)) : ∀ k, inR (foF b k)
  | 0 => inR_id
  | k + 1 => inR_comp (f := foF b k) (g := b k) (inR_foF h k) (h k)
theorem inR_ptF {h : Nat → Int × Int → Int × Int} (hh : ∀ T, inR (h T)) {S : Nat} : ∀ (q T : Nat), inR (ptF h S q T)
  | 0, _ => inR_id
  | q + 1, T => by
    by_cases h0 : T = 0
    · have : ptF h S (q + 1) T = fun p => p := by funext p; simp only [ptF]; rw [if_pos h0]
      rw [this]; exact inR_id
    · have : ptF h S (q + 1) T = fun p => ptF h S q ((T - 1) &&& S) (h T p) := by funext p; simp only [ptF]; rw [if_neg h0]
      rw [this]; exact inR_comp (hh T) (inR_ptF hh q _)
theorem inR_ite {c : Prop} [Decidable c] {f g : Int × Int → Int × Int} (hf : inR f) (hg : inR g) : inR (fun p => if c then f p else g p) := by
  by_cases h : c
  · simp only [h, if_true]; exact hf
  · simp only [h, if_false]; exact hg
/-! sights and sets -/
def sgx (s : wd_Mem) (n : Nat) (R : Int) (e l D C : Nat → Int) : Prop := s 3 1 = zI n ∧ s 3 0 = zI R ∧ (∀ i, i < n → s 4 i = zI (D i) ∧ s 5 i = zI (C i)) ∧ sgt s n e l D C
theorem sgx_congr {s t : wd_Mem} {n : Nat} {R : Int} {e l D C : Nat → Int} (f : ∀ a, ((3 ≤ a ∧ a ≤ 5) ∨ (10 ≤ a ∧ a ≤ 17)) → t a = s a) (h : sgx s n R e l D C) : sgx t n R e l D C := by
  unfold sgx sgt at *
  rw [f 3 (by omega), f 4 (by omega), f 5 (by omega), f 10 (by omega), f 11 (by omega), f 12 (by omega), f 13 (by omega), f 14 (by omega), f 15 (by omega), f 16 (by omega), f 17 (by omega)]
  exact h
theorem sgx_t {s : wd_Mem} {n i : Nat} {p : Int × Int} {R : Int} {e l D C : Nat → Int} (h : sgx s n R e l D C) : sgx (tMX s i p) n R e l D C := sgx_congr (fun a ha => tMX_ne (by omega) (by omega)) h
theorem datV_t {s : wd_Mem} {n i : Nat} {p : Int × Int} {R : Int} {e l D C : Nat → Int} (h : datV s n R e l D C) : datV (tMM s i p) n R e l D C := by
  unfold datV at *
  rw [tMM_ne (by decide) (by decide), tMM_ne (by decide) (by decide), tMM_ne (by decide) (by decide), tMM_ne (by decide) (by decide), tMM_ne (by decide) (by decide)]
  exact h
def sEa (e : Nat → Int) (n S : Nat) : Int := mnF e 99 n S
def sLa (l : Nat → Int) (n S : Nat) : Int := mxF l 0 n S
def sDo (e D : Nat → Int) (n S : Nat) : Int := mnF (fun j => e j + D j) 99 n S
def sEn (D C : Nat → Int) (n S : Nat) : Int := smF (enF D C) n S
theorem enF_bd {n : Nat} {R : Int} {e l D C : Nat → Int} (hb : bnd n R e l D C) (j : Nat) (hj : j < n) : 0 ≤ enF D C j ∧ enF D C j ≤ 81 := by
  have y := hb.2.2.2 j hj
  unfold enF
  exact ⟨Int.mul_nonneg (by omega) (by omega), by have := mul_bd (a := D j) (b := C j) (A := 9) (B := 9) (by omega) (by omega) (by omega) (by omega); omega⟩
theorem set_bd {n : Nat} {R : Int} {e l D C : Nat → Int} (hb : bnd n R e l D C) (S : Nat) : 0 ≤ sEa e n S ∧ sEa e n S ≤ 99 ∧ 0 ≤ sLa l n S ∧ sLa l n S ≤ 16 ∧ 0 ≤ sDo e D n S ∧ sDo e D n S ≤ 99 ∧ 0 ≤ sEn D C n S ∧ sEn D C n S ≤ 405 := by
  have d1 := mnF_bd (e := e) (b := 99) (lo := 0) (by omega) (S := S) n (fun j hj => (hb.2.2.2 j hj).1)
  have d2 := mxF_bd (e := l) (b := 0) (hi := 16) (by omega) (S := S) n (fun j hj => (hb.2.2.2 j hj).2.2.2.1)
  have d3 := mnF_bd (e := fun j => e j + D j) (b := 99) (lo := 0) (by omega) (S := S) n (fun j hj => by have := hb.2.2.2 j hj; show 0 ≤ e j + D j; omega)
  have d4 := smF_bd (e := enF D C) (m := 81) (S := S) n (enF_bd hb)
  have := hb.1
  exact ⟨d1.1, d1.2, d2.1, d2.2, d3.1, d3.2, d4.1, by unfold sEn; omega⟩
theorem mxF_base {e : Nat → Int} {b b' : Int} {S : Nat} : ∀ k, (∀ j, j < k → b ≤ e j ∧ b' ≤ e j) → (∃ j, j < k ∧ S.testBit j = true) → mxF e b k S = mxF e b' k S
  | 0, _, h => by obtain ⟨j, hj, -⟩ := h; omega
  | k + 1, hB, h => by
    have hk := hB k (by omega)
    by_cases ex : ∃ j, j < k ∧ S.testBit j = true
    · have ih := mxF_base (e := e) (b := b) (b' := b') (S := S) k (fun j hj => hB j (by omega)) ex
      simp only [mxF, ih]
    · obtain ⟨j, hj, hb⟩ := h
      have hjk : j = k := by
        rcases Nat.lt_or_ge j k with q | q
        · exact absurd ⟨j, q, hb⟩ ex
        · omega
      subst hjk
      have none1 : ∀ c : Int, mxF e c j S = c := fun c => by
        have := mxF_congr (e := e) (b := c) (S := S) (T := 0) j (fun i hi => by
          rw [Nat.zero_testBit]
          cases hS : S.testBit i with
          | false => rfl
          | true => exact absurd ⟨i, hi, hS⟩ ex)
        rw [this, mxF_none]
      simp only [mxF, hb, if_true, none1]
      omega
theorem sgx_set {s : wd_Mem} {n S : Nat} {R : Int} {e l D C : Nat → Int} (hb : bnd n R e l D C) (hs : sgx s n R e l D C) (h0 : 0 < S) (hS : S < 2 ^ n) : s 14 S = zI (sEa e n S) ∧ s 15 S = zI (sLa l n S) ∧ s 16 S = zI (sDo e D n S) ∧ s 17 S = zI (sEn D C n S) := by
  have ex := n_ex' hb.1 hS h0
  obtain ⟨a1, a2, a3, a4⟩ := hs.2.2.2.2 S hS
  rw [a1, a2, a3, a4]
  unfold sEa sLa sDo sEn
  rw [mnF_base (b := 1000) (b' := 99) n (fun j hj => by have := hb.2.2.2 j hj; omega) ex, mxF_base (b := -1000) (b' := 0) n (fun j hj => by have := hb.2.2.2 j hj; omega) ex, mnF_base (e := fun j => e j + D j) (b := 1000) (b' := 99) n (fun j hj => by have := hb.2.2.2 j hj; show e j + D j ≤ 1000 ∧ e j + D j ≤ 99; omega) ex]
  exact ⟨rfl, rfl, rfl, rfl⟩
theorem bnd_V {n : Nat} {R : Int} {e l D C : Nat → Int} (hb : bnd n R e l D C) : bdV n e l D C := fun i hi => by
  have := hb.2.2.2 i hi
  omega
theorem earM {ρ : wd_Mem} {n S : Nat} {R : Int} {e l D C : Nat → Int} (hb : bnd n R e l D C) (hv : datV ρ n R e l D C) (hS : S < 32) : X8_setEarly ρ (zI S) = some (zI (sEa e n S)) := setEarlyM hb.1 (bnd_V hb) hv hS
theorem eneM {ρ : wd_Mem} {n S : Nat} {R : Int} {e l D C : Nat → Int} (hb : bnd n R e l D C) (hv : datV ρ n R e l D C) (hS : S < 32) : X8_energy ρ (zI S) = some (zI (sEn D C n S)) := energyM hb.1 hv hS
theorem latM {ρ : wd_Mem} {n S : Nat} {R : Int} {e l D C : Nat → Int} (hb : bnd n R e l D C) (hv : datV ρ n R e l D C) (hS : S < 32) : X8_setLate ρ (zI S) = some (zI (sLa l n S)) := by
  have hn := hb.1
  have key := wd_forF (fun q i x => X8_setLate_l4 (fun x2 => X8_setLate_b47 ρ x2) ρ (zI S) q x (zI (i : Nat))) (fun x => some x) (fun i => zI (mxF l 0 i S)) n (by omega) (fun i q hi => by
    show X8_setLate_c4 _ _ ρ (zI S) (zI (mxF l 0 i S)) (zI i) = _
    have y := hb.2.2.2 i hi
    have d1 := mxF_bd (e := l) (b := 0) (hi := 16) (by omega) (S := S) i (fun j hj => (hb.2.2.2 j (by omega)).2.2.2.1)
    have e1 : zI (i : Int) + (1 : Int32) = zI ((i + 1 : Nat) : Int) := by rw [z_1, zI_add]; rfl
    unfold X8_setLate_c4 X8_setLate_b39 X8_setLate_b40
    rw [hv.1, if_neg (by rw [zI_le (zR_small (by omega) (by omega)) (zR_small (by omega) (by omega))]; omega), wd_chk_in (by omega) (by omega) (by omega), zI_clN (by omega), (hv.2.2 i hi).2.1, e1]
    simp only [hasM_0 ρ hS (show i < 5 by omega), mxF]
    by_cases hbit : S.testBit i = true
    · rw [if_neg (by rw [hbit]; decide), if_pos hbit]
      by_cases hle : l i ≤ mxF l 0 i S
      · rw [if_pos (by rw [zI_le (zR_small (by omega) (by omega)) (zR_small (by omega) (by omega))]; exact hle), show max (mxF l 0 i S) (l i) = mxF l 0 i S by omega]
      · rw [if_neg (by rw [zI_le (zR_small (by omega) (by omega)) (zR_small (by omega) (by omega))]; exact hle), show max (mxF l 0 i S) (l i) = l i by omega]
    · rw [if_pos (by simpa using hbit), if_neg hbit]) (fun q => by
    show X8_setLate_c4 _ _ ρ (zI S) (zI (mxF l 0 n S)) (zI n) = _
    unfold X8_setLate_c4 X8_setLate_b47
    rw [hv.1, if_pos (Int32.le_refl _)])
  unfold X8_setLate X8_setLate_b0
  rw [z_0]
  exact key
theorem donM {ρ : wd_Mem} {n S : Nat} {R : Int} {e l D C : Nat → Int} (hb : bnd n R e l D C) (hv : datV ρ n R e l D C) (hS : S < 32) : X8_setDone ρ (zI S) = some (zI (sDo e D n S)) := by
  have hn := hb.1
  have key := wd_forF (fun q i x => X8_setDone_l5 (fun x2 => X8_setDone_b46 ρ x2) ρ (zI S) q x (zI (i : Nat))) (fun x => some x) (fun i => zI (mnF (fun j => e j + D j) 99 i S)) n (by omega) (fun i q hi => by
    show X8_setDone_c5 _ _ ρ (zI S) (zI (mnF (fun j => e j + D j) 99 i S)) (zI i) = _
    have y := hb.2.2.2 i hi
    have d1 := mnF_bd (e := fun j => e j + D j) (b := 99) (lo := 0) (by omega) (S := S) i (fun j hj => by have := hb.2.2.2 j (by omega); show 0 ≤ e j + D j; omega)
    have e1 : zI (i : Int) + (1 : Int32) = zI ((i + 1 : Nat) : Int) := by rw [z_1, zI_add]; rfl
    unfold X8_setDone_c5 X8_setDone_b38 X8_setDone_b39
    rw [hv.1, if_neg (by rw [zI_le (zR_small (by omega) (by omega)) (zR_small (by omega) (by omega))]; omega), doneM hn hv hi, e1]
    simp only [hasM_0 ρ hS (show i < 5 by omega), mnF, Option.bind_some]
    by_cases hbit : S.testBit i = true
    · rw [if_neg (by rw [hbit]; decide), if_pos hbit]
      by_cases hle : mnF (fun j => e j + D j) 99 i S ≤ e i + D i
      · rw [if_pos (by rw [zI_le (zR_small (by omega) (by omega)) (zR_small (by omega) (by omega))]; exact hle), show min (mnF (fun j => e j + D j) 99 i S) (e i + D i) = mnF (fun j => e j + D j) 99 i S by omega]
      · rw [if_neg (by rw [zI_le (zR_small (by omega) (by omega)) (zR_small (by omega) (by omega))]; exact hle), show min (mnF (fun j => e j + D j) 99 i S) (e i + D i) = e i + D i by omega]
    · rw [if_pos (by simpa using hbit), if_neg hbit]) (fun q => by
    show X8_setDone_c5 _ _ ρ (zI S) (zI (mnF (fun j => e j + D j) 99 n S)) (zI n) = _
    unfold X8_setDone_c5 X8_setDone_b46
    rw [hv.1, if_pos (Int32.le_refl _)])
  unfold X8_setDone X8_setDone_b0
  rw [z_0, z_99]
  exact key
