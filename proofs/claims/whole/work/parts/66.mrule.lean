/-! ===== MUST ===== -/
def shB (n : Nat) (R : Int) (e l D C : Nat → Int) (i : Nat) (t : Int) : Bool := decide (R < sumF (mustT e l D C t i) n + C i)
def gdB (n : Nat) (R : Int) (e l D C : Nat → Int) (i : Nat) (x : Int) : Bool := !anyF (fun k => shB n R e l D C i (x + (k : Int))) 0 (D i).toNat
theorem gdB_iff {n : Nat} {R : Int} {e l D C : Nat → Int} {i : Nat} {x : Int} : gdB n R e l D C i x = true ↔ ∀ t, x ≤ t → t < x + D i → shB n R e l D C i t = false := by
  unfold gdB
  constructor
  · intro h t h1 h2
    cases hs : shB n R e l D C i t with
    | false => rfl
    | true =>
      have : anyF (fun k => shB n R e l D C i (x + (k : Int))) 0 (D i).toNat = true := (anyF_iff _ _ _).mpr ⟨(t - x).toNat, by omega, by omega, by
        show shB n R e l D C i (x + ((t - x).toNat : Int)) = true
        rw [show x + ((t - x).toNat : Int) = t by omega]; exact hs⟩
      rw [this] at h
      cases h
  · intro h
    cases ha : anyF (fun k => shB n R e l D C i (x + (k : Int))) 0 (D i).toNat with
    | false => rfl
    | true =>
      obtain ⟨j, h1, h2, h3⟩ := (anyF_iff _ _ _).mp ha
      have h3 : shB n R e l D C i (x + (j : Int)) = true := h3
      rw [h (x + (j : Int)) (by omega) (by omega)] at h3
      cases h3
def isV (g : Int → Bool) (e s v : Int) : Prop := (e ≤ v ∧ v ≤ s ∧ g v = true ∧ ∀ x, e ≤ x → x < v → g x = false) ∨ (v = s + 1 ∧ ∀ x, e ≤ x → x ≤ s → g x = false)
theorem isV_one {g : Int → Bool} {e s v w : Int} (h : isV g e s v) (k : isV g e s w) : v = w := by
  rcases h with ⟨a1, a2, a3, a4⟩ | ⟨a1, a2⟩
  · rcases k with ⟨b1, b2, b3, b4⟩ | ⟨b1, b2⟩
    · rcases Int.lt_trichotomy v w with q | q | q
      · rw [b4 v a1 q] at a3; cases a3
      · exact q
      · rw [a4 w b1 q] at b3; cases b3
    · rw [b2 v a1 a2] at a3; cases a3
  · rcases k with ⟨b1, b2, b3, b4⟩ | ⟨b1, b2⟩
    · rw [a2 w b1 b2] at b3; cases b3
    · omega
def muF (g : Int → Bool) : Nat → Int → Option Int
  | 0, _ => none
  | m + 1, x => if g x = true then some x else muF g m (x + 1)
theorem muF_is {g : Int → Bool} {s : Int} : ∀ (m : Nat) (x : Int), x + m = s + 1 → isV g x s ((muF g m x).getD (s + 1))
  | 0, x, h => Or.inr ⟨rfl, fun y h1 h2 => by omega⟩
  | m + 1, x, h => by
    simp only [muF]
    by_cases hg : g x = true
    · rw [if_pos hg]
      exact Or.inl ⟨by show x ≤ x; omega, by show x ≤ s; omega, hg, fun y h1 h2 => by have h2 : y < x := h2; omega⟩
    · rw [if_neg hg]
      have hf : g x = false := by simpa using hg
      rcases muF_is (g := g) (s := s) m (x + 1) (by omega) with ⟨a1, a2, a3, a4⟩ | ⟨a1, a2⟩
      · refine Or.inl ⟨by omega, a2, a3, fun y h1 h2 => ?_⟩
        by_cases q : y = x
        · rw [q]; exact hf
        · exact a4 y (by omega) h2
      · refine Or.inr ⟨a1, fun y h1 h2 => ?_⟩
        by_cases q : y = x
        · rw [q]; exact hf
        · exact a2 y (by omega) h2
theorem muF_some {g : Int → Bool} : ∀ (m : Nat) (x v : Int), muF g m x = some v → x ≤ v ∧ v < x + m
  | 0, x, v, h => by cases h
  | m + 1, x, v, h => by
    simp only [muF] at h
    by_cases hg : g x = true
    · rw [if_pos hg] at h
      cases h
      omega
    · rw [if_neg hg] at h
      have := muF_some m (x + 1) v h
      omega
def muO (n : Nat) (R : Int) (e l D C : Nat → Int) (i : Nat) : Option Int := muF (gdB n R e l D C i) (l i - D i + 1 - e i).toNat (e i)
theorem mB {n : Nat} {R : Int} {e l D C : Nat → Int} (hb : bnd n R e l D C) : ∀ i, i < n → -100 ≤ e i ∧ e i ≤ 100 ∧ -100 ≤ l i ∧ l i ≤ 100 ∧ 0 ≤ D i ∧ D i ≤ 9 ∧ 0 ≤ C i ∧ C i ≤ 9 := bnd_V hb
theorem mS_bd {n : Nat} {R : Int} {e l D C : Nat → Int} {t b : Int} (hb : bnd n R e l D C) {k : Nat} (hk : k ≤ n) : 0 ≤ sumF (mustT e l D C t b) k ∧ sumF (mustT e l D C t b) k ≤ 45 := by
  have hn := hb.1
  have h := sumF_bd (f := mustT e l D C t b) (m := 9) k (fun j hj => by
    have y := hb.2.2.2 j (by omega)
    unfold mustT
    split <;> omega)
  omega
theorem musXl {s : wd_Mem} {n i : Nat} {R : Int} {e l D C : Nat → Int} {p : Int × Int} (hb : bnd n R e l D C) (hs : sgx s n R e l D C) (hi : i < n) (hp : bP p) : ∀ (m q : Nat) (o t : Int), t + m = l i → m < q → 0 ≤ o → o < D i → e i ≤ t - o → (∀ x, t - o ≤ x → x < t → shB n R e l D C i x = false) → (∀ x, e i ≤ x → x < t - o → gdB n R e l D C i x = false) → ∃ v, isV (gdB n R e l D C i) (e i) (l i - D i) v ∧ X1_byMust_l12 (X1_byMust_b105 (tMX s i p) (zI i)) (tMX s i p) (zI i) q (zI o) (zI t) = some (tMX s i (tl v 0 p)) := by
  have hn := hb.1
  have y := hb.2.2.2 i hi
  have hs' : sgx (tMX s i p) n R e l D C := sgx_t hs
  obtain ⟨f1, f2, f3, f4⟩ := hs'.2.2.2.1 i hi
  obtain ⟨c4, c5⟩ := hs'.2.2.1 i hi
  intro m
  induction m with
  | zero =>
    intro q o t ht hq h1 h2 h3 h4 h5
    obtain ⟨q, rfl⟩ : ∃ a, q = a + 1 := ⟨q - 1, by omega⟩
    refine ⟨l i - D i + 1, Or.inr ⟨rfl, fun x h6 h7 => h5 x h6 (by omega)⟩, ?_⟩
    show X1_byMust_c12 _ _ (tMX s i p) (zI i) (zI o) (zI t) = _
    unfold X1_byMust_c12 X1_byMust_b105
    rw [wd_chk_in (by omega) (by omega) (by omega), wd_chk_in (by omega) (by omega) (by omega), zI_clN (by omega), f2, f4, zl_le (zR_small (by omega) (by omega)) (zR_small (by omega) (by omega)), if_pos (by omega), z_1, zI_add, z_0, tellX (by omega) hp (by omega) (by omega)]
    rfl
  | succ m ih =>
    intro q o t ht hq h1 h2 h3 h4 h5
    obtain ⟨q, rfl⟩ : ∃ a, q = a + 1 := ⟨q - 1, by omega⟩
    have su := surelyX (ν := tMX s i p) (t := t) (b := (i : Int)) hn (mB hb) (by omega) (by omega) hs'.1 (fun j hj => (hs'.2.2.1 j hj).2) hs'.2.2.2
    have bs := mS_bd (t := t) (b := (i : Int)) hb (Nat.le_refl n)
    have hR1 := hb.2.1
    have hR2 := hb.2.2.1
    have step : X1_byMust_l12 (X1_byMust_b105 (tMX s i p) (zI i)) (tMX s i p) (zI i) (q + 1) (zI o) (zI t) = if shB n R e l D C i t = true then X1_byMust_l12 (X1_byMust_b105 (tMX s i p) (zI i)) (tMX s i p) (zI i) q (zI 0) (zI (t + 1)) else if o + 1 = D i then some (tMX s i (tl (t - o) 0 p)) else X1_byMust_l12 (X1_byMust_b105 (tMX s i p) (zI i)) (tMX s i p) (zI i) q (zI (o + 1)) (zI (t + 1)) := by
      show X1_byMust_c12 _ _ (tMX s i p) (zI i) (zI o) (zI t) = _
      unfold X1_byMust_c12 X1_byMust_b59 X1_byMust_b73
      have hin : wd_in (zI (i : Int)) 5 = true := zI_in (by omega) (by omega) (by omega)
      rw [su]
      simp only [Option.bind_some, wd_chk_t hin, if_true, zI_clN (show i < 2147483648 by omega)]
      rw [f2, zl_le (zR_small (by omega) (by omega)) (zR_small (by omega) (by omega)), if_neg (by omega)]
      rw [if_neg (by decide : ¬ (1 : Int32) = 0), c4, c5, hs'.2.1, z_0, z_1, zI_add, zI_add, zI_add, zl_le (zR_small (by omega) (by omega)) (zR_small (by omega) (by omega)), zl_eq (zR_small (by omega) (by omega)) (zR_small (by omega) (by omega)), zl_eq (zR_small (by omega) (by omega)) (zR_small (by omega) (by omega)), if_neg (show ¬ (0 : Int) = D i by omega), zI_sub, tellX (by omega) hp (by omega) (by omega), show t + 1 - (o + 1) = t - o by omega]
      unfold shB
      simp only [decide_eq_true_eq, Option.bind_some]
      by_cases hc : R < sumF (mustT e l D C t i) n + C i
      · rw [if_neg (by omega), if_pos hc]
      · rw [if_pos (by omega), if_neg hc]
    rw [step]
    by_cases hsh : shB n R e l D C i t = true
    · rw [if_pos hsh]
      refine ih q 0 (t + 1) (by omega) (by omega) (by omega) (by omega) (by omega) (fun x h6 h7 => by omega) (fun x h6 h7 => ?_)
      by_cases hx : x < t - o
      · exact h5 x h6 hx
      · cases hg : gdB n R e l D C i x with
        | false => rfl
        | true =>
          rw [gdB_iff.mp hg t (by omega) (by omega)] at hsh
          cases hsh
    · rw [if_neg hsh]
      have hf : shB n R e l D C i t = false := by simpa using hsh
      by_cases ho : o + 1 = D i
      · rw [if_pos ho]
        refine ⟨t - o, Or.inl ⟨h3, by omega, gdB_iff.mpr (fun x h6 h7 => ?_), h5⟩, rfl⟩
        by_cases hx : x = t
        · rw [hx]; exact hf
        · exact h4 x h6 (by omega)
      · rw [if_neg ho]
        refine ih q (o + 1) (t + 1) (by omega) (by omega) (by omega) (by omega) (by omega) (fun x h6 h7 => ?_) (fun x h6 h7 => h5 x h6 (by omega))
        by_cases hx : x = t
        · rw [hx]; exact hf
        · exact h4 x (by omega) (by omega)
theorem mustX {s : wd_Mem} {n i : Nat} {R : Int} {e l D C : Nat → Int} {p : Int × Int} (hb : bnd n R e l D C) (hs : sgx s n R e l D C) (hi : i < n) (hp : bP p) (hw : e i + D i ≤ l i) : X1_byMust (tMX s i p) (zI i) = some (tMX s i (tl ((muO n R e l D C i).getD (l i - D i + 1)) 0 p)) := by
  have hn := hb.1
  have y := hb.2.2.2 i hi
  have hs' : sgx (tMX s i p) n R e l D C := sgx_t hs
  obtain ⟨v, h1, h2⟩ := musXl hb hs hi hp (l i - e i).toNat wd_big 0 (e i) (by omega) (by unfold wd_big; omega) (by omega) (by omega) (by omega) (fun x h6 h7 => by omega) (fun x h6 h7 => by omega)
  have h3 := muF_is (g := gdB n R e l D C i) (s := l i - D i) (l i - D i + 1 - e i).toNat (e i) (by omega)
  have h4 := isV_one h1 h3
  unfold X1_byMust X1_byMust_b0
  rw [wd_chk_in (by omega) (by omega) (by omega), zI_clN (by omega), (hs'.2.2.2.1 i hi).1, z_0, h2, h4]
  rfl
theorem shutM {s : wd_Mem} {n i : Nat} {R : Int} {e l D C : Nat → Int} {t : Int} (hb : bnd n R e l D C) (hs : datV s n R e l D C) (hi : i < n) (ht : -100 ≤ t ∧ t ≤ 100) : X8_isShut s (zI i) (zI t) = some (bI (shB n R e l D C i t)) := by
  have hn := hb.1
  have y := hb.2.2.2 i hi
  have key := wd_forF (fun q j x => X8_isShut_l10 (fun x3 => X8_isShut_b65 s x3) s (zI i) (zI t) q x (zI (j : Nat))) (fun x => X8_isShut_b65 s x) (fun j => zI (C i + sumF (mustT e l D C t i) j)) n (by omega) (fun j q hj => by
    show X8_isShut_c10 _ _ s (zI i) (zI t) (zI (C i + sumF (mustT e l D C t i) j)) (zI j) = _
    have yj := hb.2.2.2 j hj
    have e1 : zI (j : Int) + (1 : Int32) = zI ((j + 1 : Nat) : Int) := by rw [z_1, zI_add]; rfl
    unfold X8_isShut_c10 X8_isShut_b56 X8_isShut_b57
    rw [hs.1, if_neg (by rw [zI_le (zR_small (by omega) (by omega)) (zR_small (by omega) (by omega))]; omega), e1, zl_eq (zR_small (by omega) (by omega)) (zR_small (by omega) (by omega)), startM hn hs hj, doneM hn hs hj]
    simp only [Option.bind_some]
    rw [zl_lt (zR_small (by omega) (by omega)) (zR_small (by omega) (by omega)), zl_le (zR_small (by omega) (by omega)) (zR_small (by omega) (by omega)), wd_chk_in (by omega) (by omega) (by omega), zI_clN (by omega), (hs.2.2 j hj).2.2.2, z_0, zI_add, zI_add, Int.add_zero]
    simp only [sumF, ← Int.add_assoc]
    unfold mustT
    by_cases h1 : (j : Int) = i
    · rw [if_pos h1, if_pos (Or.inl h1), Int.add_zero]
    · by_cases h2 : t < l j - D j
      · rw [if_neg h1, if_pos h2, if_pos (Or.inr (Or.inl h2)), Int.add_zero]
      · by_cases h3 : e j + D j ≤ t
        · rw [if_neg h1, if_neg h2, if_pos h3, if_pos (Or.inr (Or.inr h3)), Int.add_zero]
        · rw [if_neg h1, if_neg h2, if_neg h3, if_neg (by omega)]) (fun q => by
    show X8_isShut_c10 _ _ s (zI i) (zI t) _ (zI n) = _
    unfold X8_isShut_c10
    rw [hs.1, if_pos (Int32.le_refl _)])
  have bs := mS_bd (t := t) (b := (i : Int)) hb (Nat.le_refl n)
  have hR1 := hb.2.1
  have hR2 := hb.2.2.1
  have e0 : C i + sumF (mustT e l D C t i) 0 = C i := by simp [sumF]
  rw [e0] at key
  unfold X8_isShut X8_isShut_b0
  rw [wd_chk_in (by omega) (by omega) (by omega), zI_clN (by omega), (hs.2.2 i hi).2.2.2, z_0]
  refine Eq.trans key ?_
  unfold X8_isShut_b65
  rw [hs.2.1, zl_le (zR_small (by omega) (by omega)) (zR_small (by omega) (by omega))]
  unfold shB bI
  simp only [decide_eq_true_eq]
  by_cases hc : R < sumF (mustT e l D C t i) n + C i
  · rw [if_neg (by omega), if_pos hc]
  · rw [if_pos (by omega), if_neg hc]
theorem openM {s : wd_Mem} {n i : Nat} {R : Int} {e l D C : Nat → Int} {x : Int} (K : Int32 → Option wd_Mem) (hb : bnd n R e l D C) (hs : datV s n R e l D C) (hi : i < n) (hx : 0 ≤ x ∧ x ≤ 20) : ∀ (m k q : Nat) (b : Bool), k + m = (D i).toNat → m < q → X8_musts_l29 K s (zI i) (zI x) q (bI b) (zI (x + k)) = K (bI (b && !anyF (fun k => shB n R e l D C i (x + (k : Int))) k m)) := by
  have hn := hb.1
  have y := hb.2.2.2 i hi
  intro m
  induction m with
  | zero =>
    intro k q b hk hq
    obtain ⟨q, rfl⟩ : ∃ a, q = a + 1 := ⟨q - 1, by omega⟩
    show X8_musts_c29 _ _ s (zI i) (zI x) (bI b) (zI (x + k)) = _
    unfold X8_musts_c29
    rw [wd_chk_in (by omega) (by omega) (by omega), zI_clN (by omega), (hs.2.2 i hi).2.2.1, zI_add, zl_le (zR_small (by omega) (by omega)) (zR_small (by omega) (by omega)), if_pos (by omega)]
    simp [anyF]
  | succ m ih =>
    intro k q b hk hq
    obtain ⟨q, rfl⟩ : ∃ a, q = a + 1 := ⟨q - 1, by omega⟩
    have i0 := ih (k + 1) q false (by omega) (by omega)
    have i1 := ih (k + 1) q true (by omega) (by omega)
    rw [show x + ((k + 1 : Nat) : Int) = x + (k : Int) + 1 by omega] at i0 i1
    rw [show bI false = 0 from rfl] at i0
    rw [show bI true = 1 from rfl] at i1
    show X8_musts_c29 _ _ s (zI i) (zI x) (bI b) (zI (x + k)) = _
    unfold X8_musts_c29 X8_musts_b60 X8_musts_b61
    rw [wd_chk_in (by omega) (by omega) (by omega), zI_clN (by omega), (hs.2.2 i hi).2.2.1, zI_add, zl_le (zR_small (by omega) (by omega)) (zR_small (by omega) (by omega)), if_neg (by omega), shutM hb hs hi (by omega)]
    simp only [Option.bind_some]
    rw [bI_ite, bI_ite, z_1, zI_add, ← z_1, i0, i1]
    simp only [anyF]
    cases b with
    | false => rfl
    | true =>
      rw [if_pos rfl]
      cases hsh : shB n R e l D C i (x + (k : Int)) with
      | false => rw [if_neg (by decide)]; rfl
      | true => rw [if_pos rfl]; rfl
theorem mustsM {s : wd_Mem} {n i : Nat} {R : Int} {e l D C : Nat → Int} {p : Int × Int} (hb : bnd n R e l D C) (hs : datV s n R e l D C) (hi : i < n) (hp : bP p) (hw : e i + D i ≤ l i) : X8_musts (tMM s i p) (zI i) = some (tMM s i (tl ((muO n R e l D C i).getD 99) 0 p)) := by
  have hn := hb.1
  have y := hb.2.2.2 i hi
  have hs' : datV (tMM s i p) n R e l D C := datV_t hs
  have key : ∀ (m q : Nat) (x : Int), x + m = l i - D i + 1 → e i ≤ x → m < q → X8_musts_l7 (X8_musts_b86 (tMM s i p) (zI i)) (tMM s i p) (zI i) q (zI x) = some (tMM s i (tl ((muF (gdB n R e l D C i) m x).getD 99) 0 p)) := by
    intro m
    induction m with
    | zero =>
      intro q x hx h1 hq
      obtain ⟨q, rfl⟩ : ∃ a, q = a + 1 := ⟨q - 1, by omega⟩
      show X8_musts_c7 _ _ (tMM s i p) (zI i) (zI x) = _
      unfold X8_musts_c7 X8_musts_b86
      rw [wd_chk_in (by omega) (by omega) (by omega), zI_clN (by omega), (hs'.2.2 i hi).2.1, (hs'.2.2 i hi).2.2.1, zI_add, zl_lt (zR_small (by omega) (by omega)) (zR_small (by omega) (by omega)), if_pos (by omega), z_99, z_0, tellM (by omega) hp (by omega) (by omega)]
      rfl
    | succ m ih =>
      intro q x hx h1 hq
      obtain ⟨q, rfl⟩ : ∃ a, q = a + 1 := ⟨q - 1, by omega⟩
      show X8_musts_c7 _ _ (tMM s i p) (zI i) (zI x) = _
      have op := openM (fun x3 => X8_musts_b68 (X8_musts_l7 (X8_musts_b86 (tMM s i p) (zI i)) (tMM s i p) (zI i) q) (X8_musts_b86 (tMM s i p) (zI i)) (tMM s i p) (zI i) (zI x) x3) hb hs' hi (x := x) (by omega) (D i).toNat 0 wd_big true (by omega) (by unfold wd_big; omega)
      rw [show x + ((0 : Nat) : Int) = x by omega, show bI true = 1 from rfl, Bool.true_and] at op
      unfold X8_musts_c7
      rw [wd_chk_in (by omega) (by omega) (by omega), zI_clN (by omega), (hs'.2.2 i hi).2.1, (hs'.2.2 i hi).2.2.1, zI_add, zl_lt (zR_small (by omega) (by omega)) (zR_small (by omega) (by omega)), if_neg (by omega), op]
      unfold X8_musts_b68
      rw [bI_ite, z_1, zI_add, ih q (x + 1) (by omega) (by omega) (by omega), z_0, tellM (by omega) hp (by omega) (by omega)]
      simp only [muF, Option.bind_some]
      rw [show (!anyF (fun k => shB n R e l D C i (x + (k : Int))) 0 (D i).toNat) = gdB n R e l D C i x from rfl]
      by_cases hg : gdB n R e l D C i x = true
      · rw [if_pos hg, if_pos hg]; rfl
      · rw [if_neg hg, if_neg hg]
  unfold X8_musts X8_musts_b0
  rw [wd_chk_in (by omega) (by omega) (by omega), zI_clN (by omega), (hs'.2.2 i hi).1]
  exact key (l i - D i + 1 - e i).toNat wd_big (e i) (by omega) (by omega) (by unfold wd_big; omega)
