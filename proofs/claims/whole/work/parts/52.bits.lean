/-! ===== sets of tasks as numbers below 32 ===== -/
theorem b_or1 : ∀ S, S < 32 → ∀ i, i < 5 → (zI ((S : Nat) : Int)) ||| ((1 : Int32) <<< (zI ((i : Nat) : Int) &&& 31)) = zI ((S ||| 2 ^ i : Nat) : Int) := by decide +kernel
theorem b_shl : ∀ i, i < 6 → ((1 : Int32) <<< (zI ((i : Nat) : Int) &&& 31)) = zI ((2 ^ i : Nat) : Int) := by decide +kernel
theorem b_has : ∀ S, S < 32 → ∀ i, i < 5 → ((zI ((S : Nat) : Int) >>> (zI ((i : Nat) : Int) &&& 31)) &&& (1 : Int32)) = if S.testBit i then 1 else 0 := by decide +kernel
theorem b_sub : ∀ S, S < 32 → ∀ p, p < 32 → 0 < p → ((zI ((p : Nat) : Int) - (1 : Int32)) &&& zI ((S : Nat) : Int)) = zI (((p - 1) &&& S : Nat) : Int) := by decide +kernel
theorem b_and : ∀ S, S < 32 → ∀ p, p < 32 → (zI ((S : Nat) : Int) &&& zI ((p : Nat) : Int)) = zI ((S &&& p : Nat) : Int) := by decide +kernel
theorem n_or : ∀ i, i < 5 → ∀ S, S < 32 → S < 2 ^ i → S ||| 2 ^ i = S + 2 ^ i := by decide +kernel
theorem n_bit_top : ∀ i, i < 5 → ∀ S, S < 32 → S < 2 ^ i → (S + 2 ^ i).testBit i = true := by decide +kernel
theorem n_bit_low : ∀ i, i < 5 → ∀ S, S < 32 → S < 2 ^ i → ∀ j, j < i → (S + 2 ^ i).testBit j = S.testBit j := by decide +kernel
theorem n_bit_hi : ∀ i, i < 6 → ∀ S, S < 32 → S < 2 ^ i → ∀ j, j < 5 → i ≤ j → S.testBit j = false := by decide +kernel
theorem X8_has_eq (μ : wd_Mem) {S i : Nat} (hS : S < 32) (hi : i < 5) : X8_has μ (zI S) (zI i) = if S.testBit i then 1 else 0 := by
  unfold X8_has X8_has_b0
  rw [b_has S hS i hi]
  by_cases h : S.testBit i = true
  · rw [if_pos h]; rfl
  · rw [if_neg h]; rfl
/-- the least (greatest, sum) of e over the first n tasks that S holds -/
def mnF (e : Nat → Int) (b : Int) : Nat → Nat → Int
  | 0, _ => b
  | k + 1, S => if S.testBit k = true then min (mnF e b k S) (e k) else mnF e b k S
def mxF (e : Nat → Int) (b : Int) : Nat → Nat → Int
  | 0, _ => b
  | k + 1, S => if S.testBit k = true then max (mxF e b k S) (e k) else mxF e b k S
def smF (e : Nat → Int) : Nat → Nat → Int
  | 0, _ => 0
  | k + 1, S => if S.testBit k = true then smF e k S + e k else smF e k S
theorem mnF_congr {e : Nat → Int} {b : Int} {S T : Nat} : ∀ k, (∀ j, j < k → S.testBit j = T.testBit j) → mnF e b k S = mnF e b k T
  | 0, _ => rfl
  | k + 1, h => by simp only [mnF]; rw [h k (by omega), mnF_congr k (fun j hj => h j (by omega))]
theorem mxF_congr {e : Nat → Int} {b : Int} {S T : Nat} : ∀ k, (∀ j, j < k → S.testBit j = T.testBit j) → mxF e b k S = mxF e b k T
  | 0, _ => rfl
  | k + 1, h => by simp only [mxF]; rw [h k (by omega), mxF_congr k (fun j hj => h j (by omega))]
theorem smF_congr {e : Nat → Int} {S T : Nat} : ∀ k, (∀ j, j < k → S.testBit j = T.testBit j) → smF e k S = smF e k T
  | 0, _ => rfl
  | k + 1, h => by simp only [smF]; rw [h k (by omega), smF_congr k (fun j hj => h j (by omega))]
theorem mnF_up {e : Nat → Int} {b : Int} {S : Nat} {k : Nat} : ∀ m, (∀ j, k ≤ j → j < k + m → S.testBit j = false) → mnF e b (k + m) S = mnF e b k S
  | 0, _ => rfl
  | m + 1, h => by
    show mnF e b ((k + m) + 1) S = _
    simp only [mnF]
    rw [h (k + m) (by omega) (by omega), if_neg (by decide), mnF_up m (fun j h1 h2 => h j h1 (by omega))]
theorem mxF_up {e : Nat → Int} {b : Int} {S : Nat} {k : Nat} : ∀ m, (∀ j, k ≤ j → j < k + m → S.testBit j = false) → mxF e b (k + m) S = mxF e b k S
  | 0, _ => rfl
  | m + 1, h => by
    show mxF e b ((k + m) + 1) S = _
    simp only [mxF]
    rw [h (k + m) (by omega) (by omega), if_neg (by decide), mxF_up m (fun j h1 h2 => h j h1 (by omega))]
theorem smF_up {e : Nat → Int} {S : Nat} {k : Nat} : ∀ m, (∀ j, k ≤ j → j < k + m → S.testBit j = false) → smF e (k + m) S = smF e k S
  | 0, _ => rfl
  | m + 1, h => by
    show smF e ((k + m) + 1) S = _
    simp only [smF]
    rw [h (k + m) (by omega) (by omega), if_neg (by decide), smF_up m (fun j h1 h2 => h j h1 (by omega))]
theorem mnF_bd {e : Nat → Int} {b lo : Int} (hb : lo ≤ b) {S : Nat} : ∀ k, (∀ j, j < k → lo ≤ e j) → lo ≤ mnF e b k S ∧ mnF e b k S ≤ b
  | 0, _ => ⟨hb, Int.le_refl _⟩
  | k + 1, h => by
    have ih := mnF_bd (S := S) hb k (fun j hj => h j (by omega))
    have hk := h k (by omega)
    simp only [mnF]
    split <;> omega
theorem mxF_bd {e : Nat → Int} {b hi : Int} (hb : b ≤ hi) {S : Nat} : ∀ k, (∀ j, j < k → e j ≤ hi) → b ≤ mxF e b k S ∧ mxF e b k S ≤ hi
  | 0, _ => ⟨Int.le_refl _, hb⟩
  | k + 1, h => by
    have ih := mxF_bd (S := S) hb k (fun j hj => h j (by omega))
    have hk := h k (by omega)
    simp only [mxF]
    split <;> omega
theorem smF_bd {e : Nat → Int} {m : Int} {S : Nat} : ∀ k : Nat, (∀ j, j < k → 0 ≤ e j ∧ e j ≤ m) → 0 ≤ smF e k S ∧ smF e k S ≤ m * k
  | 0, _ => ⟨Int.le_refl _, by simp [smF]⟩
  | k + 1, h => by
    have ih := smF_bd (S := S) k (fun j hj => h j (by omega))
    have hk := h k (by omega)
    have e1 : m * ((k + 1 : Nat) : Int) = m * (k : Int) + m := by rw [Int.natCast_succ, Int.mul_add, Int.mul_one]
    simp only [smF]
    rw [e1]
    split <;> omega
