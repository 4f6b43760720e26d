/-! ===== numbers of the pure side: Int32 as zI of an Int ===== -/
def zI (z : Int) : Int32 := Int32.ofInt z
theorem zI_add (a b : Int) : zI a + zI b = zI (a + b) := (Int32.ofInt_add a b).symm
theorem zI_sub (a b : Int) : zI a - zI b = zI (a - b) := (Int32.ofInt_sub a b).symm
theorem zI_mul (a b : Int) : zI a * zI b = zI (a * b) := (Int32.ofInt_mul a b).symm
theorem zI_neg (a : Int) : -zI a = zI (-a) := (Int32.ofInt_neg a).symm
theorem zI_toInt {z : Int} (h1 : -2147483648 ≤ z) (h2 : z < 2147483648) : (zI z).toInt = z := by
  unfold zI
  have e : ((Int32.size : Nat) : Int) = 4294967296 := rfl
  rw [Int32.toInt_ofInt, Int.bmod_eq_of_le (by omega) (by omega)]
theorem zI_of (x : Int32) : zI x.toInt = x := Int32.ofInt_toInt x
theorem zI_rng (x : Int32) : -2147483648 ≤ x.toInt ∧ x.toInt < 2147483648 := by
  have h1 := Int32.le_toInt x
  have h2 := Int32.toInt_lt x
  omega
theorem zI_nat (n : Nat) : nI n = zI n := by
  show Int32.ofNat n = Int32.ofInt n
  exact (Int32.ofInt_eq_ofNat).symm
theorem zI_lit (n : Nat) : (OfNat.ofNat n : Int32) = zI n := zI_nat n
def zR (z : Int) : Prop := -2147483648 ≤ z ∧ z < 2147483648
theorem zI_lt {a b : Int} (ha : zR a) (hb : zR b) : zI a < zI b ↔ a < b := by
  rw [Int32.lt_iff_toInt_lt, zI_toInt ha.1 ha.2, zI_toInt hb.1 hb.2]
theorem zI_le {a b : Int} (ha : zR a) (hb : zR b) : zI a ≤ zI b ↔ a ≤ b := by
  rw [Int32.le_iff_toInt_le, zI_toInt ha.1 ha.2, zI_toInt hb.1 hb.2]
theorem zI_eq {a b : Int} (ha : zR a) (hb : zR b) : zI a = zI b ↔ a = b := by
  rw [← Int32.toInt_inj, zI_toInt ha.1 ha.2, zI_toInt hb.1 hb.2]
theorem zI_cl {z : Int} (h1 : 0 ≤ z) (h2 : z < 2147483648) : (zI z).toNatClampNeg = z.toNat := by
  unfold Int32.toNatClampNeg
  rw [zI_toInt (by omega) h2]
theorem zI_clN {n : Nat} (h : n < 2147483648) : (zI (n : Int)).toNatClampNeg = n := by
  rw [zI_cl (by omega) (by omega)]; omega
theorem zI_in {z : Int} {n : Nat} (h1 : 0 ≤ z) (h2 : z < n) (h3 : n < 2147483648) : wd_in (zI z) n = true := by
  unfold wd_in
  simp only [decide_eq_true_eq, not_or]
  have e0 : (0 : Int32) = zI 0 := zI_lit 0
  refine ⟨?_, ?_⟩
  · rw [e0, zI_lt ⟨by omega, by omega⟩ ⟨by omega, by omega⟩]; omega
  · rw [zI_cl h1 (by omega)]; omega
theorem zI_div {a b : Int} (ha : 0 ≤ a) (ha2 : a < 2147483648) (hb : 0 < b) (hb2 : b < 2147483648) : zI a / zI b = zI (a / b) := by
  obtain ⟨m, rfl⟩ := Int.eq_ofNat_of_zero_le ha
  obtain ⟨n, rfl⟩ := Int.eq_ofNat_of_zero_le (Int.le_of_lt hb)
  rw [← zI_nat, ← zI_nat, pk_div (by omega) (by omega) (by omega), zI_nat]
  rfl
theorem wd_chk_t {α : Type} {b : Bool} (h : b = true) (k : Option α) : wd_chk b k = k := by
  unfold wd_chk; rw [if_pos h]
theorem wd_chk_in {α : Type} {z : Int} {n : Nat} (h1 : 0 ≤ z) (h2 : z < n) (h3 : n < 2147483648) (k : Option α) : wd_chk (wd_in (zI z) n) k = k := wd_chk_t (zI_in h1 h2 h3) k
theorem wd_chk_nz {α : Type} {z : Int} (h : zR z) (h1 : z ≠ 0) (k : Option α) : wd_chk (wd_nz (zI z)) k = k := by
  refine wd_chk_t ?_ k
  unfold wd_nz
  simp only [decide_eq_true_eq]
  rw [show (0 : Int32) = zI 0 from zI_lit 0, zI_eq h ⟨by omega, by omega⟩]
  exact h1
/-! memory -/
theorem mset_eq (μ : wd_Mem) (k j : Nat) (x : Int32) : mset μ k j x k j = x := by simp [mset]
theorem mset_h (μ : wd_Mem) {k a : Nat} (j b : Nat) (x : Int32) (h : a ≠ k) : mset μ k j x a b = μ a b := by simp [mset, h]
theorem mset_j (μ : wd_Mem) (k a : Nat) {j b : Nat} (x : Int32) (h : b ≠ j) : mset μ k j x a b = μ a b := by simp [mset, h]
/-! loops -/
theorem wd_for {σ R : Type} (L : Nat → Nat → σ → Option R) (K : σ → Option R) (Inv : Nat → σ → Prop) (N : Nat) (hs : ∀ (i : Nat) (s : σ) (n : Nat), i < N → Inv i s → ∃ s', Inv (i + 1) s' ∧ L (n + 1) i s = L n (i + 1) s') (he : ∀ (s : σ) (n : Nat), Inv N s → L (n + 1) N s = K s) : ∀ (m i : Nat) (s : σ) (n : Nat), i + m = N → m < n → Inv i s → ∃ s', Inv N s' ∧ L n i s = K s' := by
  intro m
  induction m with
  | zero =>
    intro i s n hi hn hI
    obtain ⟨n, rfl⟩ : ∃ q, n = q + 1 := ⟨n - 1, by omega⟩
    have : i = N := by omega
    subst this
    exact ⟨s, hI, he s n hI⟩
  | succ m ih =>
    intro i s n hi hn hI
    obtain ⟨n, rfl⟩ : ∃ q, n = q + 1 := ⟨n - 1, by omega⟩
    obtain ⟨s', h1, h2⟩ := hs i s n (by omega) hI
    obtain ⟨s2, h3, h4⟩ := ih (i + 1) s' n (by omega) (by omega) h1
    exact ⟨s2, h3, by rw [h2, h4]⟩
/-- the same from 0, with the fuel that the functions have -/
theorem wd_for0 {σ R : Type} (L : Nat → Nat → σ → Option R) (K : σ → Option R) (Inv : Nat → σ → Prop) (N : Nat) (s : σ) (hN : N < 1000000) (h0 : Inv 0 s) (hs : ∀ (i : Nat) (s : σ) (n : Nat), i < N → Inv i s → ∃ s', Inv (i + 1) s' ∧ L (n + 1) i s = L n (i + 1) s') (he : ∀ (s : σ) (n : Nat), Inv N s → L (n + 1) N s = K s) : ∃ s', Inv N s' ∧ L wd_big 0 s = K s' := wd_for L K Inv N hs he N 0 s wd_big (by omega) (by unfold wd_big; omega) h0
/-- a loop that computes a value: the state is a function of the counter -/
theorem wd_forF {σ R : Type} (L : Nat → Nat → σ → Option R) (K : σ → Option R) (f : Nat → σ) (N : Nat) (hN : N < 1000000) (hs : ∀ (i : Nat) (n : Nat), i < N → L (n + 1) i (f i) = L n (i + 1) (f (i + 1))) (he : ∀ (n : Nat), L (n + 1) N (f N) = K (f N)) : L wd_big 0 (f 0) = K (f N) := by
  obtain ⟨s', h1, h2⟩ := wd_for0 L K (fun i s => s = f i) N (f 0) hN rfl (fun i s n hi hI => ⟨f (i + 1), rfl, by rw [hI]; exact hs i n hi⟩) (fun s n hI => by rw [hI]; exact he n)
  rw [h2, h1]
