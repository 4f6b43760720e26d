/-! ===== searches of both: open, pin, plain; which beginnings belong to a schedule ===== -/
def cN (f : Nat → Nat) (i : Nat) : Int := (f i : Int)
theorem rel_N {μ : wd_Mem} {n : Nat} (hK : rTask μ n) (hW : wdW μ n 48 34 0) : ∃ (R : Nat) (e l D c : Nat → Nat), bnd n R (cN e) (cN l) (cN D) (cN c) ∧ datX μ n R (cN e) (cN l) (cN D) (cN c) ∧ datM μ n R (cN e) (cN l) (cN D) (cN c) := by
  obtain ⟨R, E, L, D, C, hb, hx, hm⟩ := rel_dat hK hW
  have hR : ((R.toNat : Nat) : Int) = R := by have := hb.2.1; omega
  have hE : ∀ i, i < n → cN (fun i => (E i).toNat) i = E i := fun i hi => by have := hb.2.2.2 i hi; show (((E i).toNat : Nat) : Int) = E i; omega
  have hL : ∀ i, i < n → cN (fun i => (L i).toNat) i = L i := fun i hi => by have := hb.2.2.2 i hi; show (((L i).toNat : Nat) : Int) = L i; omega
  have hD : ∀ i, i < n → cN (fun i => (D i).toNat) i = D i := fun i hi => by have := hb.2.2.2 i hi; show (((D i).toNat : Nat) : Int) = D i; omega
  have hC : ∀ i, i < n → cN (fun i => (C i).toNat) i = C i := fun i hi => by have := hb.2.2.2 i hi; show (((C i).toNat : Nat) : Int) = C i; omega
  refine ⟨R.toNat, fun i => (E i).toNat, fun i => (L i).toNat, fun i => (D i).toNat, fun i => (C i).toNat, ?_, ?_, ?_⟩
  · rw [hR]
    refine ⟨hb.1, hb.2.1, hb.2.2.1, fun i hi => ?_⟩
    rw [hE i hi, hL i hi, hD i hi, hC i hi]
    exact hb.2.2.2 i hi
  · rw [hR]
    refine ⟨hx.1, hx.2.1, fun i hi => ?_⟩
    rw [hE i hi, hL i hi, hD i hi, hC i hi]
    exact hx.2.2 i hi
  · rw [hR]
    refine ⟨hm.1, hm.2.1, fun i hi => ?_⟩
    rw [hE i hi, hL i hi, hD i hi, hC i hi]
    exact hm.2.2 i hi
section
variable {n R : Nat} {e l D c : Nat → Nat}
theorem bdS_of (hb : bnd n R (cN e) (cN l) (cN D) (cN c)) : bdS n R e l D c := by
  obtain ⟨h1, h2, h3, h4⟩ := hb
  refine ⟨h1, by omega, fun i hi => ?_⟩
  have := h4 i hi
  simp only [cN] at this
  omega
theorem openX {ν : wd_Mem} (hn : n ≤ 5) (hx : datX ν n R (cN e) (cN l) (cN D) (cN c)) : ∃ τ : wd_Mem, X2_open 48 ν = some τ ∧ schX τ n R e l D c ∧ ∀ a, a ≠ 22 → a ≠ 23 → a ≠ 24 → τ a = ν a := by
  obtain ⟨x1, x0, hX⟩ := hx
  have key : ∃ τ : wd_Mem, ((∀ j, j < n → τ 22 j = zI (e j : Nat) ∧ τ 23 j = zI (l j : Nat) ∧ τ 24 j = zI (c j : Nat)) ∧ ∀ a, a ≠ 22 → a ≠ 23 → a ≠ 24 → τ a = ν a) ∧ X2_open_l2 (fun μ => X2_open_b58 48 μ) 48 wd_big (zI ((0 : Nat) : Int)) ν = some τ := by
    refine wd_for0 (fun q i m => X2_open_l2 (fun μ => X2_open_b58 48 μ) 48 q (zI (i : Nat)) m) (fun m => some m) (fun i τ => (∀ j, j < i → τ 22 j = zI (e j : Nat) ∧ τ 23 j = zI (l j : Nat) ∧ τ 24 j = zI (c j : Nat)) ∧ ∀ a, a ≠ 22 → a ≠ 23 → a ≠ 24 → τ a = ν a) n ν (by omega) ⟨fun j hj => by omega, fun _ _ _ _ => rfl⟩ (fun i m q hi hI => ?_) (fun m q hI => ?_)
    · obtain ⟨c1, c2, c3, c4⟩ := hX i hi
      refine ⟨mset (mset (mset m 22 i (zI (e i : Nat))) 23 i (zI (l i : Nat))) 24 i (zI (c i : Nat)), ⟨fun j hj => ?_, fun a p q r => by rw [mset_ne r, mset_ne q, mset_ne p]; exact hI.2 a p q r⟩, ?_⟩
      · by_cases z : j = i
        · subst z
          exact ⟨by rw [mset_h _ _ _ _ (by decide), mset_h _ _ _ _ (by decide), mset_eq], by rw [mset_h _ _ _ _ (by decide), mset_eq], mset_eq _ _ _ _⟩
        · rw [mset_j _ _ _ _ z, mset_j _ _ _ _ z, mset_j _ _ _ _ z, mset_j _ _ _ _ z, mset_j _ _ _ _ z, mset_j _ _ _ _ z, mset_j _ _ _ _ z, mset_j _ _ _ _ z, mset_j _ _ _ _ z]
          exact hI.1 j (by omega)
      · show X2_open_c2 _ _ 48 m (zI (i : Nat)) = _
        have e1 : zI (i : Int) + (1 : Int32) = zI ((i + 1 : Nat) : Int) := by rw [z_1, zI_add]; rfl
        have a0 := edge_eq (μ := m) (h := 48) (i := i) (s := 0) (by omega) (by omega)
        have a1 := edge_eq (μ := mset m 22 i (zI (e i : Nat))) (h := 48) (i := i) (s := 1) (by omega) (by omega)
        simp only [Nat.mul_zero, Nat.zero_add, Nat.mul_one, Nat.reduceAdd] at a0 a1
        rw [hI.2 49 (by decide) (by decide) (by decide), c1] at a0
        rw [mset_h _ _ _ _ (by decide), hI.2 49 (by decide) (by decide) (by decide), c2] at a1
        unfold X2_open_c2
        rw [hI.2 3 (by decide) (by decide) (by decide), x1, if_neg (by rw [zI_le (zR_small (by omega) (by omega)) (zR_small (by omega) (by omega))]; omega), show X6_edge 48 m (zI i) 0 = some (zI (e i : Nat)) from a0]
        simp only [Option.bind_some]
        rw [wd_chk_in (by omega) (by omega) (by omega), zI_clN (by omega), show X6_edge 48 (mset m 22 i (zI (e i : Nat))) (zI i) 1 = some (zI (l i : Nat)) from a1]
        simp only [Option.bind_some]
        rw [hI.2 5 (by decide) (by decide) (by decide), c4, e1]
        rfl
    · show X2_open_c2 _ _ 48 m (zI (n : Nat)) = _
      unfold X2_open_c2 X2_open_b58
      rw [hI.2 3 (by decide) (by decide) (by decide), x1, if_pos (Int32.le_refl _)]
  obtain ⟨τ, ⟨k1, k2⟩, k3⟩ := key
  refine ⟨τ, k3, ⟨by rw [k2 3 (by decide) (by decide) (by decide)]; exact x1, by rw [k2 3 (by decide) (by decide) (by decide)]; exact x0, fun i hi => ⟨by rw [k2 4 (by decide) (by decide) (by decide)]; exact (hX i hi).2.2.1, k1 i hi⟩⟩, k2⟩
theorem pinX {ν : wd_Mem} {i x : Nat} (hn : n ≤ 5) (hs : schX ν n R e l D c) (hi : i < n) : ∃ τ : wd_Mem, X2_pin ν (zI (i : Nat)) (zI (x : Nat)) = some τ ∧ schX τ n R (bset e i x) (bset l i (x + D i)) D c ∧ ∀ a, a ≠ 22 → a ≠ 23 → τ a = ν a := by
  obtain ⟨s1, s0, hS⟩ := hs
  obtain ⟨c1, c2, c3, c4⟩ := hS i hi
  refine ⟨mset (mset ν 22 i (zI (x : Nat))) 23 i (zI ((x + D i : Nat) : Int)), ?_, ⟨?_, ?_, fun j hj => ?_⟩, fun a p q => by rw [mset_ne q, mset_ne p]⟩
  · unfold X2_pin X2_pin_b0
    rw [wd_chk_in (by omega) (by omega) (by omega), zI_clN (by omega), c1, zI_add]
    rfl
  · rw [mset_h _ _ _ _ (by decide), mset_h _ _ _ _ (by decide)]; exact s1
  · rw [mset_h _ _ _ _ (by decide), mset_h _ _ _ _ (by decide)]; exact s0
  · obtain ⟨d1, d2, d3, d4⟩ := hS j hj
    rw [mset_ne (show 4 ≠ 23 by decide), mset_ne (show 4 ≠ 22 by decide), mset_ne (show 24 ≠ 23 by decide), mset_ne (show 24 ≠ 22 by decide), mset_ne (show 22 ≠ 23 by decide)]
    refine ⟨d1, ?_, ?_, d4⟩
    · by_cases z : j = i
      · rw [z, mset_eq, bset_eq]
      · rw [mset_j _ _ _ _ z, bset_ne z]; exact d2
    · by_cases z : j = i
      · rw [z, mset_eq, bset_eq]
      · rw [mset_j _ _ _ _ z, mset_h _ _ _ _ (by decide), bset_ne z]; exact d3
theorem bdS_pin {i x : Nat} (hb : bdS n R e l D c) (hx : x + D i ≤ 16) : bdS n R (bset e i x) (bset l i (x + D i)) D c := by
  refine ⟨hb.1, hb.2.1, fun j hj => ?_⟩
  have := hb.2.2 j hj
  by_cases z : j = i
  · subst z
    rw [bset_eq, bset_eq]
    omega
  · rw [bset_ne z, bset_ne z]
    exact this
theorem fea_pin {i x : Nat} {b : Nat → Nat} (hi : i < n) (h1 : e i ≤ x) (h2 : x + D i ≤ l i) : fea n R (bset e i x) (bset l i (x + D i)) D c b ↔ fea n R e l D c b ∧ b i = x := by
  unfold fea
  constructor
  · rintro ⟨a, d⟩
    have hbi := a i hi
    rw [bset_eq, bset_eq] at hbi
    refine ⟨⟨fun j hj => ?_, d⟩, by omega⟩
    by_cases z : j = i
    · subst z; omega
    · have := a j hj
      rw [bset_ne z, bset_ne z] at this
      exact this
  · rintro ⟨⟨a, d⟩, hbi⟩
    refine ⟨fun j hj => ?_, d⟩
    by_cases z : j = i
    · subst z
      rw [bset_eq, bset_eq]
      omega
    · rw [bset_ne z, bset_ne z]
      exact a j hj
theorem plainM {ν : wd_Mem} (hn : n ≤ 5) (hm : datM ν n R (cN e) (cN l) (cN D) (cN c)) : ∃ τ : wd_Mem, X8_plain ν = some τ ∧ schM τ n R e l D c ∧ ∀ a, a ≠ 47 → τ a = ν a := by
  obtain ⟨x0, x1, hX⟩ := hm
  have key : ∃ τ : wd_Mem, ((∀ j, j < n → τ 47 j = zI (c j : Nat)) ∧ ∀ a, a ≠ 47 → τ a = ν a) ∧ X8_plain_l2 (fun μ => X8_plain_b28 μ) wd_big (zI ((0 : Nat) : Int)) ν = some τ := by
    refine wd_for0 (fun q i m => X8_plain_l2 (fun μ => X8_plain_b28 μ) q (zI (i : Nat)) m) (fun m => some m) (fun i τ => (∀ j, j < i → τ 47 j = zI (c j : Nat)) ∧ ∀ a, a ≠ 47 → τ a = ν a) n ν (by omega) ⟨fun j hj => by omega, fun _ _ => rfl⟩ (fun i m q hi hI => ?_) (fun m q hI => ?_)
    · obtain ⟨c1, c2, c3, c4⟩ := hX i hi
      refine ⟨mset m 47 i (zI (c i : Nat)), ⟨fun j hj => ?_, fun a p => by rw [mset_ne p]; exact hI.2 a p⟩, ?_⟩
      · by_cases z : j = i
        · rw [z, mset_eq]
        · rw [mset_j _ _ _ _ z]; exact hI.1 j (by omega)
      · show X8_plain_c2 _ _ m (zI (i : Nat)) = _
        have e1 : zI (i : Int) + (1 : Int32) = zI ((i + 1 : Nat) : Int) := by rw [z_1, zI_add]; rfl
        unfold X8_plain_c2
        rw [hI.2 31 (by decide), x0, if_neg (by rw [zI_le (zR_small (by omega) (by omega)) (zR_small (by omega) (by omega))]; omega), wd_chk_in (by omega) (by omega) (by omega), zI_clN (by omega), hI.2 33 (by decide), c4, e1]
        rfl
    · show X8_plain_c2 _ _ m (zI (n : Nat)) = _
      unfold X8_plain_c2 X8_plain_b28
      rw [hI.2 31 (by decide), x0, if_pos (Int32.le_refl _)]
  obtain ⟨τ, ⟨k1, k2⟩, k3⟩ := key
  refine ⟨τ, k3, ⟨by rw [k2 31 (by decide)]; exact x0, by rw [k2 31 (by decide)]; exact x1, fun i hi => ⟨?_, ?_, ?_, k1 i hi⟩⟩, k2⟩
  · rw [k2 34 (by decide)]; exact (hX i hi).1
  · rw [k2 34 (by decide)]; exact (hX i hi).2.1
  · rw [k2 32 (by decide)]; exact (hX i hi).2.2.1
theorem aL_pos {q : Nat → Nat → Bool} : 0 < (aL n R e l D c q).length ↔ ∃ b, fea n R e l D c b ∧ ∀ i, i < n → q i (b i) = true := by
  rcases aL_first (n := n) (R := R) (e := e) (l := l) (D := D) (c := c) (q := q) with ⟨h1, h2⟩ | ⟨b', T, h1, h2, h3, -⟩
  · rw [h1]
    constructor
    · intro h; simp at h
    · rintro ⟨b, k1, k2⟩; exact absurd k2 (h2 b k1)
  · rw [h1]
    constructor
    · intro _; exact ⟨b', h2, h3⟩
    · intro _; simp
theorem fea_ext {e' l' : Nat → Nat} (h : ∀ i, i < n → e i = e' i ∧ l i = l' i) {b : Nat → Nat} (hf : fea n R e l D c b) : fea n R e' l' D c b := by
  refine ⟨fun i hi => ?_, hf.2⟩
  obtain ⟨h1, h2⟩ := h i hi
  rw [← h1, ← h2]
  exact hf.1 i hi
theorem lU_16 (hb : bdS n R e l D c) (i : Nat) (hi : i < n) : lU l 16 i = l i := by
  have := hb.2.2 i hi
  unfold lU
  omega
theorem bdS_U {U : Nat} (hb : bdS n R e l D c) : bdS n R e (lU l U) D c := by
  refine ⟨hb.1, hb.2.1, fun i hi => ?_⟩
  have := hb.2.2 i hi
  unfold lU
  omega
theorem fea_16 (hb : bdS n R e l D c) {b : Nat → Nat} : fea n R e (lU l 16) D c b ↔ fea n R e l D c b := ⟨fea_ext (fun i hi => ⟨rfl, lU_16 hb i hi⟩), fea_ext (fun i hi => ⟨rfl, (lU_16 hb i hi).symm⟩)⟩
/-- the bits of the beginnings that pass -/
def blF (g : Nat → Bool) : Nat → Nat → Int32 → Int32
  | 0, _, a => a
  | r + 1, x, a => blF g r (x + 1) (a ||| (if g x = true then (1 : Int32) <<< (zI (x : Nat) &&& 31) else 0))
theorem blF_congr {g g' : Nat → Bool} : ∀ (r x : Nat) (a : Int32), (∀ y, x ≤ y → y < x + r → g y = g' y) → blF g r x a = blF g' r x a
  | 0, _, _, _ => rfl
  | r + 1, x, a, h => by
    simp only [blF]
    rw [h x (Nat.le_refl _) (by omega)]
    exact blF_congr r (x + 1) _ (fun y h1 h2 => h y (by omega) (by omega))
def frS (ν τ : wd_Mem) : Prop := rLoad τ ∧ ∀ a, a ≠ 22 → a ≠ 23 → a ≠ 24 → a ≠ 26 → τ a = ν a
theorem datX_f {ν τ : wd_Mem} (f : ∀ a, a ≠ 22 → a ≠ 23 → a ≠ 24 → a ≠ 26 → τ a = ν a) (h : datX ν n R (cN e) (cN l) (cN D) (cN c)) : datX τ n R (cN e) (cN l) (cN D) (cN c) := datX_congr (f 3 (by decide) (by decide) (by decide) (by decide)) (f 49 (by decide) (by decide) (by decide) (by decide)) (f 4 (by decide) (by decide) (by decide) (by decide)) (f 5 (by decide) (by decide) (by decide) (by decide)) h
def gX (n R : Nat) (e l D c : Nat → Nat) (i x : Nat) : Bool := aB n R (bset e i x) (bset l i (x + D i)) D c
theorem belongX {ν : wd_Mem} {i : Nat} (hb : bnd n R (cN e) (cN l) (cN D) (cN c)) (hx : datX ν n R (cN e) (cN l) (cN D) (cN c)) (hl : rLoad ν) (hi : i < n) : ∃ τ : wd_Mem, X2_belong 48 ν (zI (i : Nat)) = some (blF (gX n R e l D c i) (l i + 1 - (e i + D i)) (e i) 0, τ) ∧ frS ν τ := by
  have hB := bdS_of hb
  have hn := hb.1
  have y := hB.2.2 i hi
  have key : ∀ (r x q : Nat) (a : Int32) (ν : wd_Mem), r = l i + 1 - (x + D i) → r < q → x ≤ 17 → datX ν n R (cN e) (cN l) (cN D) (cN c) → rLoad ν → ∃ τ : wd_Mem, X2_belong_l28 (fun x3 μ => X2_belong_b71 48 μ x3) 48 (zI (i : Nat)) (zI ((l i : Int) - (D i : Int))) q a (zI (x : Nat)) ν = some (blF (gX n R e l D c i) r x a, τ) ∧ frS ν τ := by
    intro r
    induction r with
    | zero =>
      intro x q a ν hr hq hx17 hx hl
      obtain ⟨q, rfl⟩ : ∃ a, q = a + 1 := ⟨q - 1, by omega⟩
      refine ⟨ν, ?_, hl, fun _ _ _ _ _ => rfl⟩
      show X2_belong_c28 _ _ 48 ν _ _ _ (zI (x : Nat)) = _
      unfold X2_belong_c28 X2_belong_b71
      rw [if_pos (by rw [zI_lt (zR_small (by omega) (by omega)) (zR_small (by omega) (by omega))]; omega)]
      rfl
    | succ r ih =>
      intro x q a ν hr hq hx17 hx hl
      obtain ⟨q, rfl⟩ : ∃ a, q = a + 1 := ⟨q - 1, by omega⟩
      obtain ⟨τ1, a1, a2, a3⟩ := openX hn hx
      obtain ⟨τ2, b1, b2, b3⟩ := pinX (i := i) (x := x) hn a2 hi
      obtain ⟨τ3, d1, d2, d3⟩ := isAnyX (bdS_pin (i := i) (x := x) hB (by omega)) b2 (by
        intro t ht
        rw [b3 26 (by decide) (by decide), a3 26 (by decide) (by decide) (by decide)]
        exact hl t ht)
      have f3 : ∀ a, a ≠ 22 → a ≠ 23 → a ≠ 24 → a ≠ 26 → τ3 a = ν a := fun a p q r s => by rw [d3 a s, b3 a p q, a3 a p q r]
      have e1 : zI (x : Int) + (1 : Int32) = zI ((x + 1 : Nat) : Int) := by rw [z_1, zI_add]; rfl
      obtain ⟨τ, k1, k2, k3⟩ := ih (x + 1) q (a ||| (if gX n R e l D c i x = true then (1 : Int32) <<< (zI (x : Nat) &&& 31) else 0)) τ3 (by omega) (by omega) (by omega) (datX_f f3 hx) d2
      refine ⟨τ, ?_, k2, fun a p q r s => by rw [k3 a p q r s, f3 a p q r s]⟩
      show X2_belong_c28 _ _ 48 ν _ _ _ (zI (x : Nat)) = _
      unfold X2_belong_c28 X2_belong_b63
      rw [if_neg (by rw [zI_lt (zR_small (by omega) (by omega)) (zR_small (by omega) (by omega))]; omega), a1]
      simp only [Option.bind_some]
      rw [b1]
      simp only [Option.bind_some]
      rw [d1]
      simp only [Option.bind_some]
      rw [e1, bI_ite]
      have e2 : aB n R (bset e i x) (bset l i (x + D i)) D c = gX n R e l D c i x := rfl
      rw [e2]
      simp only [blF]
      rw [← k1]
      by_cases hg : gX n R e l D c i x = true
      · rw [if_pos hg, if_pos hg]
      · rw [if_neg hg, if_neg hg]
  obtain ⟨c1, c2, c3, c4⟩ := hx.2.2 i hi
  have a0 := edge_eq (μ := ν) (h := 48) (i := i) (s := 0) (by omega) (by omega)
  have a1 := edge_eq (μ := ν) (h := 48) (i := i) (s := 1) (by omega) (by omega)
  simp only [Nat.mul_zero, Nat.zero_add, Nat.mul_one, Nat.reduceAdd] at a0 a1
  rw [c1] at a0
  rw [c2] at a1
  obtain ⟨τ, k1, k2⟩ := key (l i + 1 - (e i + D i)) (e i) wd_big 0 ν rfl (by unfold wd_big; omega) (by omega) hx hl
  refine ⟨τ, ?_, k2⟩
  unfold X2_belong X2_belong_b0
  rw [show X6_edge 48 ν (zI i) 1 = some (zI (cN l i)) from a1]
  simp only [Option.bind_some]
  rw [wd_chk_in (by omega) (by omega) (by omega), show X6_edge 48 ν (zI i) 0 = some (zI (cN e i)) from a0]
  simp only [Option.bind_some]
  rw [zI_clN (by omega), c3, zI_sub]
  exact k1
def gM (n R : Nat) (e l D c : Nat → Nat) (i x : Nat) : Bool := decide (0 < (aL n R e (lU l 16) D c (qT (i : Int) (x : Int))).length)
theorem belongM {ν : wd_Mem} {i : Nat} (hb : bnd n R (cN e) (cN l) (cN D) (cN c)) (hm : datM ν n R (cN e) (cN l) (cN D) (cN c)) (hi : i < n) : ∃ τ : wd_Mem, X8_belong ν (zI (i : Nat)) = some (blF (gM n R e l D c i) (l i + 1 - (e i + D i)) (e i) 0, τ) ∧ ∀ a, ¬ (45 ≤ a ∧ a ≤ 47) → τ a = ν a := by
  have hB := bdS_of hb
  have hn := hb.1
  have y := hB.2.2 i hi
  have key : ∀ (r x q : Nat) (a : Int32) (ν : wd_Mem), r = l i + 1 - (x + D i) → r < q → x ≤ 17 → schM ν n R e l D c → ∃ τ : wd_Mem, X8_belong_l15 (fun x2 μ => X8_belong_b62 μ x2) (zI (i : Nat)) q a (zI (x : Nat)) ν = some (blF (gM n R e l D c i) r x a, τ) ∧ ∀ a, ¬ (45 ≤ a ∧ a ≤ 47) → τ a = ν a := by
    intro r
    induction r with
    | zero =>
      intro x q a ν hr hq hx17 hs
      obtain ⟨q, rfl⟩ : ∃ a, q = a + 1 := ⟨q - 1, by omega⟩
      obtain ⟨c1, c2, c3, c4⟩ := hs.2.2 i hi
      have q5 : (5 : Int32) + zI i = zI ((5 + i : Nat) : Int) := by rw [z_5, zI_add]; rfl
      refine ⟨ν, ?_, fun _ _ => rfl⟩
      show X8_belong_c15 _ _ ν (zI (i : Nat)) _ (zI (x : Nat)) = _
      unfold X8_belong_c15 X8_belong_b62
      rw [wd_chk_in (by omega) (by omega) (by omega), q5, wd_chk_in (by omega) (by omega) (by omega), zI_clN (by omega), zI_clN (by omega), c2, c3, zI_add, if_pos (by rw [zI_lt (zR_small (by omega) (by omega)) (zR_small (by omega) (by omega))]; omega)]
      rfl
    | succ r ih =>
      intro x q a ν hr hq hx17 hs
      obtain ⟨q, rfl⟩ : ∃ a, q = a + 1 := ⟨q - 1, by omega⟩
      obtain ⟨c1, c2, c3, c4⟩ := hs.2.2 i hi
      have q5 : (5 : Int32) + zI i = zI ((5 + i : Nat) : Int) := by rw [z_5, zI_add]; rfl
      obtain ⟨τ1, a1, -, a3⟩ := schedM (lim := 1) (U := 16) (T := (i : Int)) (A := (x : Int)) (bdS_U hB) (fun j hj => (hB.2.2 j hj).2.1) (by omega) (by omega) (by omega) (by omega) hs
      have e1 : zI (x : Int) + (1 : Int32) = zI ((x + 1 : Nat) : Int) := by rw [z_1, zI_add]; rfl
      obtain ⟨τ, k1, k2⟩ := ih (x + 1) q (a ||| (if gM n R e l D c i x = true then (1 : Int32) <<< (zI (x : Nat) &&& 31) else 0)) τ1 (by omega) (by omega) (by omega) (schM_congr a3 hs)
      refine ⟨τ, ?_, fun a p => by rw [k2 a p, a3 a (by omega) (by omega)]⟩
      show X8_belong_c15 _ _ ν (zI (i : Nat)) _ (zI (x : Nat)) = _
      unfold X8_belong_c15 X8_belong_b54
      have a1' : X8_schedules ν (1 : Int32) (16 : Int32) (zI (i : Nat)) (zI (x : Nat)) = _ := a1
      rw [wd_chk_in (by omega) (by omega) (by omega), q5, wd_chk_in (by omega) (by omega) (by omega), zI_clN (by omega), zI_clN (by omega), c2, c3, zI_add, if_neg (by rw [zI_lt (zR_small (by omega) (by omega)) (zR_small (by omega) (by omega))]; omega), a1']
      simp only [Option.bind_some]
      rw [e1]
      simp only [blF]
      rw [← k1]
      unfold gM
      by_cases hg : 0 < (aL n R e (lU l 16) D c (qT (i : Int) (x : Int))).length
      · rw [decide_eq_true hg, if_pos rfl, if_neg (by rw [z_0, zI_le (zR_small (by omega) (by omega)) (zR_small (by omega) (by omega))]; omega)]
      · rw [decide_eq_false hg, if_pos (by rw [z_0, zI_le (zR_small (by omega) (by omega)) (zR_small (by omega) (by omega))]; omega), if_neg (by decide)]
  obtain ⟨τ1, a1, a2, a3⟩ := plainM hn hm
  obtain ⟨τ, k1, k2⟩ := key (l i + 1 - (e i + D i)) (e i) wd_big 0 τ1 rfl (by unfold wd_big; omega) (by omega) a2
  refine ⟨τ, ?_, fun a p => by rw [k2 a p, a3 a (by omega)]⟩
  have q0 : (0 : Int32) + zI i = zI i := by rw [z_0, zI_add]; congr 1; omega
  unfold X8_belong X8_belong_b0
  rw [a1]
  simp only [Option.bind_some]
  rw [q0, wd_chk_in (by omega) (by omega) (by omega), zI_clN (by omega), (a2.2.2 i hi).1]
  exact k1
theorem belong_same {i : Nat} (hb : bdS n R e l D c) (hi : i < n) : blF (gX n R e l D c i) (l i + 1 - (e i + D i)) (e i) 0 = blF (gM n R e l D c i) (l i + 1 - (e i + D i)) (e i) 0 := by
  refine blF_congr _ _ _ (fun x h1 h2 => ?_)
  rw [Bool.eq_iff_iff]
  unfold gX gM
  rw [aB_iff, decide_eq_true_eq, aL_pos]
  constructor
  · rintro ⟨b, h⟩
    obtain ⟨f, g⟩ := (fea_pin hi h1 (by omega)).mp h
    refine ⟨b, (fea_16 hb).mpr f, fun j hj => ?_⟩
    unfold qT
    by_cases z : j = i
    · subst z
      exact decide_eq_true (Or.inr (by omega))
    · exact decide_eq_true (Or.inl (by omega))
  · rintro ⟨b, f, g⟩
    refine ⟨b, (fea_pin hi h1 (by omega)).mpr ⟨(fea_16 hb).mp f, ?_⟩⟩
    have := of_decide_eq_true (g i hi)
    rcases this with h | h
    · exact absurd rfl h
    · omega
end
