theorem wd_fr1 {ν μ : wd_Mem} {a k j : Nat} {x : Int32} (h : a ≠ k) (e : ν a = μ a) : mset ν k j x a = μ a := (mset_ne h).trans e
theorem wd_ringB {i h : Nat} (e : wd_ring[i]? = some h) : 64 ≤ h ∧ h ≤ 100 := by
  have := List.mem_of_getElem? e
  simp only [wd_ring, List.mem_cons, List.not_mem_nil, or_false] at this
  omega
theorem wd_imgsB {i h : Nat} (e : wd_imgs[i]? = some h) : 56 ≤ h ∧ h ≤ 60 := by
  have := List.mem_of_getElem? e
  simp only [wd_imgs, List.mem_cons, List.not_mem_nil, or_false] at this
  omega
theorem f_X5_add_b0 {out : Int32 × wd_Mem} (μ : wd_Mem) (x1 : Int32) (a : Nat)  (ha : ¬ (a = 1 ∨ a = 2)) (h : X5_add_b0 μ x1 = some out) : out.2 a = μ a := by
  unfold X5_add_b0 at h
  by_cases c1 : (μ 1 1) < (100 : Int32)
  · have h := (if_pos c1).symm.trans h
    obtain ⟨-, h⟩ := wd_chk_some h
    have e9 := Option.some.inj h
    subst e9
    exact (wd_fr1 (by omega) (wd_fr1 (by omega) rfl))
  · have h := (if_neg c1).symm.trans h
    have e9 := Option.some.inj h
    subst e9
    exact rfl
theorem fr_X5_add {out : Int32 × wd_Mem} {μ : wd_Mem} {x1 : Int32} (a : Nat)  (ha : ¬ (a = 1 ∨ a = 2)) (h : X5_add μ x1 = some out) : out.2 a = μ a := f_X5_add_b0 μ x1 a  ha h
theorem f_X7_type_b11 {out : Int32 × wd_Mem} (μ : wd_Mem) (a : Nat)  (ha : ¬ (a = 1 ∨ a = 2)) (h : X7_type_b11 μ = some out) : out.2 a = μ a := by
  unfold X7_type_b11 at h
  have e9 := Option.some.inj h
  subst e9
  exact rfl
theorem f_X7_type_b0 {out : Int32 × wd_Mem} (μ : wd_Mem) (x1 : Int32) (a : Nat)  (ha : ¬ (a = 1 ∨ a = 2)) (h : X7_type_b0 μ x1 = some out) : out.2 a = μ a := by
  unfold X7_type_b0 at h
  by_cases c1 : x1 < 0
  · have h := (if_pos c1).symm.trans h
    exact (f_X7_type_b11 μ a  ha h).trans rfl
  · have h := (if_neg c1).symm.trans h
    by_cases c2 : x1 ≤ (255 : Int32)
    · have h := (if_pos c2).symm.trans h
      obtain ⟨r3, er3, h⟩ := wd_bind_some h
      have fr3 : r3.2 a = μ a := (fr_X5_add a  (by omega) er3).trans rfl
      by_cases c4 : r3.1 = 0
      · have h := (if_pos c4).symm.trans h
        have e9 := Option.some.inj h
        subst e9
        exact fr3
      · have h := (if_neg c4).symm.trans h
        have e9 := Option.some.inj h
        subst e9
        exact fr3
    · have h := (if_neg c2).symm.trans h
      exact (f_X7_type_b11 μ a  ha h).trans rfl
theorem fr_X7_type {out : Int32 × wd_Mem} {μ : wd_Mem} {x1 : Int32} (a : Nat)  (ha : ¬ (a = 1 ∨ a = 2)) (h : X7_type μ x1 = some out) : out.2 a = μ a := f_X7_type_b0 μ x1 a  ha h
theorem f_X7_clear_b0 {out : Int32 × wd_Mem} (μ : wd_Mem) (a : Nat)  (ha : ¬ (a = 1)) (h : X7_clear_b0 μ = some out) : out.2 a = μ a := by
  unfold X7_clear_b0 at h
  have e9 := Option.some.inj h
  subst e9
  exact (wd_fr1 (by omega) rfl)
theorem fr_X7_clear {out : Int32 × wd_Mem} {μ : wd_Mem} (a : Nat)  (ha : ¬ (a = 1)) (h : X7_clear μ = some out) : out.2 a = μ a := f_X7_clear_b0 μ  a  ha h
theorem f_X4_forget_b0 {out : wd_Mem} (h0 : Nat) (μ : wd_Mem) (a : Nat) (w0 : wd_isT h0) (ha : ¬ (a = h0)) (h : X4_forget_b0 h0 μ = some out) : out a = μ a := by
  unfold X4_forget_b0 at h
  have e9 := Option.some.inj h
  subst e9
  exact (wd_fr1 (by omega) (wd_fr1 (by omega) rfl))
theorem fr_X4_forget {out : wd_Mem} {h0 : Nat} {μ : wd_Mem} (a : Nat) (w0 : wd_isT h0) (ha : ¬ (a = h0)) (h : X4_forget h0 μ = some out) : out a = μ a := f_X4_forget_b0 h0 μ  a w0 ha h
theorem f_X5_nextNumber_c5 {out : wd_Mem} (rec : wd_Mem → Option (wd_Mem)) (k : wd_Mem → Option (wd_Mem)) (μ : wd_Mem) (a : Nat) (hrec : ∀  (ν : wd_Mem), rec ν = some out → out a = ν a) (hk : ∀  (ν : wd_Mem), k ν = some out → out a = ν a) (ha : ¬ (a = 1)) (h : X5_nextNumber_c5 rec k μ = some out) : out a = μ a := by
  unfold X5_nextNumber_c5 at h
  by_cases c1 : (μ 1 1) ≤ (μ 1 2)
  · have h := (if_pos c1).symm.trans h
    exact (hk _ h).trans rfl
  · have h := (if_neg c1).symm.trans h
    obtain ⟨-, h⟩ := wd_chk_some h
    by_cases c2 : (X5_isDigit μ (μ 2 (Int32.toNatClampNeg (μ 1 2)))) = 0
    · have h := (if_pos c2).symm.trans h
      exact (hk _ h).trans rfl
    · have h := (if_neg c2).symm.trans h
      exact (hrec _ h).trans (wd_fr1 (by omega) (wd_fr1 (by omega) rfl))
theorem f_X5_nextNumber_l5 {out : wd_Mem} (k : wd_Mem → Option (wd_Mem)) (a : Nat) (hk : ∀  (ν : wd_Mem), k ν = some out → out a = ν a) (ha : ¬ (a = 1)) : ∀ (n : Nat)  (μ : wd_Mem), X5_nextNumber_l5 k n μ = some out → out a = μ a := by
  intro n
  induction n with
  | zero => intro μ h; exact absurd h (by unfold X5_nextNumber_l5; simp)
  | succ n ih =>
    intro μ h
    exact f_X5_nextNumber_c5 (X5_nextNumber_l5 k n) k μ a  (fun μ h => ih μ h) hk ha h
theorem f_X5_nextNumber_b117 {out : wd_Mem} (μ : wd_Mem) (s1 : Int32) (a : Nat)  (ha : ¬ (a = 1)) (h : X5_nextNumber_b117 μ s1 = some out) : out a = μ a := by
  unfold X5_nextNumber_b117 at h
  have e9 := Option.some.inj h
  subst e9
  exact (wd_fr1 (by omega) rfl)
theorem f_X5_nextNumber_b105 {out : wd_Mem} (μ : wd_Mem) (s0 : Int32) (a : Nat)  (ha : ¬ (a = 1)) (h : X5_nextNumber_b105 μ s0 = some out) : out a = μ a := by
  unfold X5_nextNumber_b105 at h
  by_cases c4 : s0 = 0
  · have h := (if_pos c4).symm.trans h
    exact (f_X5_nextNumber_b117 μ (-2 : Int32) a  ha h).trans rfl
  · have h := (if_neg c4).symm.trans h
    exact (f_X5_nextNumber_b117 μ (-1 : Int32) a  ha h).trans rfl
theorem f_X5_nextNumber_b104 {out : wd_Mem} (μ : wd_Mem) (a : Nat)  (ha : ¬ (a = 1)) (h : X5_nextNumber_b104 μ = some out) : out a = μ a := by
  unfold X5_nextNumber_b104 at h
  exact (f_X5_nextNumber_b105 μ (0 : Int32) a  ha h).trans rfl
theorem f_X5_nextNumber_b73 {out : wd_Mem} (μ : wd_Mem) (a : Nat)  (ha : ¬ (a = 1)) (h : X5_nextNumber_b73 μ = some out) : out a = μ a := by
  unfold X5_nextNumber_b73 at h
  obtain ⟨-, h⟩ := wd_chk_some h
  by_cases c3 : (μ 2 (Int32.toNatClampNeg (μ 1 4))) = (48 : Int32)
  · have h := (if_pos c3).symm.trans h
    by_cases c5 : ((μ 1 2) - (μ 1 4)) ≤ (1 : Int32)
    · have h := (if_pos c5).symm.trans h
      exact (f_X5_nextNumber_b104 μ a  ha h).trans rfl
    · have h := (if_neg c5).symm.trans h
      exact (f_X5_nextNumber_b105 μ (1 : Int32) a  ha h).trans rfl
  · have h := (if_neg c3).symm.trans h
    exact (f_X5_nextNumber_b104 μ a  ha h).trans rfl
theorem f_X5_nextNumber_b0 {out : wd_Mem} (μ : wd_Mem) (a : Nat)  (ha : ¬ (a = 1)) (h : X5_nextNumber_b0 μ = some out) : out a = μ a := by
  unfold X5_nextNumber_b0 at h
  exact (f_X5_nextNumber_l5 (fun μ => X5_nextNumber_b73 μ) a  (fun μ h => f_X5_nextNumber_b73 μ a  ha h) ha wd_big (mset μ 1 5 (0 : Int32)) h).trans (wd_fr1 (by omega) rfl)
theorem fr_X5_nextNumber {out : wd_Mem} {μ : wd_Mem} (a : Nat)  (ha : ¬ (a = 1)) (h : X5_nextNumber μ = some out) : out a = μ a := f_X5_nextNumber_b0 μ  a  ha h
theorem f_X5_nextToken_c0 {out : wd_Mem} (rec : wd_Mem → Option (wd_Mem)) (k : wd_Mem → Option (wd_Mem)) (μ : wd_Mem) (a : Nat) (hrec : ∀  (ν : wd_Mem), rec ν = some out → out a = ν a) (hk : ∀  (ν : wd_Mem), k ν = some out → out a = ν a) (ha : ¬ (a = 1)) (h : X5_nextToken_c0 rec k μ = some out) : out a = μ a := by
  unfold X5_nextToken_c0 at h
  by_cases c1 : (μ 1 1) ≤ (μ 1 2)
  · have h := (if_pos c1).symm.trans h
    exact (hk _ h).trans rfl
  · have h := (if_neg c1).symm.trans h
    obtain ⟨-, h⟩ := wd_chk_some h
    by_cases c2 : (μ 2 (Int32.toNatClampNeg (μ 1 2))) = (32 : Int32)
    · have h := (if_pos c2).symm.trans h
      exact (hrec _ h).trans (wd_fr1 (by omega) rfl)
    · have h := (if_neg c2).symm.trans h
      exact (hk _ h).trans rfl
theorem f_X5_nextToken_l0 {out : wd_Mem} (k : wd_Mem → Option (wd_Mem)) (a : Nat) (hk : ∀  (ν : wd_Mem), k ν = some out → out a = ν a) (ha : ¬ (a = 1)) : ∀ (n : Nat)  (μ : wd_Mem), X5_nextToken_l0 k n μ = some out → out a = μ a := by
  intro n
  induction n with
  | zero => intro μ h; exact absurd h (by unfold X5_nextToken_l0; simp)
  | succ n ih =>
    intro μ h
    exact f_X5_nextToken_c0 (X5_nextToken_l0 k n) k μ a  (fun μ h => ih μ h) hk ha h
theorem f_X5_nextToken_b38 {out : wd_Mem} (μ : wd_Mem) (a : Nat)  (ha : ¬ (a = 1)) (h : X5_nextToken_b38 μ = some out) : out a = μ a := by
  unfold X5_nextToken_b38 at h
  by_cases c3 : (μ 1 2) < (μ 1 1)
  · have h := (if_pos c3).symm.trans h
    obtain ⟨-, h⟩ := wd_chk_some h
    by_cases c4 : (X5_isDigit (mset (mset μ 1 4 (μ 1 2)) 1 3 (-1 : Int32)) (μ 2 (Int32.toNatClampNeg (μ 1 2)))) = 0
    · have h := (if_pos c4).symm.trans h
      have e9 := Option.some.inj h
      subst e9
      exact (wd_fr1 (by omega) (wd_fr1 (by omega) (wd_fr1 (by omega) (wd_fr1 (by omega) rfl))))
    · have h := (if_neg c4).symm.trans h
      obtain ⟨r5, er5, h⟩ := wd_bind_some h
      have fr5 : r5 a = μ a := (fr_X5_nextNumber a  (by omega) er5).trans (wd_fr1 (by omega) (wd_fr1 (by omega) rfl))
      have e9 := Option.some.inj h
      subst e9
      exact fr5
  · have h := (if_neg c3).symm.trans h
    have e9 := Option.some.inj h
    subst e9
    exact (wd_fr1 (by omega) (wd_fr1 (by omega) rfl))
theorem f_X5_nextToken_b0 {out : wd_Mem} (μ : wd_Mem) (a : Nat)  (ha : ¬ (a = 1)) (h : X5_nextToken_b0 μ = some out) : out a = μ a := by
  unfold X5_nextToken_b0 at h
  exact (f_X5_nextToken_l0 (fun μ => X5_nextToken_b38 μ) a  (fun μ h => f_X5_nextToken_b38 μ a  ha h) ha wd_big μ h).trans rfl
theorem fr_X5_nextToken {out : wd_Mem} {μ : wd_Mem} (a : Nat)  (ha : ¬ (a = 1)) (h : X5_nextToken μ = some out) : out a = μ a := f_X5_nextToken_b0 μ  a  ha h
theorem f_X5_readNumber_b33 {out : Int32 × wd_Mem} (μ : wd_Mem) (a : Nat)  (ha : ¬ (a = 1)) (h : X5_readNumber_b33 μ = some out) : out.2 a = μ a := by
  unfold X5_readNumber_b33 at h
  have e9 := Option.some.inj h
  subst e9
  exact rfl
theorem f_X5_readNumber_b0 {out : Int32 × wd_Mem} (μ : wd_Mem) (x1 x2 : Int32) (a : Nat)  (ha : ¬ (a = 1)) (h : X5_readNumber_b0 μ x1 x2 = some out) : out.2 a = μ a := by
  unfold X5_readNumber_b0 at h
  obtain ⟨r1, er1, h⟩ := wd_bind_some h
  have fr1 : r1 a = μ a := (fr_X5_nextToken a  (by omega) er1).trans rfl
  by_cases c2 : (r1 1 3) = (-2 : Int32)
  · have h := (if_pos c2).symm.trans h
    by_cases c3 : (r1 1 5) < x1
    · have h := (if_pos c3).symm.trans h
      exact (f_X5_readNumber_b33 r1 a  ha h).trans fr1
    · have h := (if_neg c3).symm.trans h
      by_cases c4 : x2 < (r1 1 5)
      · have h := (if_pos c4).symm.trans h
        exact (f_X5_readNumber_b33 r1 a  ha h).trans fr1
      · have h := (if_neg c4).symm.trans h
        have e9 := Option.some.inj h
        subst e9
        exact fr1
  · have h := (if_neg c2).symm.trans h
    exact (f_X5_readNumber_b33 r1 a  ha h).trans fr1
theorem fr_X5_readNumber {out : Int32 × wd_Mem} {μ : wd_Mem} {x1 x2 : Int32} (a : Nat)  (ha : ¬ (a = 1)) (h : X5_readNumber μ x1 x2 = some out) : out.2 a = μ a := f_X5_readNumber_b0 μ x1 x2 a  ha h
theorem f_X5_readRoom_b0 {out : Int32 × wd_Mem} (h1 : Nat) (μ : wd_Mem) (a : Nat) (w1 : wd_isT h1) (ha : ¬ (a = 1 ∨ a = h1)) (h : X5_readRoom_b0 h1 μ = some out) : out.2 a = μ a := by
  unfold X5_readRoom_b0 at h
  obtain ⟨r1, er1, h⟩ := wd_bind_some h
  have fr1 : r1.2 a = μ a := (fr_X5_readNumber a  (by omega) er1).trans rfl
  by_cases c2 : r1.1 = 0
  · have h := (if_pos c2).symm.trans h
    have e9 := Option.some.inj h
    subst e9
    exact fr1
  · have h := (if_neg c2).symm.trans h
    have e9 := Option.some.inj h
    subst e9
    exact (wd_fr1 (by omega) fr1)
theorem fr_X5_readRoom {out : Int32 × wd_Mem} {h1 : Nat} {μ : wd_Mem} (a : Nat) (w1 : wd_isT h1) (ha : ¬ (a = 1 ∨ a = h1)) (h : X5_readRoom h1 μ = some out) : out.2 a = μ a := f_X5_readRoom_b0 h1 μ  a w1 ha h
theorem f_X6_move_b0 {out : wd_Mem} (h0 : Nat) (μ : wd_Mem) (x1 x2 x3 x4 x5 : Int32) (a : Nat) (w0 : wd_isW h0) (ha : ¬ (a = h0 + 1 ∨ a = h0 + 2 ∨ a = h0 + 3)) (h : X6_move_b0 h0 μ x1 x2 x3 x4 x5 = some out) : out a = μ a := by
  unfold X6_move_b0 at h
  obtain ⟨-, h⟩ := wd_chk_some h
  have e9 := Option.some.inj h
  subst e9
  exact (wd_fr1 (by omega) (wd_fr1 (by omega) (wd_fr1 (by omega) rfl)))
theorem fr_X6_move {out : wd_Mem} {h0 : Nat} {μ : wd_Mem} {x1 x2 x3 x4 x5 : Int32} (a : Nat) (w0 : wd_isW h0) (ha : ¬ (a = h0 + 1 ∨ a = h0 + 2 ∨ a = h0 + 3)) (h : X6_move h0 μ x1 x2 x3 x4 x5 = some out) : out a = μ a := f_X6_move_b0 h0 μ x1 x2 x3 x4 x5 a w0 ha h
theorem f_X6_open_b0 {out : wd_Mem} (h0 : Nat) (μ : wd_Mem) (x1 x2 x3 : Int32) (a : Nat) (w0 : wd_isW h0) (ha : ¬ (a = h0 + 1 ∨ a = h0 + 2 ∨ a = h0 + 3)) (h : X6_open_b0 h0 μ x1 x2 x3 = some out) : out a = μ a := by
  unfold X6_open_b0 at h
  obtain ⟨r1, er1, h⟩ := wd_bind_some h
  have fr1 : r1 a = μ a := (fr_X6_move a w0 (by omega) er1).trans rfl
  obtain ⟨r2, er2, h⟩ := wd_bind_some h
  have fr2 : r2 a = μ a := (fr_X6_move a w0 (by omega) er2).trans fr1
  have e9 := Option.some.inj h
  subst e9
  exact fr2
theorem fr_X6_open {out : wd_Mem} {h0 : Nat} {μ : wd_Mem} {x1 x2 x3 : Int32} (a : Nat) (w0 : wd_isW h0) (ha : ¬ (a = h0 + 1 ∨ a = h0 + 2 ∨ a = h0 + 3)) (h : X6_open h0 μ x1 x2 x3 = some out) : out a = μ a := f_X6_open_b0 h0 μ x1 x2 x3 a w0 ha h
theorem f_X4_add_b0 {out : wd_Mem} (h0 : Nat) (μ : wd_Mem) (x1 x2 : Int32) (a : Nat) (w0 : wd_isT h0) (ha : ¬ (a = h0 ∨ a = h0 + 1 ∨ a = h0 + 2)) (h : X4_add_b0 h0 μ x1 x2 = some out) : out a = μ a := by
  unfold X4_add_b0 at h
  by_cases c1 : (5 : Int32) ≤ (μ h0 1)
  · have h := (if_pos c1).symm.trans h
    have e9 := Option.some.inj h
    subst e9
    exact rfl
  · have h := (if_neg c1).symm.trans h
    obtain ⟨-, h⟩ := wd_chk_some h
    obtain ⟨-, h⟩ := wd_chk_some h
    have e9 := Option.some.inj h
    subst e9
    exact (wd_fr1 (by omega) (wd_fr1 (by omega) (wd_fr1 (by omega) rfl)))
theorem fr_X4_add {out : wd_Mem} {h0 : Nat} {μ : wd_Mem} {x1 x2 : Int32} (a : Nat) (w0 : wd_isT h0) (ha : ¬ (a = h0 ∨ a = h0 + 1 ∨ a = h0 + 2)) (h : X4_add h0 μ x1 x2 = some out) : out a = μ a := f_X4_add_b0 h0 μ x1 x2 a w0 ha h
theorem f_X5_readTask_b27 {out : Int32 × wd_Mem} (h1 : Nat) (h2 : Nat) (μ : wd_Mem) (a : Nat) (w1 : wd_isT h1) (w2 : wd_isW h2) (ha : ¬ (a = 1 ∨ a = h1 ∨ a = h1 + 1 ∨ a = h1 + 2 ∨ a = h2 + 1 ∨ a = h2 + 2 ∨ a = h2 + 3)) (h : X5_readTask_b27 h1 h2 μ = some out) : out.2 a = μ a := by
  unfold X5_readTask_b27 at h
  have e9 := Option.some.inj h
  subst e9
  exact rfl
theorem f_X5_readTask_b0 {out : Int32 × wd_Mem} (h1 : Nat) (h2 : Nat) (μ : wd_Mem) (a : Nat) (w1 : wd_isT h1) (w2 : wd_isW h2) (ha : ¬ (a = 1 ∨ a = h1 ∨ a = h1 + 1 ∨ a = h1 + 2 ∨ a = h2 + 1 ∨ a = h2 + 2 ∨ a = h2 + 3)) (h : X5_readTask_b0 h1 h2 μ = some out) : out.2 a = μ a := by
  unfold X5_readTask_b0 at h
  by_cases c1 : (μ 1 3) = (116 : Int32)
  · have h := (if_pos c1).symm.trans h
    by_cases c2 : (5 : Int32) ≤ (μ h1 1)
    · have h := (if_pos c2).symm.trans h
      exact (f_X5_readTask_b27 h1 h2 μ a w1 w2 ha h).trans rfl
    · have h := (if_neg c2).symm.trans h
      obtain ⟨r3, er3, h⟩ := wd_bind_some h
      have fr3 : r3.2 a = μ a := (fr_X5_readNumber a  (by omega) er3).trans rfl
      by_cases c4 : r3.1 = 0
      · have h := (if_pos c4).symm.trans h
        exact (f_X5_readTask_b27 h1 h2 r3.2 a w1 w2 ha h).trans fr3
      · have h := (if_neg c4).symm.trans h
        obtain ⟨r5, er5, h⟩ := wd_bind_some h
        have fr5 : r5.2 a = μ a := (fr_X5_readNumber a  (by omega) er5).trans fr3
        by_cases c6 : r5.1 = 0
        · have h := (if_pos c6).symm.trans h
          have e9 := Option.some.inj h
          subst e9
          exact fr5
        · have h := (if_neg c6).symm.trans h
          obtain ⟨r7, er7, h⟩ := wd_bind_some h
          have fr7 : r7.2 a = μ a := (fr_X5_readNumber a  (by omega) er7).trans fr5
          by_cases c8 : r7.1 = 0
          · have h := (if_pos c8).symm.trans h
            have e9 := Option.some.inj h
            subst e9
            exact fr7
          · have h := (if_neg c8).symm.trans h
            obtain ⟨r9, er9, h⟩ := wd_bind_some h
            have fr9 : r9.2 a = μ a := (fr_X5_readNumber a  (by omega) er9).trans fr7
            by_cases c10 : r9.1 = 0
            · have h := (if_pos c10).symm.trans h
              have e9 := Option.some.inj h
              subst e9
              exact fr9
            · have h := (if_neg c10).symm.trans h
              obtain ⟨r11, er11, h⟩ := wd_bind_some h
              have fr11 : r11 a = μ a := (fr_X6_open a w2 (by omega) er11).trans fr9
              obtain ⟨r12, er12, h⟩ := wd_bind_some h
              have fr12 : r12 a = μ a := (fr_X4_add a w1 (by omega) er12).trans fr11
              have e9 := Option.some.inj h
              subst e9
              exact fr12
  · have h := (if_neg c1).symm.trans h
    exact (f_X5_readTask_b27 h1 h2 μ a w1 w2 ha h).trans rfl
theorem fr_X5_readTask {out : Int32 × wd_Mem} {h1 : Nat} {h2 : Nat} {μ : wd_Mem} (a : Nat) (w1 : wd_isT h1) (w2 : wd_isW h2) (ha : ¬ (a = 1 ∨ a = h1 ∨ a = h1 + 1 ∨ a = h1 + 2 ∨ a = h2 + 1 ∨ a = h2 + 2 ∨ a = h2 + 3)) (h : X5_readTask h1 h2 μ = some out) : out.2 a = μ a := f_X5_readTask_b0 h1 h2 μ  a w1 w2 ha h
theorem f_X5_readItemEnd_b0 {out : Int32 × wd_Mem} (μ : wd_Mem) (a : Nat)  (ha : ¬ (a = 1)) (h : X5_readItemEnd_b0 μ = some out) : out.2 a = μ a := by
  unfold X5_readItemEnd_b0 at h
  obtain ⟨r1, er1, h⟩ := wd_bind_some h
  have fr1 : r1 a = μ a := (fr_X5_nextToken a  (by omega) er1).trans rfl
  by_cases c2 : (r1 1 3) = (59 : Int32)
  · have h := (if_pos c2).symm.trans h
    have e9 := Option.some.inj h
    subst e9
    exact fr1
  · have h := (if_neg c2).symm.trans h
    have e9 := Option.some.inj h
    subst e9
    exact fr1
theorem fr_X5_readItemEnd {out : Int32 × wd_Mem} {μ : wd_Mem} (a : Nat)  (ha : ¬ (a = 1)) (h : X5_readItemEnd μ = some out) : out.2 a = μ a := f_X5_readItemEnd_b0 μ  a  ha h
theorem f_X5_read_b69 {out : Int32 × wd_Mem} (rec : Int32 → wd_Mem → Option (Int32 × wd_Mem)) (k : wd_Mem → Option (Int32 × wd_Mem)) (h1 : Nat) (h2 : Nat) (μ : wd_Mem) (x3 s0 : Int32) (a : Nat) (w1 : wd_isT h1) (w2 : wd_isW h2) (hrec : ∀ (x3 : Int32) (ν : wd_Mem), rec x3 ν = some out → out.2 a = ν a) (hk : ∀  (ν : wd_Mem), k ν = some out → out.2 a = ν a) (ha : ¬ (a = 1 ∨ a = h1 ∨ a = h1 + 1 ∨ a = h1 + 2 ∨ a = h2 + 1 ∨ a = h2 + 2 ∨ a = h2 + 3)) (h : X5_read_b69 rec k h1 h2 μ x3 s0 = some out) : out.2 a = μ a := by
  unfold X5_read_b69 at h
  by_cases c7 : s0 = 0
  · have h := (if_pos c7).symm.trans h
    have e9 := Option.some.inj h
    subst e9
    exact rfl
  · have h := (if_neg c7).symm.trans h
    obtain ⟨r8, er8, h⟩ := wd_bind_some h
    have fr8 : r8.2 a = μ a := (fr_X5_readItemEnd a  (by omega) er8).trans rfl
    by_cases c9 : r8.1 = 0
    · have h := (if_pos c9).symm.trans h
      have e9 := Option.some.inj h
      subst e9
      exact fr8
    · have h := (if_neg c9).symm.trans h
      exact (hrec _ _ h).trans fr8
theorem f_X5_read_b59 {out : Int32 × wd_Mem} (rec : Int32 → wd_Mem → Option (Int32 × wd_Mem)) (k : wd_Mem → Option (Int32 × wd_Mem)) (h1 : Nat) (h2 : Nat) (μ : wd_Mem) (x3 : Int32) (a : Nat) (w1 : wd_isT h1) (w2 : wd_isW h2) (hrec : ∀ (x3 : Int32) (ν : wd_Mem), rec x3 ν = some out → out.2 a = ν a) (hk : ∀  (ν : wd_Mem), k ν = some out → out.2 a = ν a) (ha : ¬ (a = 1 ∨ a = h1 ∨ a = h1 + 1 ∨ a = h1 + 2 ∨ a = h2 + 1 ∨ a = h2 + 2 ∨ a = h2 + 3)) (h : X5_read_b59 rec k h1 h2 μ x3 = some out) : out.2 a = μ a := by
  unfold X5_read_b59 at h
  exact (f_X5_read_b69 rec k h1 h2 μ x3 (0 : Int32) a w1 w2 hrec hk ha h).trans rfl
theorem f_X5_read_c11 {out : Int32 × wd_Mem} (rec : Int32 → wd_Mem → Option (Int32 × wd_Mem)) (k : wd_Mem → Option (Int32 × wd_Mem)) (h1 : Nat) (h2 : Nat) (μ : wd_Mem) (x3 : Int32) (a : Nat) (w1 : wd_isT h1) (w2 : wd_isW h2) (hrec : ∀ (x3 : Int32) (ν : wd_Mem), rec x3 ν = some out → out.2 a = ν a) (hk : ∀  (ν : wd_Mem), k ν = some out → out.2 a = ν a) (ha : ¬ (a = 1 ∨ a = h1 ∨ a = h1 + 1 ∨ a = h1 + 2 ∨ a = h2 + 1 ∨ a = h2 + 2 ∨ a = h2 + 3)) (h : X5_read_c11 rec k h1 h2 μ x3 = some out) : out.2 a = μ a := by
  unfold X5_read_c11 at h
  by_cases c2 : (100 : Int32) < x3
  · have h := (if_pos c2).symm.trans h
    exact (hk _ h).trans rfl
  · have h := (if_neg c2).symm.trans h
    obtain ⟨r3, er3, h⟩ := wd_bind_some h
    have fr3 : r3 a = μ a := (fr_X5_nextToken a  (by omega) er3).trans rfl
    by_cases c4 : (r3 1 4) < (r3 1 1)
    · have h := (if_pos c4).symm.trans h
      by_cases c5 : (r3 1 3) = (99 : Int32)
      · have h := (if_pos c5).symm.trans h
        by_cases c10 : x3 = 0
        · have h := (if_pos c10).symm.trans h
          obtain ⟨r11, er11, h⟩ := wd_bind_some h
          have fr11 : r11.2 a = μ a := (fr_X5_readRoom a w1 (by omega) er11).trans fr3
          by_cases c12 : r11.1 = 0
          · have h := (if_pos c12).symm.trans h
            exact (f_X5_read_b59 rec k h1 h2 r11.2 x3 a w1 w2 hrec hk ha h).trans fr11
          · have h := (if_neg c12).symm.trans h
            exact (f_X5_read_b69 rec k h1 h2 r11.2 x3 (1 : Int32) a w1 w2 hrec hk ha h).trans fr11
        · have h := (if_neg c10).symm.trans h
          exact (f_X5_read_b59 rec k h1 h2 r3 x3 a w1 w2 hrec hk ha h).trans fr3
      · have h := (if_neg c5).symm.trans h
        obtain ⟨r6, er6, h⟩ := wd_bind_some h
        have fr6 : r6.2 a = μ a := (fr_X5_readTask a w1 w2 (by omega) er6).trans fr3
        exact (f_X5_read_b69 rec k h1 h2 r6.2 x3 r6.1 a w1 w2 hrec hk ha h).trans fr6
    · have h := (if_neg c4).symm.trans h
      have e9 := Option.some.inj h
      subst e9
      exact fr3
theorem f_X5_read_l11 {out : Int32 × wd_Mem} (k : wd_Mem → Option (Int32 × wd_Mem)) (h1 : Nat) (h2 : Nat) (a : Nat) (w1 : wd_isT h1) (w2 : wd_isW h2) (hk : ∀  (ν : wd_Mem), k ν = some out → out.2 a = ν a) (ha : ¬ (a = 1 ∨ a = h1 ∨ a = h1 + 1 ∨ a = h1 + 2 ∨ a = h2 + 1 ∨ a = h2 + 2 ∨ a = h2 + 3)) : ∀ (n : Nat) (x3 : Int32) (μ : wd_Mem), X5_read_l11 k h1 h2 n x3 μ = some out → out.2 a = μ a := by
  intro n
  induction n with
  | zero => intro x3 μ h; exact absurd h (by unfold X5_read_l11; simp)
  | succ n ih =>
    intro x3 μ h
    exact f_X5_read_c11 (X5_read_l11 k h1 h2 n) k h1 h2 μ x3 a w1 w2 (fun x3 μ h => ih x3 μ h) hk ha h
theorem f_X5_read_b97 {out : Int32 × wd_Mem} (h1 : Nat) (h2 : Nat) (μ : wd_Mem) (a : Nat) (w1 : wd_isT h1) (w2 : wd_isW h2) (ha : ¬ (a = 1 ∨ a = h1 ∨ a = h1 + 1 ∨ a = h1 + 2 ∨ a = h2 + 1 ∨ a = h2 + 2 ∨ a = h2 + 3)) (h : X5_read_b97 h1 h2 μ = some out) : out.2 a = μ a := by
  unfold X5_read_b97 at h
  have e9 := Option.some.inj h
  subst e9
  exact rfl
theorem f_X5_read_b0 {out : Int32 × wd_Mem} (h1 : Nat) (h2 : Nat) (μ : wd_Mem) (a : Nat) (w1 : wd_isT h1) (w2 : wd_isW h2) (ha : ¬ (a = 1 ∨ a = h1 ∨ a = h1 + 1 ∨ a = h1 + 2 ∨ a = h2 + 1 ∨ a = h2 + 2 ∨ a = h2 + 3)) (h : X5_read_b0 h1 h2 μ = some out) : out.2 a = μ a := by
  unfold X5_read_b0 at h
  obtain ⟨r1, er1, h⟩ := wd_bind_some h
  have fr1 : r1 a = μ a := (fr_X4_forget a w1 (by omega) er1).trans rfl
  exact (f_X5_read_l11 (fun μ => X5_read_b97 h1 h2 μ) h1 h2 a w1 w2 (fun μ h => f_X5_read_b97 h1 h2 μ a w1 w2 ha h) ha wd_big (0 : Int32) (mset r1 1 2 (0 : Int32)) h).trans (wd_fr1 (by omega) fr1)
theorem fr_X5_read {out : Int32 × wd_Mem} {h1 : Nat} {h2 : Nat} {μ : wd_Mem} (a : Nat) (w1 : wd_isT h1) (w2 : wd_isW h2) (ha : ¬ (a = 1 ∨ a = h1 ∨ a = h1 + 1 ∨ a = h1 + 2 ∨ a = h2 + 1 ∨ a = h2 + 2 ∨ a = h2 + 3)) (h : X5_read h1 h2 μ = some out) : out.2 a = μ a := f_X5_read_b0 h1 h2 μ  a w1 w2 ha h
theorem f_X4_take_c18 {out : wd_Mem} (rec : Int32 → wd_Mem → Option (wd_Mem)) (k : wd_Mem → Option (wd_Mem)) (h0 : Nat) (h1 : Nat) (μ : wd_Mem) (x2 : Int32) (a : Nat) (w0 : wd_isT h0) (w1 : wd_isT h1) (hrec : ∀ (x2 : Int32) (ν : wd_Mem), rec x2 ν = some out → out a = ν a) (hk : ∀  (ν : wd_Mem), k ν = some out → out a = ν a) (ha : ¬ (a = h0 ∨ a = h0 + 1 ∨ a = h0 + 2)) (h : X4_take_c18 rec k h0 h1 μ x2 = some out) : out a = μ a := by
  unfold X4_take_c18 at h
  by_cases c1 : (5 : Int32) ≤ x2
  · have h := (if_pos c1).symm.trans h
    exact (hk _ h).trans rfl
  · have h := (if_neg c1).symm.trans h
    obtain ⟨-, h⟩ := wd_chk_some h
    exact (hrec _ _ h).trans (wd_fr1 (by omega) (wd_fr1 (by omega) rfl))
theorem f_X4_take_l18 {out : wd_Mem} (k : wd_Mem → Option (wd_Mem)) (h0 : Nat) (h1 : Nat) (a : Nat) (w0 : wd_isT h0) (w1 : wd_isT h1) (hk : ∀  (ν : wd_Mem), k ν = some out → out a = ν a) (ha : ¬ (a = h0 ∨ a = h0 + 1 ∨ a = h0 + 2)) : ∀ (n : Nat) (x2 : Int32) (μ : wd_Mem), X4_take_l18 k h0 h1 n x2 μ = some out → out a = μ a := by
  intro n
  induction n with
  | zero => intro x2 μ h; exact absurd h (by unfold X4_take_l18; simp)
  | succ n ih =>
    intro x2 μ h
    exact f_X4_take_c18 (X4_take_l18 k h0 h1 n) k h0 h1 μ x2 a w0 w1 (fun x2 μ h => ih x2 μ h) hk ha h
theorem f_X4_take_b53 {out : wd_Mem} (h0 : Nat) (h1 : Nat) (μ : wd_Mem) (a : Nat) (w0 : wd_isT h0) (w1 : wd_isT h1) (ha : ¬ (a = h0 ∨ a = h0 + 1 ∨ a = h0 + 2)) (h : X4_take_b53 h0 h1 μ = some out) : out a = μ a := by
  unfold X4_take_b53 at h
  have e9 := Option.some.inj h
  subst e9
  exact rfl
theorem f_X4_take_b0 {out : wd_Mem} (h0 : Nat) (h1 : Nat) (μ : wd_Mem) (a : Nat) (w0 : wd_isT h0) (w1 : wd_isT h1) (ha : ¬ (a = h0 ∨ a = h0 + 1 ∨ a = h0 + 2)) (h : X4_take_b0 h0 h1 μ = some out) : out a = μ a := by
  unfold X4_take_b0 at h
  exact (f_X4_take_l18 (fun μ => X4_take_b53 h0 h1 μ) h0 h1 a w0 w1 (fun μ h => f_X4_take_b53 h0 h1 μ a w0 w1 ha h) ha wd_big (0 : Int32) (mset (mset μ h0 0 (μ h1 0)) h0 1 ((mset μ h0 0 (μ h1 0)) h1 1)) h).trans (wd_fr1 (by omega) (wd_fr1 (by omega) rfl))
theorem fr_X4_take {out : wd_Mem} {h0 : Nat} {h1 : Nat} {μ : wd_Mem} (a : Nat) (w0 : wd_isT h0) (w1 : wd_isT h1) (ha : ¬ (a = h0 ∨ a = h0 + 1 ∨ a = h0 + 2)) (h : X4_take h0 h1 μ = some out) : out a = μ a := f_X4_take_b0 h0 h1 μ  a w0 w1 ha h
theorem f_X6_take_c2 {out : wd_Mem} (rec : Int32 → wd_Mem → Option (wd_Mem)) (k : wd_Mem → Option (wd_Mem)) (h0 : Nat) (h1 : Nat) (μ : wd_Mem) (x2 : Int32) (a : Nat) (w0 : wd_isW h0) (w1 : wd_isW h1) (hrec : ∀ (x2 : Int32) (ν : wd_Mem), rec x2 ν = some out → out a = ν a) (hk : ∀  (ν : wd_Mem), k ν = some out → out a = ν a) (ha : ¬ (a = h0 + 1 ∨ a = h0 + 2 ∨ a = h0 + 3)) (h : X6_take_c2 rec k h0 h1 μ x2 = some out) : out a = μ a := by
  unfold X6_take_c2 at h
  by_cases c1 : (10 : Int32) ≤ x2
  · have h := (if_pos c1).symm.trans h
    exact (hk _ h).trans rfl
  · have h := (if_neg c1).symm.trans h
    obtain ⟨-, h⟩ := wd_chk_some h
    exact (hrec _ _ h).trans (wd_fr1 (by omega) (wd_fr1 (by omega) (wd_fr1 (by omega) rfl)))
theorem f_X6_take_l2 {out : wd_Mem} (k : wd_Mem → Option (wd_Mem)) (h0 : Nat) (h1 : Nat) (a : Nat) (w0 : wd_isW h0) (w1 : wd_isW h1) (hk : ∀  (ν : wd_Mem), k ν = some out → out a = ν a) (ha : ¬ (a = h0 + 1 ∨ a = h0 + 2 ∨ a = h0 + 3)) : ∀ (n : Nat) (x2 : Int32) (μ : wd_Mem), X6_take_l2 k h0 h1 n x2 μ = some out → out a = μ a := by
  intro n
  induction n with
  | zero => intro x2 μ h; exact absurd h (by unfold X6_take_l2; simp)
  | succ n ih =>
    intro x2 μ h
    exact f_X6_take_c2 (X6_take_l2 k h0 h1 n) k h0 h1 μ x2 a w0 w1 (fun x2 μ h => ih x2 μ h) hk ha h
theorem f_X6_take_b50 {out : wd_Mem} (h0 : Nat) (h1 : Nat) (μ : wd_Mem) (a : Nat) (w0 : wd_isW h0) (w1 : wd_isW h1) (ha : ¬ (a = h0 + 1 ∨ a = h0 + 2 ∨ a = h0 + 3)) (h : X6_take_b50 h0 h1 μ = some out) : out a = μ a := by
  unfold X6_take_b50 at h
  have e9 := Option.some.inj h
  subst e9
  exact rfl
theorem f_X6_take_b0 {out : wd_Mem} (h0 : Nat) (h1 : Nat) (μ : wd_Mem) (a : Nat) (w0 : wd_isW h0) (w1 : wd_isW h1) (ha : ¬ (a = h0 + 1 ∨ a = h0 + 2 ∨ a = h0 + 3)) (h : X6_take_b0 h0 h1 μ = some out) : out a = μ a := by
  unfold X6_take_b0 at h
  exact (f_X6_take_l2 (fun μ => X6_take_b50 h0 h1 μ) h0 h1 a w0 w1 (fun μ h => f_X6_take_b50 h0 h1 μ a w0 w1 ha h) ha wd_big (0 : Int32) μ h).trans rfl
theorem fr_X6_take {out : wd_Mem} {h0 : Nat} {h1 : Nat} {μ : wd_Mem} (a : Nat) (w0 : wd_isW h0) (w1 : wd_isW h1) (ha : ¬ (a = h0 + 1 ∨ a = h0 + 2 ∨ a = h0 + 3)) (h : X6_take h0 h1 μ = some out) : out a = μ a := f_X6_take_b0 h0 h1 μ  a w0 w1 ha h
theorem f_X7_desk_c62 {out : Int32 × wd_Mem} (rec : Int32 → wd_Mem → Option (Int32 × wd_Mem)) (k : wd_Mem → Option (Int32 × wd_Mem)) (μ : wd_Mem) (x1 x2 : Int32) (a : Nat) (hrec : ∀ (x2 : Int32) (ν : wd_Mem), rec x2 ν = some out → out.2 a = ν a) (hk : ∀  (ν : wd_Mem), k ν = some out → out.2 a = ν a) (ha : ¬ (a = 1 ∨ a = 3 ∨ a = 4 ∨ a = 5 ∨ a = 6 ∨ a = 7 ∨ a = 8 ∨ a = 27 ∨ a = 30 ∨ a = 49 ∨ a = 50 ∨ a = 51 ∨ a = 53 ∨ a = 54 ∨ a = 55)) (h : X7_desk_c62 rec k μ x1 x2 = some out) : out.2 a = μ a := by
  unfold X7_desk_c62 at h
  by_cases c5 : (2 : Int32) ≤ x2
  · have h := (if_pos c5).symm.trans h
    exact (hk _ h).trans rfl
  · have h := (if_neg c5).symm.trans h
    obtain ⟨-, h⟩ := wd_chk_some h
    exact (hrec _ _ h).trans (wd_fr1 (by omega) rfl)
theorem f_X7_desk_l62 {out : Int32 × wd_Mem} (k : wd_Mem → Option (Int32 × wd_Mem)) (x1 : Int32) (a : Nat) (hk : ∀  (ν : wd_Mem), k ν = some out → out.2 a = ν a) (ha : ¬ (a = 1 ∨ a = 3 ∨ a = 4 ∨ a = 5 ∨ a = 6 ∨ a = 7 ∨ a = 8 ∨ a = 27 ∨ a = 30 ∨ a = 49 ∨ a = 50 ∨ a = 51 ∨ a = 53 ∨ a = 54 ∨ a = 55)) : ∀ (n : Nat) (x2 : Int32) (μ : wd_Mem), X7_desk_l62 k x1 n x2 μ = some out → out.2 a = μ a := by
  intro n
  induction n with
  | zero => intro x2 μ h; exact absurd h (by unfold X7_desk_l62; simp)
  | succ n ih =>
    intro x2 μ h
    exact f_X7_desk_c62 (X7_desk_l62 k x1 n) k μ x1 x2 a  (fun x2 μ h => ih x2 μ h) hk ha h
theorem f_X7_desk_b80 {out : Int32 × wd_Mem} (μ : wd_Mem) (x1 : Int32) (a : Nat)  (ha : ¬ (a = 1 ∨ a = 3 ∨ a = 4 ∨ a = 5 ∨ a = 6 ∨ a = 7 ∨ a = 8 ∨ a = 27 ∨ a = 30 ∨ a = 49 ∨ a = 50 ∨ a = 51 ∨ a = 53 ∨ a = 54 ∨ a = 55)) (h : X7_desk_b80 μ x1 = some out) : out.2 a = μ a := by
  unfold X7_desk_b80 at h
  have e9 := Option.some.inj h
  subst e9
  exact rfl
theorem f_X7_desk_b0 {out : Int32 × wd_Mem} (μ : wd_Mem) (a : Nat)  (ha : ¬ (a = 1 ∨ a = 3 ∨ a = 4 ∨ a = 5 ∨ a = 6 ∨ a = 7 ∨ a = 8 ∨ a = 27 ∨ a = 30 ∨ a = 49 ∨ a = 50 ∨ a = 51 ∨ a = 53 ∨ a = 54 ∨ a = 55)) (h : X7_desk_b0 μ = some out) : out.2 a = μ a := by
  unfold X7_desk_b0 at h
  obtain ⟨r1, er1, h⟩ := wd_bind_some h
  have fr1 : r1.2 a = μ a := (fr_X5_read a (Or.inr rfl) sh_52 (by omega) er1).trans rfl
  by_cases c2 : 0 ≤ r1.1
  · have h := (if_pos c2).symm.trans h
    obtain ⟨r3, er3, h⟩ := wd_bind_some h
    have fr3 : r3 a = μ a := (fr_X4_take a (Or.inl rfl) (Or.inr rfl) (by omega) er3).trans fr1
    obtain ⟨r4, er4, h⟩ := wd_bind_some h
    have fr4 : r4 a = μ a := (fr_X6_take a sh_48 sh_52 (by omega) er4).trans fr3
    exact (f_X7_desk_l62 (fun μ => X7_desk_b80 μ r1.1) r1.1 a  (fun μ h => f_X7_desk_b80 μ r1.1 a  ha h) ha wd_big (0 : Int32) (mset (mset r4 1 1 (0 : Int32)) 27 2 (0 : Int32)) h).trans (wd_fr1 (by omega) (wd_fr1 (by omega) fr4))
  · have h := (if_neg c2).symm.trans h
    have e9 := Option.some.inj h
    subst e9
    exact fr1
theorem fr_X7_desk {out : Int32 × wd_Mem} {μ : wd_Mem} (a : Nat)  (ha : ¬ (a = 1 ∨ a = 3 ∨ a = 4 ∨ a = 5 ∨ a = 6 ∨ a = 7 ∨ a = 8 ∨ a = 27 ∨ a = 30 ∨ a = 49 ∨ a = 50 ∨ a = 51 ∨ a = 53 ∨ a = 54 ∨ a = 55)) (h : X7_desk μ = some out) : out.2 a = μ a := f_X7_desk_b0 μ  a  ha h
theorem f_X2_open_c2 {out : wd_Mem} (rec : Int32 → wd_Mem → Option (wd_Mem)) (k : wd_Mem → Option (wd_Mem)) (h1 : Nat) (μ : wd_Mem) (x2 : Int32) (a : Nat) (w1 : wd_isW h1) (hrec : ∀ (x2 : Int32) (ν : wd_Mem), rec x2 ν = some out → out a = ν a) (hk : ∀  (ν : wd_Mem), k ν = some out → out a = ν a) (ha : ¬ (a = 22 ∨ a = 23 ∨ a = 24)) (h : X2_open_c2 rec k h1 μ x2 = some out) : out a = μ a := by
  unfold X2_open_c2 at h
  by_cases c1 : (μ 3 1) ≤ x2
  · have h := (if_pos c1).symm.trans h
    exact (hk _ h).trans rfl
  · have h := (if_neg c1).symm.trans h
    obtain ⟨r2, er2, h⟩ := wd_bind_some h
    obtain ⟨-, h⟩ := wd_chk_some h
    obtain ⟨r3, er3, h⟩ := wd_bind_some h
    exact (hrec _ _ h).trans (wd_fr1 (by omega) (wd_fr1 (by omega) (wd_fr1 (by omega) rfl)))
theorem f_X2_open_l2 {out : wd_Mem} (k : wd_Mem → Option (wd_Mem)) (h1 : Nat) (a : Nat) (w1 : wd_isW h1) (hk : ∀  (ν : wd_Mem), k ν = some out → out a = ν a) (ha : ¬ (a = 22 ∨ a = 23 ∨ a = 24)) : ∀ (n : Nat) (x2 : Int32) (μ : wd_Mem), X2_open_l2 k h1 n x2 μ = some out → out a = μ a := by
  intro n
  induction n with
  | zero => intro x2 μ h; exact absurd h (by unfold X2_open_l2; simp)
  | succ n ih =>
    intro x2 μ h
    exact f_X2_open_c2 (X2_open_l2 k h1 n) k h1 μ x2 a w1 (fun x2 μ h => ih x2 μ h) hk ha h
theorem f_X2_open_b58 {out : wd_Mem} (h1 : Nat) (μ : wd_Mem) (a : Nat) (w1 : wd_isW h1) (ha : ¬ (a = 22 ∨ a = 23 ∨ a = 24)) (h : X2_open_b58 h1 μ = some out) : out a = μ a := by
  unfold X2_open_b58 at h
  have e9 := Option.some.inj h
  subst e9
  exact rfl
theorem f_X2_open_b0 {out : wd_Mem} (h1 : Nat) (μ : wd_Mem) (a : Nat) (w1 : wd_isW h1) (ha : ¬ (a = 22 ∨ a = 23 ∨ a = 24)) (h : X2_open_b0 h1 μ = some out) : out a = μ a := by
  unfold X2_open_b0 at h
  exact (f_X2_open_l2 (fun μ => X2_open_b58 h1 μ) h1 a w1 (fun μ h => f_X2_open_b58 h1 μ a w1 ha h) ha wd_big (0 : Int32) μ h).trans rfl
theorem fr_X2_open {out : wd_Mem} {h1 : Nat} {μ : wd_Mem} (a : Nat) (w1 : wd_isW h1) (ha : ¬ (a = 22 ∨ a = 23 ∨ a = 24)) (h : X2_open h1 μ = some out) : out a = μ a := f_X2_open_b0 h1 μ  a w1 ha h
theorem f_X2_pin_b0 {out : wd_Mem} (μ : wd_Mem) (x1 x2 : Int32) (a : Nat)  (ha : ¬ (a = 22 ∨ a = 23)) (h : X2_pin_b0 μ x1 x2 = some out) : out a = μ a := by
  unfold X2_pin_b0 at h
  obtain ⟨-, h⟩ := wd_chk_some h
  have e9 := Option.some.inj h
  subst e9
  exact (wd_fr1 (by omega) (wd_fr1 (by omega) rfl))
theorem fr_X2_pin {out : wd_Mem} {μ : wd_Mem} {x1 x2 : Int32} (a : Nat)  (ha : ¬ (a = 22 ∨ a = 23)) (h : X2_pin μ x1 x2 = some out) : out a = μ a := f_X2_pin_b0 μ x1 x2 a  ha h
theorem f_X2_fill_c3 {out : wd_Mem} (rec : Int32 → wd_Mem → Option (wd_Mem)) (k : wd_Mem → Option (wd_Mem)) (μ : wd_Mem) (x1 x2 x3 x4 : Int32) (a : Nat) (hrec : ∀ (x4 : Int32) (ν : wd_Mem), rec x4 ν = some out → out a = ν a) (hk : ∀  (ν : wd_Mem), k ν = some out → out a = ν a) (ha : ¬ (a = 26)) (h : X2_fill_c3 rec k μ x1 x2 x3 x4 = some out) : out a = μ a := by
  unfold X2_fill_c3 at h
  obtain ⟨-, h⟩ := wd_chk_some h
  by_cases c1 : (x2 + (μ 4 (Int32.toNatClampNeg x1))) ≤ x4
  · have h := (if_pos c1).symm.trans h
    exact (hk _ h).trans rfl
  · have h := (if_neg c1).symm.trans h
    by_cases c2 : (16 : Int32) ≤ x4
    · have h := (if_pos c2).symm.trans h
      exact (hk _ h).trans rfl
    · have h := (if_neg c2).symm.trans h
      obtain ⟨-, h⟩ := wd_chk_some h
      exact (hrec _ _ h).trans (wd_fr1 (by omega) rfl)
theorem f_X2_fill_l3 {out : wd_Mem} (k : wd_Mem → Option (wd_Mem)) (x1 x2 x3 : Int32) (a : Nat) (hk : ∀  (ν : wd_Mem), k ν = some out → out a = ν a) (ha : ¬ (a = 26)) : ∀ (n : Nat) (x4 : Int32) (μ : wd_Mem), X2_fill_l3 k x1 x2 x3 n x4 μ = some out → out a = μ a := by
  intro n
  induction n with
  | zero => intro x4 μ h; exact absurd h (by unfold X2_fill_l3; simp)
  | succ n ih =>
    intro x4 μ h
    exact f_X2_fill_c3 (X2_fill_l3 k x1 x2 x3 n) k μ x1 x2 x3 x4 a  (fun x4 μ h => ih x4 μ h) hk ha h
theorem f_X2_fill_b43 {out : wd_Mem} (μ : wd_Mem) (a : Nat)  (ha : ¬ (a = 26)) (h : X2_fill_b43 μ = some out) : out a = μ a := by
  unfold X2_fill_b43 at h
  have e9 := Option.some.inj h
  subst e9
  exact rfl
theorem f_X2_fill_b0 {out : wd_Mem} (μ : wd_Mem) (x1 x2 x3 : Int32) (a : Nat)  (ha : ¬ (a = 26)) (h : X2_fill_b0 μ x1 x2 x3 = some out) : out a = μ a := by
  unfold X2_fill_b0 at h
  exact (f_X2_fill_l3 (fun μ => X2_fill_b43 μ) x1 x2 x3 a  (fun μ h => f_X2_fill_b43 μ a  ha h) ha wd_big x2 μ h).trans rfl
theorem fr_X2_fill {out : wd_Mem} {μ : wd_Mem} {x1 x2 x3 : Int32} (a : Nat)  (ha : ¬ (a = 26)) (h : X2_fill μ x1 x2 x3 = some out) : out a = μ a := f_X2_fill_b0 μ x1 x2 x3 a  ha h
theorem f_X2_isAnyBeside_b96 {out : Int32 × wd_Mem} (self : wd_Mem → Int32 → Int32 → Option (Int32 × wd_Mem)) (rec : Int32 → wd_Mem → Option (Int32 × wd_Mem)) (k : wd_Mem → Option (Int32 × wd_Mem)) (μ : wd_Mem) (x1 x2 x3 : Int32) (a : Nat) (hself : ∀ (ν : wd_Mem) (y0 y1 : Int32) (o : Int32 × wd_Mem), self ν y0 y1 = some o → o.2 a = ν a) (hrec : ∀ (x3 : Int32) (ν : wd_Mem), rec x3 ν = some out → out.2 a = ν a) (hk : ∀  (ν : wd_Mem), k ν = some out → out.2 a = ν a) (ha : ¬ (a = 26)) (h : X2_isAnyBeside_b96 self rec k μ x1 x2 x3 = some out) : out.2 a = μ a := by
  unfold X2_isAnyBeside_b96 at h
  exact (hrec _ _ h).trans rfl
theorem f_X2_isAnyBeside_c15 {out : Int32 × wd_Mem} (self : wd_Mem → Int32 → Int32 → Option (Int32 × wd_Mem)) (rec : Int32 → wd_Mem → Option (Int32 × wd_Mem)) (k : wd_Mem → Option (Int32 × wd_Mem)) (μ : wd_Mem) (x1 x2 x3 : Int32) (a : Nat) (hself : ∀ (ν : wd_Mem) (y0 y1 : Int32) (o : Int32 × wd_Mem), self ν y0 y1 = some o → o.2 a = ν a) (hrec : ∀ (x3 : Int32) (ν : wd_Mem), rec x3 ν = some out → out.2 a = ν a) (hk : ∀  (ν : wd_Mem), k ν = some out → out.2 a = ν a) (ha : ¬ (a = 26)) (h : X2_isAnyBeside_c15 self rec k μ x1 x2 x3 = some out) : out.2 a = μ a := by
  unfold X2_isAnyBeside_c15 at h
  by_cases c2 : (μ 3 1) ≤ x3
  · have h := (if_pos c2).symm.trans h
    exact (hk _ h).trans rfl
  · have h := (if_neg c2).symm.trans h
    by_cases c3 : ((x1 >>> (x3 &&& 31)) &&& (1 : Int32)) = 0
    · have h := (if_pos c3).symm.trans h
      obtain ⟨r4, er4, h⟩ := wd_bind_some h
      by_cases c5 : 0 ≤ r4
      · have h := (if_pos c5).symm.trans h
        obtain ⟨-, h⟩ := wd_chk_some h
        obtain ⟨r6, er6, h⟩ := wd_bind_some h
        have fr6 : r6 a = μ a := (fr_X2_fill a  (by omega) er6).trans rfl
        obtain ⟨r7, er7, h⟩ := wd_bind_some h
        have fr7 : r7.2 a = μ a := (hself _ _ _ _ er7).trans fr6
        obtain ⟨r8, er8, h⟩ := wd_bind_some h
        have fr8 : r8 a = μ a := (fr_X2_fill a  (by omega) er8).trans fr7
        by_cases c9 : r7.1 = 0
        · have h := (if_pos c9).symm.trans h
          exact (f_X2_isAnyBeside_b96 self rec k r8 x1 x2 x3 a hself hrec hk ha h).trans fr8
        · have h := (if_neg c9).symm.trans h
          have e9 := Option.some.inj h
          subst e9
          exact fr8
      · have h := (if_neg c5).symm.trans h
        have e9 := Option.some.inj h
        subst e9
        exact rfl
    · have h := (if_neg c3).symm.trans h
      exact (f_X2_isAnyBeside_b96 self rec k μ x1 x2 x3 a hself hrec hk ha h).trans rfl
theorem f_X2_isAnyBeside_l15 {out : Int32 × wd_Mem} (self : wd_Mem → Int32 → Int32 → Option (Int32 × wd_Mem)) (k : wd_Mem → Option (Int32 × wd_Mem)) (x1 x2 : Int32) (a : Nat) (hself : ∀ (ν : wd_Mem) (y0 y1 : Int32) (o : Int32 × wd_Mem), self ν y0 y1 = some o → o.2 a = ν a) (hk : ∀  (ν : wd_Mem), k ν = some out → out.2 a = ν a) (ha : ¬ (a = 26)) : ∀ (n : Nat) (x3 : Int32) (μ : wd_Mem), X2_isAnyBeside_l15 self k x1 x2 n x3 μ = some out → out.2 a = μ a := by
  intro n
  induction n with
  | zero => intro x3 μ h; exact absurd h (by unfold X2_isAnyBeside_l15; simp)
  | succ n ih =>
    intro x3 μ h
    exact f_X2_isAnyBeside_c15 self (X2_isAnyBeside_l15 self k x1 x2 n) k μ x1 x2 x3 a hself (fun x3 μ h => ih x3 μ h) hk ha h
theorem f_X2_isAnyBeside_b102 {out : Int32 × wd_Mem} (self : wd_Mem → Int32 → Int32 → Option (Int32 × wd_Mem)) (μ : wd_Mem) (a : Nat) (hself : ∀ (ν : wd_Mem) (y0 y1 : Int32) (o : Int32 × wd_Mem), self ν y0 y1 = some o → o.2 a = ν a) (ha : ¬ (a = 26)) (h : X2_isAnyBeside_b102 self μ = some out) : out.2 a = μ a := by
  unfold X2_isAnyBeside_b102 at h
  have e9 := Option.some.inj h
  subst e9
  exact rfl
theorem f_X2_isAnyBeside_b0 {out : Int32 × wd_Mem} (self : wd_Mem → Int32 → Int32 → Option (Int32 × wd_Mem)) (μ : wd_Mem) (x1 x2 : Int32) (a : Nat) (hself : ∀ (ν : wd_Mem) (y0 y1 : Int32) (o : Int32 × wd_Mem), self ν y0 y1 = some o → o.2 a = ν a) (ha : ¬ (a = 26)) (h : X2_isAnyBeside_b0 self μ x1 x2 = some out) : out.2 a = μ a := by
  unfold X2_isAnyBeside_b0 at h
  by_cases c1 : x2 < (μ 3 1)
  · have h := (if_pos c1).symm.trans h
    exact (f_X2_isAnyBeside_l15 self (fun μ => X2_isAnyBeside_b102 self μ) x1 x2 a hself (fun μ h => f_X2_isAnyBeside_b102 self μ a hself ha h) ha wd_big (0 : Int32) μ h).trans rfl
  · have h := (if_neg c1).symm.trans h
    have e9 := Option.some.inj h
    subst e9
    exact rfl
theorem fr_X2_isAnyBeside_all (a : Nat) (ha : ¬ (a = 26)) : ∀ (n : Nat) (μ : wd_Mem) (x1 x2 : Int32) (out : Int32 × wd_Mem), X2_isAnyBeside n μ x1 x2 = some out → out.2 a = μ a := by
  intro n
  induction n with
  | zero => intro μ x1 x2 out h; exact absurd h (by unfold X2_isAnyBeside; simp)
  | succ n ih =>
    intro μ x1 x2 out h
    exact f_X2_isAnyBeside_b0 (X2_isAnyBeside n) μ x1 x2 a (fun ν x1 x2 o e => ih ν x1 x2 o e) ha h
theorem fr_X2_isAnyBeside {out : Int32 × wd_Mem} {μ : wd_Mem} {x1 x2 : Int32} (n : Nat) (a : Nat) (ha : ¬ (a = 26)) (h : X2_isAnyBeside n μ x1 x2 = some out) : out.2 a = μ a := fr_X2_isAnyBeside_all a ha n μ x1 x2 out h
theorem f_X2_isAny_b0 {out : Int32 × wd_Mem} (μ : wd_Mem) (a : Nat)  (ha : ¬ (a = 26)) (h : X2_isAny_b0 μ = some out) : out.2 a = μ a := by
  unfold X2_isAny_b0 at h
  obtain ⟨r1, er1, h⟩ := wd_bind_some h
  have fr1 : r1.2 a = μ a := (fr_X2_isAnyBeside 8 a  (by omega) er1).trans rfl
  obtain ⟨-, h⟩ := wd_chk_some h
  have e9 := Option.some.inj h
  subst e9
  exact fr1
theorem fr_X2_isAny {out : Int32 × wd_Mem} {μ : wd_Mem} (a : Nat)  (ha : ¬ (a = 26)) (h : X2_isAny μ = some out) : out.2 a = μ a := f_X2_isAny_b0 μ  a  ha h
theorem f_X2_belong_b63 {out : Int32 × wd_Mem} (rec : Int32 → Int32 → wd_Mem → Option (Int32 × wd_Mem)) (k : Int32 → wd_Mem → Option (Int32 × wd_Mem)) (h1 : Nat) (μ : wd_Mem) (x2 x4 x5 s0 s1 : Int32) (a : Nat) (w1 : wd_isW h1) (hrec : ∀ (x3 x5 : Int32) (ν : wd_Mem), rec x3 x5 ν = some out → out.2 a = ν a) (hk : ∀ (x3 : Int32) (ν : wd_Mem), k x3 ν = some out → out.2 a = ν a) (ha : ¬ (a = 22 ∨ a = 23 ∨ a = 24 ∨ a = 26)) (h : X2_belong_b63 rec k h1 μ x2 x4 x5 s0 s1 = some out) : out.2 a = μ a := by
  unfold X2_belong_b63 at h
  exact (hrec _ _ _ h).trans rfl
theorem f_X2_belong_c28 {out : Int32 × wd_Mem} (rec : Int32 → Int32 → wd_Mem → Option (Int32 × wd_Mem)) (k : Int32 → wd_Mem → Option (Int32 × wd_Mem)) (h1 : Nat) (μ : wd_Mem) (x2 x3 x4 x5 : Int32) (a : Nat) (w1 : wd_isW h1) (hrec : ∀ (x3 x5 : Int32) (ν : wd_Mem), rec x3 x5 ν = some out → out.2 a = ν a) (hk : ∀ (x3 : Int32) (ν : wd_Mem), k x3 ν = some out → out.2 a = ν a) (ha : ¬ (a = 22 ∨ a = 23 ∨ a = 24 ∨ a = 26)) (h : X2_belong_c28 rec k h1 μ x2 x3 x4 x5 = some out) : out.2 a = μ a := by
  unfold X2_belong_c28 at h
  by_cases c3 : x4 < x5
  · have h := (if_pos c3).symm.trans h
    exact (hk _ _ h).trans rfl
  · have h := (if_neg c3).symm.trans h
    obtain ⟨r4, er4, h⟩ := wd_bind_some h
    have fr4 : r4 a = μ a := (fr_X2_open a w1 (by omega) er4).trans rfl
    obtain ⟨r5, er5, h⟩ := wd_bind_some h
    have fr5 : r5 a = μ a := (fr_X2_pin a  (by omega) er5).trans fr4
    obtain ⟨r6, er6, h⟩ := wd_bind_some h
    have fr6 : r6.2 a = μ a := (fr_X2_isAny a  (by omega) er6).trans fr5
    by_cases c7 : r6.1 = 0
    · have h := (if_pos c7).symm.trans h
      exact (f_X2_belong_b63 rec k h1 r6.2 x2 x4 x5 x3 (0 : Int32) a w1 hrec hk ha h).trans fr6
    · have h := (if_neg c7).symm.trans h
      exact (f_X2_belong_b63 rec k h1 r6.2 x2 x4 x5 x3 ((1 : Int32) <<< (x5 &&& 31)) a w1 hrec hk ha h).trans fr6
theorem f_X2_belong_l28 {out : Int32 × wd_Mem} (k : Int32 → wd_Mem → Option (Int32 × wd_Mem)) (h1 : Nat) (x2 x4 : Int32) (a : Nat) (w1 : wd_isW h1) (hk : ∀ (x3 : Int32) (ν : wd_Mem), k x3 ν = some out → out.2 a = ν a) (ha : ¬ (a = 22 ∨ a = 23 ∨ a = 24 ∨ a = 26)) : ∀ (n : Nat) (x3 x5 : Int32) (μ : wd_Mem), X2_belong_l28 k h1 x2 x4 n x3 x5 μ = some out → out.2 a = μ a := by
  intro n
  induction n with
  | zero => intro x3 x5 μ h; exact absurd h (by unfold X2_belong_l28; simp)
  | succ n ih =>
    intro x3 x5 μ h
    exact f_X2_belong_c28 (X2_belong_l28 k h1 x2 x4 n) k h1 μ x2 x3 x4 x5 a w1 (fun x3 x5 μ h => ih x3 x5 μ h) hk ha h
theorem f_X2_belong_b71 {out : Int32 × wd_Mem} (h1 : Nat) (μ : wd_Mem) (x3 : Int32) (a : Nat) (w1 : wd_isW h1) (ha : ¬ (a = 22 ∨ a = 23 ∨ a = 24 ∨ a = 26)) (h : X2_belong_b71 h1 μ x3 = some out) : out.2 a = μ a := by
  unfold X2_belong_b71 at h
  have e9 := Option.some.inj h
  subst e9
  exact rfl
theorem f_X2_belong_b0 {out : Int32 × wd_Mem} (h1 : Nat) (μ : wd_Mem) (x2 : Int32) (a : Nat) (w1 : wd_isW h1) (ha : ¬ (a = 22 ∨ a = 23 ∨ a = 24 ∨ a = 26)) (h : X2_belong_b0 h1 μ x2 = some out) : out.2 a = μ a := by
  unfold X2_belong_b0 at h
  obtain ⟨r1, er1, h⟩ := wd_bind_some h
  obtain ⟨-, h⟩ := wd_chk_some h
  obtain ⟨r2, er2, h⟩ := wd_bind_some h
  exact (f_X2_belong_l28 (fun x3 μ => X2_belong_b71 h1 μ x3) h1 x2 (r1 - (μ 4 (Int32.toNatClampNeg x2))) a w1 (fun x3 μ h => f_X2_belong_b71 h1 μ x3 a w1 ha h) ha wd_big (0 : Int32) r2 μ h).trans rfl
theorem fr_X2_belong {out : Int32 × wd_Mem} {h1 : Nat} {μ : wd_Mem} {x2 : Int32} (a : Nat) (w1 : wd_isW h1) (ha : ¬ (a = 22 ∨ a = 23 ∨ a = 24 ∨ a = 26)) (h : X2_belong h1 μ x2 = some out) : out.2 a = μ a := f_X2_belong_b0 h1 μ x2 a w1 ha h
theorem f_X2_pinFirst_c24 {out : wd_Mem} (rec : Int32 → wd_Mem → Option (wd_Mem)) (k : wd_Mem → Option (wd_Mem)) (μ : wd_Mem) (x1 x2 x3 : Int32) (a : Nat) (hrec : ∀ (x3 : Int32) (ν : wd_Mem), rec x3 ν = some out → out a = ν a) (hk : ∀  (ν : wd_Mem), k ν = some out → out a = ν a) (ha : ¬ (a = 22 ∨ a = 23 ∨ a = 26)) (h : X2_pinFirst_c24 rec k μ x1 x2 x3 = some out) : out a = μ a := by
  unfold X2_pinFirst_c24 at h
  by_cases c1 : x2 < x3
  · have h := (if_pos c1).symm.trans h
    exact (hk _ h).trans rfl
  · have h := (if_neg c1).symm.trans h
    obtain ⟨r2, er2, h⟩ := wd_bind_some h
    have fr2 : r2 a = μ a := (fr_X2_pin a  (by omega) er2).trans rfl
    obtain ⟨r3, er3, h⟩ := wd_bind_some h
    have fr3 : r3.2 a = μ a := (fr_X2_isAny a  (by omega) er3).trans fr2
    by_cases c4 : r3.1 = 0
    · have h := (if_pos c4).symm.trans h
      exact (hrec _ _ h).trans fr3
    · have h := (if_neg c4).symm.trans h
      have e9 := Option.some.inj h
      subst e9
      exact fr3
theorem f_X2_pinFirst_l24 {out : wd_Mem} (k : wd_Mem → Option (wd_Mem)) (x1 x2 : Int32) (a : Nat) (hk : ∀  (ν : wd_Mem), k ν = some out → out a = ν a) (ha : ¬ (a = 22 ∨ a = 23 ∨ a = 26)) : ∀ (n : Nat) (x3 : Int32) (μ : wd_Mem), X2_pinFirst_l24 k x1 x2 n x3 μ = some out → out a = μ a := by
  intro n
  induction n with
  | zero => intro x3 μ h; exact absurd h (by unfold X2_pinFirst_l24; simp)
  | succ n ih =>
    intro x3 μ h
    exact f_X2_pinFirst_c24 (X2_pinFirst_l24 k x1 x2 n) k μ x1 x2 x3 a  (fun x3 μ h => ih x3 μ h) hk ha h
theorem f_X2_pinFirst_b49 {out : wd_Mem} (μ : wd_Mem) (a : Nat)  (ha : ¬ (a = 22 ∨ a = 23 ∨ a = 26)) (h : X2_pinFirst_b49 μ = some out) : out a = μ a := by
  unfold X2_pinFirst_b49 at h
  have e9 := Option.some.inj h
  subst e9
  exact rfl
theorem f_X2_pinFirst_b0 {out : wd_Mem} (μ : wd_Mem) (x1 : Int32) (a : Nat)  (ha : ¬ (a = 22 ∨ a = 23 ∨ a = 26)) (h : X2_pinFirst_b0 μ x1 = some out) : out a = μ a := by
  unfold X2_pinFirst_b0 at h
  obtain ⟨-, h⟩ := wd_chk_some h
  exact (f_X2_pinFirst_l24 (fun μ => X2_pinFirst_b49 μ) x1 ((μ 23 (Int32.toNatClampNeg x1)) - (μ 4 (Int32.toNatClampNeg x1))) a  (fun μ h => f_X2_pinFirst_b49 μ a  ha h) ha wd_big (μ 22 (Int32.toNatClampNeg x1)) μ h).trans rfl
theorem fr_X2_pinFirst {out : wd_Mem} {μ : wd_Mem} {x1 : Int32} (a : Nat)  (ha : ¬ (a = 22 ∨ a = 23 ∨ a = 26)) (h : X2_pinFirst μ x1 = some out) : out a = μ a := f_X2_pinFirst_b0 μ x1 a  ha h
theorem f_X2_firstOf_c17 {out : Int32 × wd_Mem} (rec : Int32 → wd_Mem → Option (Int32 × wd_Mem)) (k : wd_Mem → Option (Int32 × wd_Mem)) (h1 : Nat) (μ : wd_Mem) (x2 x3 : Int32) (a : Nat) (w1 : wd_isW h1) (hrec : ∀ (x3 : Int32) (ν : wd_Mem), rec x3 ν = some out → out.2 a = ν a) (hk : ∀  (ν : wd_Mem), k ν = some out → out.2 a = ν a) (ha : ¬ (a = 22 ∨ a = 23 ∨ a = 24 ∨ a = 26)) (h : X2_firstOf_c17 rec k h1 μ x2 x3 = some out) : out.2 a = μ a := by
  unfold X2_firstOf_c17 at h
  by_cases c4 : x2 < x3
  · have h := (if_pos c4).symm.trans h
    exact (hk _ h).trans rfl
  · have h := (if_neg c4).symm.trans h
    obtain ⟨r5, er5, h⟩ := wd_bind_some h
    have fr5 : r5 a = μ a := (fr_X2_pinFirst a  (by omega) er5).trans rfl
    exact (hrec _ _ h).trans fr5
theorem f_X2_firstOf_l17 {out : Int32 × wd_Mem} (k : wd_Mem → Option (Int32 × wd_Mem)) (h1 : Nat) (x2 : Int32) (a : Nat) (w1 : wd_isW h1) (hk : ∀  (ν : wd_Mem), k ν = some out → out.2 a = ν a) (ha : ¬ (a = 22 ∨ a = 23 ∨ a = 24 ∨ a = 26)) : ∀ (n : Nat) (x3 : Int32) (μ : wd_Mem), X2_firstOf_l17 k h1 x2 n x3 μ = some out → out.2 a = μ a := by
  intro n
  induction n with
  | zero => intro x3 μ h; exact absurd h (by unfold X2_firstOf_l17; simp)
  | succ n ih =>
    intro x3 μ h
    exact f_X2_firstOf_c17 (X2_firstOf_l17 k h1 x2 n) k h1 μ x2 x3 a w1 (fun x3 μ h => ih x3 μ h) hk ha h
theorem f_X2_firstOf_b33 {out : Int32 × wd_Mem} (h1 : Nat) (μ : wd_Mem) (x2 : Int32) (a : Nat) (w1 : wd_isW h1) (ha : ¬ (a = 22 ∨ a = 23 ∨ a = 24 ∨ a = 26)) (h : X2_firstOf_b33 h1 μ x2 = some out) : out.2 a = μ a := by
  unfold X2_firstOf_b33 at h
  obtain ⟨-, h⟩ := wd_chk_some h
  have e9 := Option.some.inj h
  subst e9
  exact rfl
theorem f_X2_firstOf_b0 {out : Int32 × wd_Mem} (h1 : Nat) (μ : wd_Mem) (x2 : Int32) (a : Nat) (w1 : wd_isW h1) (ha : ¬ (a = 22 ∨ a = 23 ∨ a = 24 ∨ a = 26)) (h : X2_firstOf_b0 h1 μ x2 = some out) : out.2 a = μ a := by
  unfold X2_firstOf_b0 at h
  obtain ⟨r1, er1, h⟩ := wd_bind_some h
  have fr1 : r1 a = μ a := (fr_X2_open a w1 (by omega) er1).trans rfl
  obtain ⟨r2, er2, h⟩ := wd_bind_some h
  have fr2 : r2.2 a = μ a := (fr_X2_isAny a  (by omega) er2).trans fr1
  by_cases c3 : r2.1 = 0
  · have h := (if_pos c3).symm.trans h
    have e9 := Option.some.inj h
    subst e9
    exact fr2
  · have h := (if_neg c3).symm.trans h
    exact (f_X2_firstOf_l17 (fun μ => X2_firstOf_b33 h1 μ x2) h1 x2 a w1 (fun μ h => f_X2_firstOf_b33 h1 μ x2 a w1 ha h) ha wd_big (0 : Int32) r2.2 h).trans fr2
theorem fr_X2_firstOf {out : Int32 × wd_Mem} {h1 : Nat} {μ : wd_Mem} {x2 : Int32} (a : Nat) (w1 : wd_isW h1) (ha : ¬ (a = 22 ∨ a = 23 ∨ a = 24 ∨ a = 26)) (h : X2_firstOf h1 μ x2 = some out) : out.2 a = μ a := f_X2_firstOf_b0 h1 μ x2 a w1 ha h
theorem f_X7_task_b0 {out : Int32 × wd_Mem} (μ : wd_Mem) (x1 x2 : Int32) (a : Nat)  (ha : ¬ (a = 22 ∨ a = 23 ∨ a = 24 ∨ a = 26)) (h : X7_task_b0 μ x1 x2 = some out) : out.2 a = μ a := by
  unfold X7_task_b0 at h
  by_cases c1 : (X4_has 3 μ x1) = 0
  · have h := (if_pos c1).symm.trans h
    have e9 := Option.some.inj h
    subst e9
    exact rfl
  · have h := (if_neg c1).symm.trans h
    by_cases n14_0 : x2 = nI 0
    · have h := (if_pos n14_0).symm.trans h
      obtain ⟨r2, er2, h⟩ := wd_bind_some h
      have e9 := Option.some.inj h
      subst e9
      exact rfl
    · have h := (if_neg n14_0).symm.trans h
      by_cases n14_1 : x2 = nI 1
      · have h := (if_pos n14_1).symm.trans h
        obtain ⟨r3, er3, h⟩ := wd_bind_some h
        have e9 := Option.some.inj h
        subst e9
        exact rfl
      · have h := (if_neg n14_1).symm.trans h
        by_cases n14_2 : x2 = nI 2
        · have h := (if_pos n14_2).symm.trans h
          obtain ⟨-, h⟩ := wd_chk_some h
          have e9 := Option.some.inj h
          subst e9
          exact rfl
        · have h := (if_neg n14_2).symm.trans h
          by_cases n14_3 : x2 = nI 3
          · have h := (if_pos n14_3).symm.trans h
            obtain ⟨-, h⟩ := wd_chk_some h
            have e9 := Option.some.inj h
            subst e9
            exact rfl
          · have h := (if_neg n14_3).symm.trans h
            by_cases n14_4 : x2 = nI 4
            · have h := (if_pos n14_4).symm.trans h
              obtain ⟨r4, er4, h⟩ := wd_bind_some h
              have fr4 : r4.2 a = μ a := (fr_X2_belong a sh_48 (by omega) er4).trans rfl
              have e9 := Option.some.inj h
              subst e9
              exact fr4
            · have h := (if_neg n14_4).symm.trans h
              by_cases n14_5 : x2 = nI 5
              · have h := (if_pos n14_5).symm.trans h
                obtain ⟨r5, er5, h⟩ := wd_bind_some h
                have fr5 : r5.2 a = μ a := (fr_X2_firstOf a sh_48 (by omega) er5).trans rfl
                have e9 := Option.some.inj h
                subst e9
                exact fr5
              · have h := (if_neg n14_5).symm.trans h
                have e9 := Option.some.inj h
                subst e9
                exact rfl
theorem fr_X7_task {out : Int32 × wd_Mem} {μ : wd_Mem} {x1 x2 : Int32} (a : Nat)  (ha : ¬ (a = 22 ∨ a = 23 ∨ a = 24 ∨ a = 26)) (h : X7_task μ x1 x2 = some out) : out.2 a = μ a := f_X7_task_b0 μ x1 x2 a  ha h
theorem f_X3_sumUp_b0 {out : wd_Mem} (μ : wd_Mem) (x1 x2 : Int32) (a : Nat)  (ha : ¬ (a = 14 ∨ a = 15 ∨ a = 16 ∨ a = 17)) (h : X3_sumUp_b0 μ x1 x2 = some out) : out a = μ a := by
  unfold X3_sumUp_b0 at h
  obtain ⟨-, h⟩ := wd_chk_some h
  obtain ⟨-, h⟩ := wd_chk_some h
  obtain ⟨-, h⟩ := wd_chk_some h
  obtain ⟨r1, er1, h⟩ := wd_bind_some h
  have e9 := Option.some.inj h
  subst e9
  exact (wd_fr1 (by omega) (wd_fr1 (by omega) (wd_fr1 (by omega) (wd_fr1 (by omega) rfl))))
theorem fr_X3_sumUp {out : wd_Mem} {μ : wd_Mem} {x1 x2 : Int32} (a : Nat)  (ha : ¬ (a = 14 ∨ a = 15 ∨ a = 16 ∨ a = 17)) (h : X3_sumUp μ x1 x2 = some out) : out a = μ a := f_X3_sumUp_b0 μ x1 x2 a  ha h
theorem f_X3_look_c116 {out : wd_Mem} (rec : Int32 → wd_Mem → Option (wd_Mem)) (k : wd_Mem → Option (wd_Mem)) (h1 : Nat) (μ : wd_Mem) (x2 x3 x4 : Int32) (a : Nat) (w1 : wd_isW h1) (hrec : ∀ (x4 : Int32) (ν : wd_Mem), rec x4 ν = some out → out a = ν a) (hk : ∀  (ν : wd_Mem), k ν = some out → out a = ν a) (ha : ¬ (a = 10 ∨ a = 11 ∨ a = 12 ∨ a = 13 ∨ a = 14 ∨ a = 15 ∨ a = 16 ∨ a = 17)) (h : X3_look_c116 rec k h1 μ x2 x3 x4 = some out) : out a = μ a := by
  unfold X3_look_c116 at h
  by_cases c6 : ((1 : Int32) <<< (x3 &&& 31)) ≤ x4
  · have h := (if_pos c6).symm.trans h
    exact (hk _ h).trans rfl
  · have h := (if_neg c6).symm.trans h
    obtain ⟨r7, er7, h⟩ := wd_bind_some h
    have fr7 : r7 a = μ a := (fr_X3_sumUp a  (by omega) er7).trans rfl
    exact (hrec _ _ h).trans fr7
theorem f_X3_look_l116 {out : wd_Mem} (k : wd_Mem → Option (wd_Mem)) (h1 : Nat) (x2 x3 : Int32) (a : Nat) (w1 : wd_isW h1) (hk : ∀  (ν : wd_Mem), k ν = some out → out a = ν a) (ha : ¬ (a = 10 ∨ a = 11 ∨ a = 12 ∨ a = 13 ∨ a = 14 ∨ a = 15 ∨ a = 16 ∨ a = 17)) : ∀ (n : Nat) (x4 : Int32) (μ : wd_Mem), X3_look_l116 k h1 x2 x3 n x4 μ = some out → out a = μ a := by
  intro n
  induction n with
  | zero => intro x4 μ h; exact absurd h (by unfold X3_look_l116; simp)
  | succ n ih =>
    intro x4 μ h
    exact f_X3_look_c116 (X3_look_l116 k h1 x2 x3 n) k h1 μ x2 x3 x4 a w1 (fun x4 μ h => ih x4 μ h) hk ha h
theorem f_X3_look_b137 {out : wd_Mem} (rec : Int32 → wd_Mem → Option (wd_Mem)) (k : wd_Mem → Option (wd_Mem)) (h1 : Nat) (μ : wd_Mem) (x2 x3 : Int32) (a : Nat) (w1 : wd_isW h1) (hrec : ∀ (x3 : Int32) (ν : wd_Mem), rec x3 ν = some out → out a = ν a) (hk : ∀  (ν : wd_Mem), k ν = some out → out a = ν a) (ha : ¬ (a = 10 ∨ a = 11 ∨ a = 12 ∨ a = 13 ∨ a = 14 ∨ a = 15 ∨ a = 16 ∨ a = 17)) (h : X3_look_b137 rec k h1 μ x2 x3 = some out) : out a = μ a := by
  unfold X3_look_b137 at h
  exact (hrec _ _ h).trans rfl
theorem f_X3_look_b68 {out : wd_Mem} (rec : Int32 → wd_Mem → Option (wd_Mem)) (k : wd_Mem → Option (wd_Mem)) (h1 : Nat) (μ : wd_Mem) (x2 x3 s1 s2 : Int32) (a : Nat) (w1 : wd_isW h1) (hrec : ∀ (x3 : Int32) (ν : wd_Mem), rec x3 ν = some out → out a = ν a) (hk : ∀  (ν : wd_Mem), k ν = some out → out a = ν a) (ha : ¬ (a = 10 ∨ a = 11 ∨ a = 12 ∨ a = 13 ∨ a = 14 ∨ a = 15 ∨ a = 16 ∨ a = 17)) (h : X3_look_b68 rec k h1 μ x2 x3 s1 s2 = some out) : out a = μ a := by
  unfold X3_look_b68 at h
  obtain ⟨-, h⟩ := wd_chk_some h
  obtain ⟨-, h⟩ := wd_chk_some h
  exact (f_X3_look_l116 (fun μ => X3_look_b137 rec k h1 μ x2 x3) h1 x2 x3 a w1 (fun μ h => f_X3_look_b137 rec k h1 μ x2 x3 a w1 hrec hk ha h) ha wd_big (0 : Int32) (mset (mset (mset μ 11 (Int32.toNatClampNeg s1) s2) 12 (Int32.toNatClampNeg x3) ((μ 10 (Int32.toNatClampNeg x3)) + (μ 4 (Int32.toNatClampNeg x3)))) 13 (Int32.toNatClampNeg x3) (((mset μ 11 (Int32.toNatClampNeg s1) s2) 11 (Int32.toNatClampNeg x3)) - (μ 4 (Int32.toNatClampNeg x3)))) h).trans (wd_fr1 (by omega) (wd_fr1 (by omega) (wd_fr1 (by omega) rfl)))
theorem f_X3_look_b40 {out : wd_Mem} (rec : Int32 → wd_Mem → Option (wd_Mem)) (k : wd_Mem → Option (wd_Mem)) (h1 : Nat) (μ : wd_Mem) (x2 x3 s1 s2 : Int32) (a : Nat) (w1 : wd_isW h1) (hrec : ∀ (x3 : Int32) (ν : wd_Mem), rec x3 ν = some out → out a = ν a) (hk : ∀  (ν : wd_Mem), k ν = some out → out a = ν a) (ha : ¬ (a = 10 ∨ a = 11 ∨ a = 12 ∨ a = 13 ∨ a = 14 ∨ a = 15 ∨ a = 16 ∨ a = 17)) (h : X3_look_b40 rec k h1 μ x2 x3 s1 s2 = some out) : out a = μ a := by
  unfold X3_look_b40 at h
  obtain ⟨-, h⟩ := wd_chk_some h
  by_cases c4 : x2 = 0
  · have h := (if_pos c4).symm.trans h
    obtain ⟨r8, er8, h⟩ := wd_bind_some h
    exact (f_X3_look_b68 rec k h1 (mset μ 10 (Int32.toNatClampNeg s1) s2) x2 x3 x3 r8 a w1 hrec hk ha h).trans (wd_fr1 (by omega) rfl)
  · have h := (if_neg c4).symm.trans h
    obtain ⟨r5, er5, h⟩ := wd_bind_some h
    exact (f_X3_look_b68 rec k h1 (mset μ 10 (Int32.toNatClampNeg s1) s2) x2 x3 x3 ((16 : Int32) - r5) a w1 hrec hk ha h).trans (wd_fr1 (by omega) rfl)
theorem f_X3_look_c2 {out : wd_Mem} (rec : Int32 → wd_Mem → Option (wd_Mem)) (k : wd_Mem → Option (wd_Mem)) (h1 : Nat) (μ : wd_Mem) (x2 x3 : Int32) (a : Nat) (w1 : wd_isW h1) (hrec : ∀ (x3 : Int32) (ν : wd_Mem), rec x3 ν = some out → out a = ν a) (hk : ∀  (ν : wd_Mem), k ν = some out → out a = ν a) (ha : ¬ (a = 10 ∨ a = 11 ∨ a = 12 ∨ a = 13 ∨ a = 14 ∨ a = 15 ∨ a = 16 ∨ a = 17)) (h : X3_look_c2 rec k h1 μ x2 x3 = some out) : out a = μ a := by
  unfold X3_look_c2 at h
  by_cases c1 : (μ 3 1) ≤ x3
  · have h := (if_pos c1).symm.trans h
    exact (hk _ h).trans rfl
  · have h := (if_neg c1).symm.trans h
    by_cases c2 : x2 = 0
    · have h := (if_pos c2).symm.trans h
      obtain ⟨r9, er9, h⟩ := wd_bind_some h
      exact (f_X3_look_b40 rec k h1 μ x2 x3 x3 r9 a w1 hrec hk ha h).trans rfl
    · have h := (if_neg c2).symm.trans h
      obtain ⟨r3, er3, h⟩ := wd_bind_some h
      exact (f_X3_look_b40 rec k h1 μ x2 x3 x3 ((16 : Int32) - r3) a w1 hrec hk ha h).trans rfl
theorem f_X3_look_l2 {out : wd_Mem} (k : wd_Mem → Option (wd_Mem)) (h1 : Nat) (x2 : Int32) (a : Nat) (w1 : wd_isW h1) (hk : ∀  (ν : wd_Mem), k ν = some out → out a = ν a) (ha : ¬ (a = 10 ∨ a = 11 ∨ a = 12 ∨ a = 13 ∨ a = 14 ∨ a = 15 ∨ a = 16 ∨ a = 17)) : ∀ (n : Nat) (x3 : Int32) (μ : wd_Mem), X3_look_l2 k h1 x2 n x3 μ = some out → out a = μ a := by
  intro n
  induction n with
  | zero => intro x3 μ h; exact absurd h (by unfold X3_look_l2; simp)
  | succ n ih =>
    intro x3 μ h
    exact f_X3_look_c2 (X3_look_l2 k h1 x2 n) k h1 μ x2 x3 a w1 (fun x3 μ h => ih x3 μ h) hk ha h
theorem f_X3_look_b143 {out : wd_Mem} (h1 : Nat) (μ : wd_Mem) (a : Nat) (w1 : wd_isW h1) (ha : ¬ (a = 10 ∨ a = 11 ∨ a = 12 ∨ a = 13 ∨ a = 14 ∨ a = 15 ∨ a = 16 ∨ a = 17)) (h : X3_look_b143 h1 μ = some out) : out a = μ a := by
  unfold X3_look_b143 at h
  have e9 := Option.some.inj h
  subst e9
  exact rfl
theorem f_X3_look_b0 {out : wd_Mem} (h1 : Nat) (μ : wd_Mem) (x2 : Int32) (a : Nat) (w1 : wd_isW h1) (ha : ¬ (a = 10 ∨ a = 11 ∨ a = 12 ∨ a = 13 ∨ a = 14 ∨ a = 15 ∨ a = 16 ∨ a = 17)) (h : X3_look_b0 h1 μ x2 = some out) : out a = μ a := by
  unfold X3_look_b0 at h
  exact (f_X3_look_l2 (fun μ => X3_look_b143 h1 μ) h1 x2 a w1 (fun μ h => f_X3_look_b143 h1 μ a w1 ha h) ha wd_big (0 : Int32) μ h).trans rfl
theorem fr_X3_look {out : wd_Mem} {h1 : Nat} {μ : wd_Mem} {x2 : Int32} (a : Nat) (w1 : wd_isW h1) (ha : ¬ (a = 10 ∨ a = 11 ∨ a = 12 ∨ a = 13 ∨ a = 14 ∨ a = 15 ∨ a = 16 ∨ a = 17)) (h : X3_look h1 μ x2 = some out) : out a = μ a := f_X3_look_b0 h1 μ x2 a w1 ha h
theorem f_X7_must_b10 {out : Int32 × wd_Mem} (μ : wd_Mem) (a : Nat)  (ha : ¬ (a = 10 ∨ a = 11 ∨ a = 12 ∨ a = 13 ∨ a = 14 ∨ a = 15 ∨ a = 16 ∨ a = 17)) (h : X7_must_b10 μ = some out) : out.2 a = μ a := by
  unfold X7_must_b10 at h
  have e9 := Option.some.inj h
  subst e9
  exact rfl
theorem f_X7_must_b0 {out : Int32 × wd_Mem} (μ : wd_Mem) (x1 : Int32) (a : Nat)  (ha : ¬ (a = 10 ∨ a = 11 ∨ a = 12 ∨ a = 13 ∨ a = 14 ∨ a = 15 ∨ a = 16 ∨ a = 17)) (h : X7_must_b0 μ x1 = some out) : out.2 a = μ a := by
  unfold X7_must_b0 at h
  by_cases c1 : x1 < 0
  · have h := (if_pos c1).symm.trans h
    exact (f_X7_must_b10 μ a  ha h).trans rfl
  · have h := (if_neg c1).symm.trans h
    by_cases c2 : x1 < (16 : Int32)
    · have h := (if_pos c2).symm.trans h
      obtain ⟨r3, er3, h⟩ := wd_bind_some h
      have fr3 : r3 a = μ a := (fr_X3_look a sh_48 (by omega) er3).trans rfl
      obtain ⟨r4, er4, h⟩ := wd_bind_some h
      have e9 := Option.some.inj h
      subst e9
      exact fr3
    · have h := (if_neg c2).symm.trans h
      exact (f_X7_must_b10 μ a  ha h).trans rfl
theorem fr_X7_must {out : Int32 × wd_Mem} {μ : wd_Mem} {x1 : Int32} (a : Nat)  (ha : ¬ (a = 10 ∨ a = 11 ∨ a = 12 ∨ a = 13 ∨ a = 14 ∨ a = 15 ∨ a = 16 ∨ a = 17)) (h : X7_must μ x1 = some out) : out.2 a = μ a := f_X7_must_b0 μ x1 a  ha h
theorem f_X0_add_b0 {out : wd_Mem} (h1 : Nat) (μ : wd_Mem) (a : Nat) (w1 : wd_isW h1) (ha : ¬ (a = 27 ∨ (64 ≤ a ∧ a < 104))) (h : X0_add_b0 h1 μ = some out) : out a = μ a := by
  unfold X0_add_b0 at h
  obtain ⟨-, h⟩ := wd_chk_some h
  obtain ⟨-, h⟩ := wd_chk_some h
  obtain ⟨a21, ea21, h⟩ := wd_bind_some h
  have wa21 : wd_isW a21 := wd_ringW ea21
  have ba21 := wd_ringB ea21
  obtain ⟨r1, er1, h⟩ := wd_bind_some h
  have fr1 : r1 a = μ a := (fr_X6_take a wa21 w1 (by omega) er1).trans (wd_fr1 (by omega) rfl)
  have e9 := Option.some.inj h
  subst e9
  exact (wd_fr1 (by omega) fr1)
theorem fr_X0_add {out : wd_Mem} {h1 : Nat} {μ : wd_Mem} (a : Nat) (w1 : wd_isW h1) (ha : ¬ (a = 27 ∨ (64 ≤ a ∧ a < 104))) (h : X0_add h1 μ = some out) : out a = μ a := f_X0_add_b0 h1 μ  a w1 ha h
theorem f_X1_tell_b0 {out : wd_Mem} (μ : wd_Mem) (x1 x2 x3 : Int32) (a : Nat)  (ha : ¬ (a = 19 ∨ a = 20)) (h : X1_tell_b0 μ x1 x2 x3 = some out) : out a = μ a := by
  unfold X1_tell_b0 at h
  obtain ⟨-, h⟩ := wd_chk_some h
  by_cases c1 : x2 ≤ (μ 19 (Int32.toNatClampNeg x1))
  · have h := (if_pos c1).symm.trans h
    have e9 := Option.some.inj h
    subst e9
    exact rfl
  · have h := (if_neg c1).symm.trans h
    have e9 := Option.some.inj h
    subst e9
    exact (wd_fr1 (by omega) (wd_fr1 (by omega) rfl))
theorem fr_X1_tell {out : wd_Mem} {μ : wd_Mem} {x1 x2 x3 : Int32} (a : Nat)  (ha : ¬ (a = 19 ∨ a = 20)) (h : X1_tell μ x1 x2 x3 = some out) : out a = μ a := f_X1_tell_b0 μ x1 x2 x3 a  ha h
theorem f_X1_byMust_b73 {out : wd_Mem} (rec : Int32 → Int32 → Option (wd_Mem)) (k : Option (wd_Mem)) (μ : wd_Mem) (x1 x3 s0 : Int32) (a : Nat) (hrec : ∀ (x2 x3 : Int32), rec x2 x3 = some out → out a = μ a) (hk : k = some out → out a = μ a) (ha : ¬ (a = 19 ∨ a = 20)) (h : X1_byMust_b73 rec k μ x1 x3 s0 = some out) : out a = μ a := by
  unfold X1_byMust_b73 at h
  obtain ⟨-, h⟩ := wd_chk_some h
  by_cases c5 : s0 = (μ 4 (Int32.toNatClampNeg x1))
  · have h := (if_pos c5).symm.trans h
    obtain ⟨r6, er6, h⟩ := wd_bind_some h
    have fr6 : r6 a = μ a := (fr_X1_tell a  (by omega) er6).trans rfl
    have e9 := Option.some.inj h
    subst e9
    exact fr6
  · have h := (if_neg c5).symm.trans h
    exact (hrec _ _ h)
theorem f_X1_byMust_b59 {out : wd_Mem} (rec : Int32 → Int32 → Option (wd_Mem)) (k : Option (wd_Mem)) (μ : wd_Mem) (x1 x2 x3 s0 : Int32) (a : Nat) (hrec : ∀ (x2 x3 : Int32), rec x2 x3 = some out → out a = μ a) (hk : k = some out → out a = μ a) (ha : ¬ (a = 19 ∨ a = 20)) (h : X1_byMust_b59 rec k μ x1 x2 x3 s0 = some out) : out a = μ a := by
  unfold X1_byMust_b59 at h
  by_cases c4 : s0 = 0
  · have h := (if_pos c4).symm.trans h
    exact (f_X1_byMust_b73 rec k μ x1 x3 (x2 + (1 : Int32)) a hrec hk ha h).trans rfl
  · have h := (if_neg c4).symm.trans h
    exact (f_X1_byMust_b73 rec k μ x1 x3 (0 : Int32) a hrec hk ha h).trans rfl
theorem f_X1_byMust_c12 {out : wd_Mem} (rec : Int32 → Int32 → Option (wd_Mem)) (k : Option (wd_Mem)) (μ : wd_Mem) (x1 x2 x3 : Int32) (a : Nat) (hrec : ∀ (x2 x3 : Int32), rec x2 x3 = some out → out a = μ a) (hk : k = some out → out a = μ a) (ha : ¬ (a = 19 ∨ a = 20)) (h : X1_byMust_c12 rec k μ x1 x2 x3 = some out) : out a = μ a := by
  unfold X1_byMust_c12 at h
  obtain ⟨-, h⟩ := wd_chk_some h
  by_cases c1 : (μ 11 (Int32.toNatClampNeg x1)) ≤ x3
  · have h := (if_pos c1).symm.trans h
    exact (hk  h)
  · have h := (if_neg c1).symm.trans h
    obtain ⟨r2, er2, h⟩ := wd_bind_some h
    by_cases c3 : (r2 + (μ 5 (Int32.toNatClampNeg x1))) ≤ (μ 3 0)
    · have h := (if_pos c3).symm.trans h
      exact (f_X1_byMust_b59 rec k μ x1 x2 x3 (0 : Int32) a hrec hk ha h).trans rfl
    · have h := (if_neg c3).symm.trans h
      exact (f_X1_byMust_b59 rec k μ x1 x2 x3 (1 : Int32) a hrec hk ha h).trans rfl
theorem f_X1_byMust_l12 {out : wd_Mem} (k : Option (wd_Mem)) (μ : wd_Mem) (x1 : Int32) (a : Nat) (hk : k = some out → out a = μ a) (ha : ¬ (a = 19 ∨ a = 20)) : ∀ (n : Nat) (x2 x3 : Int32), X1_byMust_l12 k μ x1 n x2 x3 = some out → out a = μ a := by
  intro n
  induction n with
  | zero => intro x2 x3 h; exact absurd h (by unfold X1_byMust_l12; simp)
  | succ n ih =>
    intro x2 x3 h
    exact f_X1_byMust_c12 (X1_byMust_l12 k μ x1 n) k μ x1 x2 x3 a  (fun x2 x3 h => ih x2 x3 h) hk ha h
theorem f_X1_byMust_b105 {out : wd_Mem} (μ : wd_Mem) (x1 : Int32) (a : Nat)  (ha : ¬ (a = 19 ∨ a = 20)) (h : X1_byMust_b105 μ x1 = some out) : out a = μ a := by
  unfold X1_byMust_b105 at h
  obtain ⟨-, h⟩ := wd_chk_some h
  obtain ⟨r7, er7, h⟩ := wd_bind_some h
  have fr7 : r7 a = μ a := (fr_X1_tell a  (by omega) er7).trans rfl
  have e9 := Option.some.inj h
  subst e9
  exact fr7
theorem f_X1_byMust_b0 {out : wd_Mem} (μ : wd_Mem) (x1 : Int32) (a : Nat)  (ha : ¬ (a = 19 ∨ a = 20)) (h : X1_byMust_b0 μ x1 = some out) : out a = μ a := by
  unfold X1_byMust_b0 at h
  obtain ⟨-, h⟩ := wd_chk_some h
  exact (f_X1_byMust_l12 (X1_byMust_b105 μ x1) μ x1 a  (fun h => f_X1_byMust_b105 μ x1 a  ha h) ha wd_big (0 : Int32) (μ 10 (Int32.toNatClampNeg x1)) h).trans rfl
theorem fr_X1_byMust {out : wd_Mem} {μ : wd_Mem} {x1 : Int32} (a : Nat)  (ha : ¬ (a = 19 ∨ a = 20)) (h : X1_byMust μ x1 = some out) : out a = μ a := f_X1_byMust_b0 μ x1 a  ha h
theorem f_X1_tellRest_b0 {out : wd_Mem} (μ : wd_Mem) (x1 x2 x3 : Int32) (a : Nat)  (ha : ¬ (a = 19 ∨ a = 20)) (h : X1_tellRest_b0 μ x1 x2 x3 = some out) : out a = μ a := by
  unfold X1_tellRest_b0 at h
  obtain ⟨-, h⟩ := wd_chk_some h
  obtain ⟨-, h⟩ := wd_chk_some h
  by_cases c1 : ((μ 17 (Int32.toNatClampNeg x2)) - (((μ 3 0) - (μ 5 (Int32.toNatClampNeg x1))) * ((μ 15 (Int32.toNatClampNeg x2)) - (μ 14 (Int32.toNatClampNeg x2))))) ≤ 0
  · have h := (if_pos c1).symm.trans h
    have e9 := Option.some.inj h
    subst e9
    exact rfl
  · have h := (if_neg c1).symm.trans h
    by_cases c2 : (μ 5 (Int32.toNatClampNeg x1)) ≤ 0
    · have h := (if_pos c2).symm.trans h
      have e9 := Option.some.inj h
      subst e9
      exact rfl
    · have h := (if_neg c2).symm.trans h
      obtain ⟨-, h⟩ := wd_chk_some h
      obtain ⟨r3, er3, h⟩ := wd_bind_some h
      have fr3 : r3 a = μ a := (fr_X1_tell a  (by omega) er3).trans rfl
      have e9 := Option.some.inj h
      subst e9
      exact fr3
theorem fr_X1_tellRest {out : wd_Mem} {μ : wd_Mem} {x1 x2 x3 : Int32} (a : Nat)  (ha : ¬ (a = 19 ∨ a = 20)) (h : X1_tellRest μ x1 x2 x3 = some out) : out a = μ a := f_X1_tellRest_b0 μ x1 x2 x3 a  ha h
theorem f_X1_byEdge_b54 {out : wd_Mem} (rec : Int32 → wd_Mem → Option (wd_Mem)) (k : wd_Mem → Option (wd_Mem)) (μ : wd_Mem) (x1 x2 : Int32) (a : Nat) (hrec : ∀ (x2 : Int32) (ν : wd_Mem), rec x2 ν = some out → out a = ν a) (hk : ∀  (ν : wd_Mem), k ν = some out → out a = ν a) (ha : ¬ (a = 19 ∨ a = 20)) (h : X1_byEdge_b54 rec k μ x1 x2 = some out) : out a = μ a := by
  unfold X1_byEdge_b54 at h
  exact (hrec _ _ h).trans rfl
theorem f_X1_byEdge_c34 {out : wd_Mem} (rec : Int32 → wd_Mem → Option (wd_Mem)) (k : wd_Mem → Option (wd_Mem)) (μ : wd_Mem) (x1 x2 x3 : Int32) (a : Nat) (hrec : ∀ (x3 : Int32) (ν : wd_Mem), rec x3 ν = some out → out a = ν a) (hk : ∀  (ν : wd_Mem), k ν = some out → out a = ν a) (ha : ¬ (a = 19 ∨ a = 20)) (h : X1_byEdge_c34 rec k μ x1 x2 x3 = some out) : out a = μ a := by
  unfold X1_byEdge_c34 at h
  by_cases c5 : x3 ≤ 0
  · have h := (if_pos c5).symm.trans h
    exact (hk _ h).trans rfl
  · have h := (if_neg c5).symm.trans h
    obtain ⟨r6, er6, h⟩ := wd_bind_some h
    have fr6 : r6 a = μ a := (fr_X1_tellRest a  (by omega) er6).trans rfl
    exact (hrec _ _ h).trans fr6
theorem f_X1_byEdge_l34 {out : wd_Mem} (k : wd_Mem → Option (wd_Mem)) (x1 x2 : Int32) (a : Nat) (hk : ∀  (ν : wd_Mem), k ν = some out → out a = ν a) (ha : ¬ (a = 19 ∨ a = 20)) : ∀ (n : Nat) (x3 : Int32) (μ : wd_Mem), X1_byEdge_l34 k x1 x2 n x3 μ = some out → out a = μ a := by
  intro n
  induction n with
  | zero => intro x3 μ h; exact absurd h (by unfold X1_byEdge_l34; simp)
  | succ n ih =>
    intro x3 μ h
    exact f_X1_byEdge_c34 (X1_byEdge_l34 k x1 x2 n) k μ x1 x2 x3 a  (fun x3 μ h => ih x3 μ h) hk ha h
theorem f_X1_byEdge_c2 {out : wd_Mem} (rec : Int32 → wd_Mem → Option (wd_Mem)) (k : wd_Mem → Option (wd_Mem)) (μ : wd_Mem) (x1 x2 : Int32) (a : Nat) (hrec : ∀ (x2 : Int32) (ν : wd_Mem), rec x2 ν = some out → out a = ν a) (hk : ∀  (ν : wd_Mem), k ν = some out → out a = ν a) (ha : ¬ (a = 19 ∨ a = 20)) (h : X1_byEdge_c2 rec k μ x1 x2 = some out) : out a = μ a := by
  unfold X1_byEdge_c2 at h
  by_cases c1 : ((1 : Int32) <<< ((μ 3 1) &&& 31)) ≤ x2
  · have h := (if_pos c1).symm.trans h
    exact (hk _ h).trans rfl
  · have h := (if_neg c1).symm.trans h
    by_cases c2 : ((x2 >>> (x1 &&& 31)) &&& (1 : Int32)) = 0
    · have h := (if_pos c2).symm.trans h
      obtain ⟨r3, er3, h⟩ := wd_bind_some h
      by_cases c4 : r3 = 0
      · have h := (if_pos c4).symm.trans h
        exact (f_X1_byEdge_b54 rec k μ x1 x2 a hrec hk ha h).trans rfl
      · have h := (if_neg c4).symm.trans h
        exact (f_X1_byEdge_l34 (fun μ => X1_byEdge_b54 rec k μ x1 x2) x1 x2 a  (fun μ h => f_X1_byEdge_b54 rec k μ x1 x2 a hrec hk ha h) ha wd_big x2 μ h).trans rfl
    · have h := (if_neg c2).symm.trans h
      exact (f_X1_byEdge_b54 rec k μ x1 x2 a hrec hk ha h).trans rfl
theorem f_X1_byEdge_l2 {out : wd_Mem} (k : wd_Mem → Option (wd_Mem)) (x1 : Int32) (a : Nat) (hk : ∀  (ν : wd_Mem), k ν = some out → out a = ν a) (ha : ¬ (a = 19 ∨ a = 20)) : ∀ (n : Nat) (x2 : Int32) (μ : wd_Mem), X1_byEdge_l2 k x1 n x2 μ = some out → out a = μ a := by
  intro n
  induction n with
  | zero => intro x2 μ h; exact absurd h (by unfold X1_byEdge_l2; simp)
  | succ n ih =>
    intro x2 μ h
    exact f_X1_byEdge_c2 (X1_byEdge_l2 k x1 n) k μ x1 x2 a  (fun x2 μ h => ih x2 μ h) hk ha h
theorem f_X1_byEdge_b60 {out : wd_Mem} (μ : wd_Mem) (a : Nat)  (ha : ¬ (a = 19 ∨ a = 20)) (h : X1_byEdge_b60 μ = some out) : out a = μ a := by
  unfold X1_byEdge_b60 at h
  have e9 := Option.some.inj h
  subst e9
  exact rfl
theorem f_X1_byEdge_b0 {out : wd_Mem} (μ : wd_Mem) (x1 : Int32) (a : Nat)  (ha : ¬ (a = 19 ∨ a = 20)) (h : X1_byEdge_b0 μ x1 = some out) : out a = μ a := by
  unfold X1_byEdge_b0 at h
  exact (f_X1_byEdge_l2 (fun μ => X1_byEdge_b60 μ) x1 a  (fun μ h => f_X1_byEdge_b60 μ a  ha h) ha wd_big (1 : Int32) μ h).trans rfl
theorem fr_X1_byEdge {out : wd_Mem} {μ : wd_Mem} {x1 : Int32} (a : Nat)  (ha : ¬ (a = 19 ∨ a = 20)) (h : X1_byEdge μ x1 = some out) : out a = μ a := f_X1_byEdge_b0 μ x1 a  ha h
theorem f_X1_byFirst_b47 {out : wd_Mem} (rec : Int32 → wd_Mem → Option (wd_Mem)) (k : wd_Mem → Option (wd_Mem)) (μ : wd_Mem) (x1 x2 : Int32) (a : Nat) (hrec : ∀ (x2 : Int32) (ν : wd_Mem), rec x2 ν = some out → out a = ν a) (hk : ∀  (ν : wd_Mem), k ν = some out → out a = ν a) (ha : ¬ (a = 19 ∨ a = 20)) (h : X1_byFirst_b47 rec k μ x1 x2 = some out) : out a = μ a := by
  unfold X1_byFirst_b47 at h
  exact (hrec _ _ h).trans rfl
theorem f_X1_byFirst_c2 {out : wd_Mem} (rec : Int32 → wd_Mem → Option (wd_Mem)) (k : wd_Mem → Option (wd_Mem)) (μ : wd_Mem) (x1 x2 : Int32) (a : Nat) (hrec : ∀ (x2 : Int32) (ν : wd_Mem), rec x2 ν = some out → out a = ν a) (hk : ∀  (ν : wd_Mem), k ν = some out → out a = ν a) (ha : ¬ (a = 19 ∨ a = 20)) (h : X1_byFirst_c2 rec k μ x1 x2 = some out) : out a = μ a := by
  unfold X1_byFirst_c2 at h
  by_cases c1 : ((1 : Int32) <<< ((μ 3 1) &&& 31)) ≤ x2
  · have h := (if_pos c1).symm.trans h
    exact (hk _ h).trans rfl
  · have h := (if_neg c1).symm.trans h
    by_cases c2 : ((x2 >>> (x1 &&& 31)) &&& (1 : Int32)) = 0
    · have h := (if_pos c2).symm.trans h
      obtain ⟨r3, er3, h⟩ := wd_bind_some h
      by_cases c4 : r3 = 0
      · have h := (if_pos c4).symm.trans h
        exact (f_X1_byFirst_b47 rec k μ x1 x2 a hrec hk ha h).trans rfl
      · have h := (if_neg c4).symm.trans h
        obtain ⟨-, h⟩ := wd_chk_some h
        obtain ⟨r5, er5, h⟩ := wd_bind_some h
        have fr5 : r5 a = μ a := (fr_X1_tell a  (by omega) er5).trans rfl
        exact (f_X1_byFirst_b47 rec k r5 x1 x2 a hrec hk ha h).trans fr5
    · have h := (if_neg c2).symm.trans h
      exact (f_X1_byFirst_b47 rec k μ x1 x2 a hrec hk ha h).trans rfl
theorem f_X1_byFirst_l2 {out : wd_Mem} (k : wd_Mem → Option (wd_Mem)) (x1 : Int32) (a : Nat) (hk : ∀  (ν : wd_Mem), k ν = some out → out a = ν a) (ha : ¬ (a = 19 ∨ a = 20)) : ∀ (n : Nat) (x2 : Int32) (μ : wd_Mem), X1_byFirst_l2 k x1 n x2 μ = some out → out a = μ a := by
  intro n
  induction n with
  | zero => intro x2 μ h; exact absurd h (by unfold X1_byFirst_l2; simp)
  | succ n ih =>
    intro x2 μ h
    exact f_X1_byFirst_c2 (X1_byFirst_l2 k x1 n) k μ x1 x2 a  (fun x2 μ h => ih x2 μ h) hk ha h
theorem f_X1_byFirst_b53 {out : wd_Mem} (μ : wd_Mem) (a : Nat)  (ha : ¬ (a = 19 ∨ a = 20)) (h : X1_byFirst_b53 μ = some out) : out a = μ a := by
  unfold X1_byFirst_b53 at h
  have e9 := Option.some.inj h
  subst e9
  exact rfl
theorem f_X1_byFirst_b0 {out : wd_Mem} (μ : wd_Mem) (x1 : Int32) (a : Nat)  (ha : ¬ (a = 19 ∨ a = 20)) (h : X1_byFirst_b0 μ x1 = some out) : out a = μ a := by
  unfold X1_byFirst_b0 at h
  exact (f_X1_byFirst_l2 (fun μ => X1_byFirst_b53 μ) x1 a  (fun μ h => f_X1_byFirst_b53 μ a  ha h) ha wd_big (1 : Int32) μ h).trans rfl
theorem fr_X1_byFirst {out : wd_Mem} {μ : wd_Mem} {x1 : Int32} (a : Nat)  (ha : ¬ (a = 19 ∨ a = 20)) (h : X1_byFirst μ x1 = some out) : out a = μ a := f_X1_byFirst_b0 μ x1 a  ha h
theorem f_X1_bySpan_b87 {out : wd_Mem} (rec : Int32 → wd_Mem → Option (wd_Mem)) (k : wd_Mem → Option (wd_Mem)) (μ : wd_Mem) (x1 x2 x3 x4 : Int32) (a : Nat) (hrec : ∀ (x4 : Int32) (ν : wd_Mem), rec x4 ν = some out → out a = ν a) (hk : ∀  (ν : wd_Mem), k ν = some out → out a = ν a) (ha : ¬ (a = 19 ∨ a = 20)) (h : X1_bySpan_b87 rec k μ x1 x2 x3 x4 = some out) : out a = μ a := by
  unfold X1_bySpan_b87 at h
  exact (hrec _ _ h).trans rfl
theorem f_X1_bySpan_c23 {out : wd_Mem} (rec : Int32 → wd_Mem → Option (wd_Mem)) (k : wd_Mem → Option (wd_Mem)) (μ : wd_Mem) (x1 x2 x3 x4 : Int32) (a : Nat) (hrec : ∀ (x4 : Int32) (ν : wd_Mem), rec x4 ν = some out → out a = ν a) (hk : ∀  (ν : wd_Mem), k ν = some out → out a = ν a) (ha : ¬ (a = 19 ∨ a = 20)) (h : X1_bySpan_c23 rec k μ x1 x2 x3 x4 = some out) : out a = μ a := by
  unfold X1_bySpan_c23 at h
  by_cases c2 : (16 : Int32) < x4
  · have h := (if_pos c2).symm.trans h
    exact (hk _ h).trans rfl
  · have h := (if_neg c2).symm.trans h
    obtain ⟨r3, er3, h⟩ := wd_bind_some h
    by_cases c4 : r3 < 0
    · have h := (if_pos c4).symm.trans h
      exact (f_X1_bySpan_b87 rec k μ x1 x2 x3 x4 a hrec hk ha h).trans rfl
    · have h := (if_neg c4).symm.trans h
      by_cases c5 : x2 ≤ 0
      · have h := (if_pos c5).symm.trans h
        exact (f_X1_bySpan_b87 rec k μ x1 x2 x3 x4 a hrec hk ha h).trans rfl
      · have h := (if_neg c5).symm.trans h
        obtain ⟨r6, er6, h⟩ := wd_bind_some h
        by_cases c7 : r6 ≤ r3
        · have h := (if_pos c7).symm.trans h
          exact (f_X1_bySpan_b87 rec k μ x1 x2 x3 x4 a hrec hk ha h).trans rfl
        · have h := (if_neg c7).symm.trans h
          obtain ⟨-, h⟩ := wd_chk_some h
          obtain ⟨r8, er8, h⟩ := wd_bind_some h
          have fr8 : r8 a = μ a := (fr_X1_tell a  (by omega) er8).trans rfl
          exact (f_X1_bySpan_b87 rec k r8 x1 x2 x3 x4 a hrec hk ha h).trans fr8
theorem f_X1_bySpan_l23 {out : wd_Mem} (k : wd_Mem → Option (wd_Mem)) (x1 x2 x3 : Int32) (a : Nat) (hk : ∀  (ν : wd_Mem), k ν = some out → out a = ν a) (ha : ¬ (a = 19 ∨ a = 20)) : ∀ (n : Nat) (x4 : Int32) (μ : wd_Mem), X1_bySpan_l23 k x1 x2 x3 n x4 μ = some out → out a = μ a := by
  intro n
  induction n with
  | zero => intro x4 μ h; exact absurd h (by unfold X1_bySpan_l23; simp)
  | succ n ih =>
    intro x4 μ h
    exact f_X1_bySpan_c23 (X1_bySpan_l23 k x1 x2 x3 n) k μ x1 x2 x3 x4 a  (fun x4 μ h => ih x4 μ h) hk ha h
theorem f_X1_bySpan_b93 {out : wd_Mem} (rec : Int32 → wd_Mem → Option (wd_Mem)) (k : wd_Mem → Option (wd_Mem)) (μ : wd_Mem) (x1 x2 x3 : Int32) (a : Nat) (hrec : ∀ (x3 : Int32) (ν : wd_Mem), rec x3 ν = some out → out a = ν a) (hk : ∀  (ν : wd_Mem), k ν = some out → out a = ν a) (ha : ¬ (a = 19 ∨ a = 20)) (h : X1_bySpan_b93 rec k μ x1 x2 x3 = some out) : out a = μ a := by
  unfold X1_bySpan_b93 at h
  exact (hrec _ _ h).trans rfl
theorem f_X1_bySpan_c12 {out : wd_Mem} (rec : Int32 → wd_Mem → Option (wd_Mem)) (k : wd_Mem → Option (wd_Mem)) (μ : wd_Mem) (x1 x2 x3 : Int32) (a : Nat) (hrec : ∀ (x3 : Int32) (ν : wd_Mem), rec x3 ν = some out → out a = ν a) (hk : ∀  (ν : wd_Mem), k ν = some out → out a = ν a) (ha : ¬ (a = 19 ∨ a = 20)) (h : X1_bySpan_c12 rec k μ x1 x2 x3 = some out) : out a = μ a := by
  unfold X1_bySpan_c12 at h
  by_cases c1 : (16 : Int32) ≤ x3
  · have h := (if_pos c1).symm.trans h
    exact (hk _ h).trans rfl
  · have h := (if_neg c1).symm.trans h
    exact (f_X1_bySpan_l23 (fun μ => X1_bySpan_b93 rec k μ x1 x2 x3) x1 x2 x3 a  (fun μ h => f_X1_bySpan_b93 rec k μ x1 x2 x3 a hrec hk ha h) ha wd_big (x3 + (1 : Int32)) μ h).trans rfl
theorem f_X1_bySpan_l12 {out : wd_Mem} (k : wd_Mem → Option (wd_Mem)) (x1 x2 : Int32) (a : Nat) (hk : ∀  (ν : wd_Mem), k ν = some out → out a = ν a) (ha : ¬ (a = 19 ∨ a = 20)) : ∀ (n : Nat) (x3 : Int32) (μ : wd_Mem), X1_bySpan_l12 k x1 x2 n x3 μ = some out → out a = μ a := by
  intro n
  induction n with
  | zero => intro x3 μ h; exact absurd h (by unfold X1_bySpan_l12; simp)
  | succ n ih =>
    intro x3 μ h
    exact f_X1_bySpan_c12 (X1_bySpan_l12 k x1 x2 n) k μ x1 x2 x3 a  (fun x3 μ h => ih x3 μ h) hk ha h
theorem f_X1_bySpan_b99 {out : wd_Mem} (μ : wd_Mem) (a : Nat)  (ha : ¬ (a = 19 ∨ a = 20)) (h : X1_bySpan_b99 μ = some out) : out a = μ a := by
  unfold X1_bySpan_b99 at h
  have e9 := Option.some.inj h
  subst e9
  exact rfl
theorem f_X1_bySpan_b0 {out : wd_Mem} (μ : wd_Mem) (x1 : Int32) (a : Nat)  (ha : ¬ (a = 19 ∨ a = 20)) (h : X1_bySpan_b0 μ x1 = some out) : out a = μ a := by
  unfold X1_bySpan_b0 at h
  obtain ⟨-, h⟩ := wd_chk_some h
  exact (f_X1_bySpan_l12 (fun μ => X1_bySpan_b99 μ) x1 (μ 5 (Int32.toNatClampNeg x1)) a  (fun μ h => f_X1_bySpan_b99 μ a  ha h) ha wd_big (0 : Int32) μ h).trans rfl
theorem fr_X1_bySpan {out : wd_Mem} {μ : wd_Mem} {x1 : Int32} (a : Nat)  (ha : ¬ (a = 19 ∨ a = 20)) (h : X1_bySpan μ x1 = some out) : out a = μ a := f_X1_bySpan_b0 μ x1 a  ha h
theorem f_X1_tightenSide_b196 {out : Int32 × wd_Mem} (rec : Int32 → Int32 → wd_Mem → Option (Int32 × wd_Mem)) (k : Int32 → wd_Mem → Option (Int32 × wd_Mem)) (h3 : Nat) (μ : wd_Mem) (x1 x2 x4 x5 : Int32) (a : Nat) (w3 : wd_isW h3) (hrec : ∀ (x4 x5 : Int32) (ν : wd_Mem), rec x4 x5 ν = some out → out.2 a = ν a) (hk : ∀ (x4 : Int32) (ν : wd_Mem), k x4 ν = some out → out.2 a = ν a) (ha : ¬ (a = 10 ∨ a = 11 ∨ a = 12 ∨ a = 13 ∨ a = 14 ∨ a = 15 ∨ a = 16 ∨ a = 17 ∨ a = 19 ∨ a = 20 ∨ a = h3 + 1 ∨ a = h3 + 2 ∨ a = h3 + 3)) (h : X1_tightenSide_b196 rec k h3 μ x1 x2 x4 x5 = some out) : out.2 a = μ a := by
  unfold X1_tightenSide_b196 at h
  exact (hrec _ _ _ h).trans rfl
theorem f_X1_tightenSide_b182 {out : Int32 × wd_Mem} (rec : Int32 → Int32 → wd_Mem → Option (Int32 × wd_Mem)) (k : Int32 → wd_Mem → Option (Int32 × wd_Mem)) (h3 : Nat) (μ : wd_Mem) (x1 x2 x5 s1 s2 s3 : Int32) (a : Nat) (w3 : wd_isW h3) (hrec : ∀ (x4 x5 : Int32) (ν : wd_Mem), rec x4 x5 ν = some out → out.2 a = ν a) (hk : ∀ (x4 : Int32) (ν : wd_Mem), k x4 ν = some out → out.2 a = ν a) (ha : ¬ (a = 10 ∨ a = 11 ∨ a = 12 ∨ a = 13 ∨ a = 14 ∨ a = 15 ∨ a = 16 ∨ a = 17 ∨ a = 19 ∨ a = 20 ∨ a = h3 + 1 ∨ a = h3 + 2 ∨ a = h3 + 3)) (h : X1_tightenSide_b182 rec k h3 μ x1 x2 x5 s1 s2 s3 = some out) : out.2 a = μ a := by
  unfold X1_tightenSide_b182 at h
  obtain ⟨-, h⟩ := wd_chk_some h
  obtain ⟨r6, er6, h⟩ := wd_bind_some h
  have fr6 : r6 a = μ a := (fr_X6_move a w3 (by omega) er6).trans rfl
  exact (f_X1_tightenSide_b196 rec k h3 r6 x1 x2 (1 : Int32) x5 a w3 hrec hk ha h).trans fr6
theorem f_X1_tightenSide_b120 {out : Int32 × wd_Mem} (rec : Int32 → Int32 → wd_Mem → Option (Int32 × wd_Mem)) (k : Int32 → wd_Mem → Option (Int32 × wd_Mem)) (h3 : Nat) (μ : wd_Mem) (x1 x2 x4 x5 : Int32) (a : Nat) (w3 : wd_isW h3) (hrec : ∀ (x4 x5 : Int32) (ν : wd_Mem), rec x4 x5 ν = some out → out.2 a = ν a) (hk : ∀ (x4 : Int32) (ν : wd_Mem), k x4 ν = some out → out.2 a = ν a) (ha : ¬ (a = 10 ∨ a = 11 ∨ a = 12 ∨ a = 13 ∨ a = 14 ∨ a = 15 ∨ a = 16 ∨ a = 17 ∨ a = 19 ∨ a = 20 ∨ a = h3 + 1 ∨ a = h3 + 2 ∨ a = h3 + 3)) (h : X1_tightenSide_b120 rec k h3 μ x1 x2 x4 x5 = some out) : out.2 a = μ a := by
  unfold X1_tightenSide_b120 at h
  obtain ⟨-, h⟩ := wd_chk_some h
  by_cases c4 : (μ 19 (Int32.toNatClampNeg x5)) ≤ (μ 10 (Int32.toNatClampNeg x5))
  · have h := (if_pos c4).symm.trans h
    exact (f_X1_tightenSide_b196 rec k h3 μ x1 x2 x4 x5 a w3 hrec hk ha h).trans rfl
  · have h := (if_neg c4).symm.trans h
    by_cases c5 : x2 = 0
    · have h := (if_pos c5).symm.trans h
      exact (f_X1_tightenSide_b182 rec k h3 μ x1 x2 x5 x5 x2 (if ((μ 13 (Int32.toNatClampNeg x5)) + (1 : Int32)) < (μ 19 (Int32.toNatClampNeg x5)) then ((μ 13 (Int32.toNatClampNeg x5)) + (1 : Int32)) else (μ 19 (Int32.toNatClampNeg x5))) a w3 hrec hk ha h).trans rfl
    · have h := (if_neg c5).symm.trans h
      exact (f_X1_tightenSide_b182 rec k h3 μ x1 x2 x5 x5 x2 ((16 : Int32) - (if ((μ 13 (Int32.toNatClampNeg x5)) + (1 : Int32)) < (μ 19 (Int32.toNatClampNeg x5)) then ((μ 13 (Int32.toNatClampNeg x5)) + (1 : Int32)) else (μ 19 (Int32.toNatClampNeg x5)))) a w3 hrec hk ha h).trans rfl
theorem f_X1_tightenSide_c15 {out : Int32 × wd_Mem} (rec : Int32 → Int32 → wd_Mem → Option (Int32 × wd_Mem)) (k : Int32 → wd_Mem → Option (Int32 × wd_Mem)) (h3 : Nat) (μ : wd_Mem) (x1 x2 x4 x5 : Int32) (a : Nat) (w3 : wd_isW h3) (hrec : ∀ (x4 x5 : Int32) (ν : wd_Mem), rec x4 x5 ν = some out → out.2 a = ν a) (hk : ∀ (x4 : Int32) (ν : wd_Mem), k x4 ν = some out → out.2 a = ν a) (ha : ¬ (a = 10 ∨ a = 11 ∨ a = 12 ∨ a = 13 ∨ a = 14 ∨ a = 15 ∨ a = 16 ∨ a = 17 ∨ a = 19 ∨ a = 20 ∨ a = h3 + 1 ∨ a = h3 + 2 ∨ a = h3 + 3)) (h : X1_tightenSide_c15 rec k h3 μ x1 x2 x4 x5 = some out) : out.2 a = μ a := by
  unfold X1_tightenSide_c15 at h
  by_cases c2 : (μ 3 1) ≤ x5
  · have h := (if_pos c2).symm.trans h
    exact (hk _ _ h).trans rfl
  · have h := (if_neg c2).symm.trans h
    obtain ⟨-, h⟩ := wd_chk_some h
    by_cases n53_0 : x1 = nI 0
    · have h := (if_pos n53_0).symm.trans h
      obtain ⟨r3, er3, h⟩ := wd_bind_some h
      have fr3 : r3 a = μ a := (fr_X1_byMust a  (by omega) er3).trans (wd_fr1 (by omega) (wd_fr1 (by omega) rfl))
      exact (f_X1_tightenSide_b120 rec k h3 r3 x1 x2 x4 x5 a w3 hrec hk ha h).trans fr3
    · have h := (if_neg n53_0).symm.trans h
      by_cases n53_1 : x1 = nI 1
      · have h := (if_pos n53_1).symm.trans h
        obtain ⟨r7, er7, h⟩ := wd_bind_some h
        have fr7 : r7 a = μ a := (fr_X1_byEdge a  (by omega) er7).trans (wd_fr1 (by omega) (wd_fr1 (by omega) rfl))
        exact (f_X1_tightenSide_b120 rec k h3 r7 x1 x2 x4 x5 a w3 hrec hk ha h).trans fr7
      · have h := (if_neg n53_1).symm.trans h
        by_cases n53_2 : x1 = nI 2
        · have h := (if_pos n53_2).symm.trans h
          obtain ⟨r8, er8, h⟩ := wd_bind_some h
          have fr8 : r8 a = μ a := (fr_X1_byFirst a  (by omega) er8).trans (wd_fr1 (by omega) (wd_fr1 (by omega) rfl))
          exact (f_X1_tightenSide_b120 rec k h3 r8 x1 x2 x4 x5 a w3 hrec hk ha h).trans fr8
        · have h := (if_neg n53_2).symm.trans h
          by_cases n53_3 : x1 = nI 3
          · have h := (if_pos n53_3).symm.trans h
            obtain ⟨r9, er9, h⟩ := wd_bind_some h
            have fr9 : r9 a = μ a := (fr_X1_bySpan a  (by omega) er9).trans (wd_fr1 (by omega) (wd_fr1 (by omega) rfl))
            exact (f_X1_tightenSide_b120 rec k h3 r9 x1 x2 x4 x5 a w3 hrec hk ha h).trans fr9
          · have h := (if_neg n53_3).symm.trans h
            exact (f_X1_tightenSide_b120 rec k h3 (mset (mset μ 19 (Int32.toNatClampNeg x5) (μ 10 (Int32.toNatClampNeg x5))) 20 (Int32.toNatClampNeg x5) (0 : Int32)) x1 x2 x4 x5 a w3 hrec hk ha h).trans (wd_fr1 (by omega) (wd_fr1 (by omega) rfl))
theorem f_X1_tightenSide_l15 {out : Int32 × wd_Mem} (k : Int32 → wd_Mem → Option (Int32 × wd_Mem)) (h3 : Nat) (x1 x2 : Int32) (a : Nat) (w3 : wd_isW h3) (hk : ∀ (x4 : Int32) (ν : wd_Mem), k x4 ν = some out → out.2 a = ν a) (ha : ¬ (a = 10 ∨ a = 11 ∨ a = 12 ∨ a = 13 ∨ a = 14 ∨ a = 15 ∨ a = 16 ∨ a = 17 ∨ a = 19 ∨ a = 20 ∨ a = h3 + 1 ∨ a = h3 + 2 ∨ a = h3 + 3)) : ∀ (n : Nat) (x4 x5 : Int32) (μ : wd_Mem), X1_tightenSide_l15 k h3 x1 x2 n x4 x5 μ = some out → out.2 a = μ a := by
  intro n
  induction n with
  | zero => intro x4 x5 μ h; exact absurd h (by unfold X1_tightenSide_l15; simp)
  | succ n ih =>
    intro x4 x5 μ h
    exact f_X1_tightenSide_c15 (X1_tightenSide_l15 k h3 x1 x2 n) k h3 μ x1 x2 x4 x5 a w3 (fun x4 x5 μ h => ih x4 x5 μ h) hk ha h
theorem f_X1_tightenSide_b202 {out : Int32 × wd_Mem} (h3 : Nat) (μ : wd_Mem) (x4 : Int32) (a : Nat) (w3 : wd_isW h3) (ha : ¬ (a = 10 ∨ a = 11 ∨ a = 12 ∨ a = 13 ∨ a = 14 ∨ a = 15 ∨ a = 16 ∨ a = 17 ∨ a = 19 ∨ a = 20 ∨ a = h3 + 1 ∨ a = h3 + 2 ∨ a = h3 + 3)) (h : X1_tightenSide_b202 h3 μ x4 = some out) : out.2 a = μ a := by
  unfold X1_tightenSide_b202 at h
  obtain ⟨-, h⟩ := wd_chk_some h
  have e9 := Option.some.inj h
  subst e9
  exact rfl
theorem f_X1_tightenSide_b0 {out : Int32 × wd_Mem} (h3 : Nat) (μ : wd_Mem) (x1 x2 : Int32) (a : Nat) (w3 : wd_isW h3) (ha : ¬ (a = 10 ∨ a = 11 ∨ a = 12 ∨ a = 13 ∨ a = 14 ∨ a = 15 ∨ a = 16 ∨ a = 17 ∨ a = 19 ∨ a = 20 ∨ a = h3 + 1 ∨ a = h3 + 2 ∨ a = h3 + 3)) (h : X1_tightenSide_b0 h3 μ x1 x2 = some out) : out.2 a = μ a := by
  unfold X1_tightenSide_b0 at h
  obtain ⟨r1, er1, h⟩ := wd_bind_some h
  have fr1 : r1 a = μ a := (fr_X3_look a w3 (by omega) er1).trans rfl
  exact (f_X1_tightenSide_l15 (fun x4 μ => X1_tightenSide_b202 h3 μ x4) h3 x1 x2 a w3 (fun x4 μ h => f_X1_tightenSide_b202 h3 μ x4 a w3 ha h) ha wd_big (0 : Int32) (0 : Int32) r1 h).trans fr1
theorem fr_X1_tightenSide {out : Int32 × wd_Mem} {h3 : Nat} {μ : wd_Mem} {x1 x2 : Int32} (a : Nat) (w3 : wd_isW h3) (ha : ¬ (a = 10 ∨ a = 11 ∨ a = 12 ∨ a = 13 ∨ a = 14 ∨ a = 15 ∨ a = 16 ∨ a = 17 ∨ a = 19 ∨ a = 20 ∨ a = h3 + 1 ∨ a = h3 + 2 ∨ a = h3 + 3)) (h : X1_tightenSide h3 μ x1 x2 = some out) : out.2 a = μ a := f_X1_tightenSide_b0 h3 μ x1 x2 a w3 ha h
theorem f_X1_tighten_b39 {out : Int32 × wd_Mem} (h2 : Nat) (μ : wd_Mem) (a : Nat) (w2 : wd_isW h2) (ha : ¬ (a = 10 ∨ a = 11 ∨ a = 12 ∨ a = 13 ∨ a = 14 ∨ a = 15 ∨ a = 16 ∨ a = 17 ∨ a = 19 ∨ a = 20 ∨ a = h2 + 1 ∨ a = h2 + 2 ∨ a = h2 + 3)) (h : X1_tighten_b39 h2 μ = some out) : out.2 a = μ a := by
  unfold X1_tighten_b39 at h
  have e9 := Option.some.inj h
  subst e9
  exact rfl
theorem f_X1_tighten_b0 {out : Int32 × wd_Mem} (h2 : Nat) (μ : wd_Mem) (x1 : Int32) (a : Nat) (w2 : wd_isW h2) (ha : ¬ (a = 10 ∨ a = 11 ∨ a = 12 ∨ a = 13 ∨ a = 14 ∨ a = 15 ∨ a = 16 ∨ a = 17 ∨ a = 19 ∨ a = 20 ∨ a = h2 + 1 ∨ a = h2 + 2 ∨ a = h2 + 3)) (h : X1_tighten_b0 h2 μ x1 = some out) : out.2 a = μ a := by
  unfold X1_tighten_b0 at h
  obtain ⟨r1, er1, h⟩ := wd_bind_some h
  have fr1 : r1.2 a = μ a := (fr_X1_tightenSide a w2 (by omega) er1).trans rfl
  obtain ⟨r2, er2, h⟩ := wd_bind_some h
  by_cases c3 : r2 = 0
  · have h := (if_pos c3).symm.trans h
    obtain ⟨r4, er4, h⟩ := wd_bind_some h
    have fr4 : r4.2 a = μ a := (fr_X1_tightenSide a w2 (by omega) er4).trans fr1
    by_cases c5 : r1.1 = 0
    · have h := (if_pos c5).symm.trans h
      by_cases c6 : r4.1 = 0
      · have h := (if_pos c6).symm.trans h
        have e9 := Option.some.inj h
        subst e9
        exact fr4
      · have h := (if_neg c6).symm.trans h
        exact (f_X1_tighten_b39 h2 r4.2 a w2 ha h).trans fr4
    · have h := (if_neg c5).symm.trans h
      exact (f_X1_tighten_b39 h2 r4.2 a w2 ha h).trans fr4
  · have h := (if_neg c3).symm.trans h
    obtain ⟨-, h⟩ := wd_chk_some h
    have e9 := Option.some.inj h
    subst e9
    exact fr1
theorem fr_X1_tighten {out : Int32 × wd_Mem} {h2 : Nat} {μ : wd_Mem} {x1 : Int32} (a : Nat) (w2 : wd_isW h2) (ha : ¬ (a = 10 ∨ a = 11 ∨ a = 12 ∨ a = 13 ∨ a = 14 ∨ a = 15 ∨ a = 16 ∨ a = 17 ∨ a = 19 ∨ a = 20 ∨ a = h2 + 1 ∨ a = h2 + 2 ∨ a = h2 + 3)) (h : X1_tighten h2 μ x1 = some out) : out.2 a = μ a := f_X1_tighten_b0 h2 μ x1 a w2 ha h
theorem f_X1_tightenByAll_b46 {out : wd_Mem} (rec : Int32 → Int32 → wd_Mem → Option (wd_Mem)) (k : wd_Mem → Option (wd_Mem)) (h1 : Nat) (μ : wd_Mem) (x3 s0 : Int32) (a : Nat) (w1 : wd_isW h1) (hrec : ∀ (x2 x3 : Int32) (ν : wd_Mem), rec x2 x3 ν = some out → out a = ν a) (hk : ∀  (ν : wd_Mem), k ν = some out → out a = ν a) (ha : ¬ (a = 10 ∨ a = 11 ∨ a = 12 ∨ a = 13 ∨ a = 14 ∨ a = 15 ∨ a = 16 ∨ a = 17 ∨ a = 19 ∨ a = 20 ∨ a = h1 + 1 ∨ a = h1 + 2 ∨ a = h1 + 3)) (h : X1_tightenByAll_b46 rec k h1 μ x3 s0 = some out) : out a = μ a := by
  unfold X1_tightenByAll_b46 at h
  exact (hrec _ _ _ h).trans rfl
theorem f_X1_tightenByAll_c4 {out : wd_Mem} (rec : Int32 → Int32 → wd_Mem → Option (wd_Mem)) (k : wd_Mem → Option (wd_Mem)) (h1 : Nat) (μ : wd_Mem) (x2 x3 : Int32) (a : Nat) (w1 : wd_isW h1) (hrec : ∀ (x2 x3 : Int32) (ν : wd_Mem), rec x2 x3 ν = some out → out a = ν a) (hk : ∀  (ν : wd_Mem), k ν = some out → out a = ν a) (ha : ¬ (a = 10 ∨ a = 11 ∨ a = 12 ∨ a = 13 ∨ a = 14 ∨ a = 15 ∨ a = 16 ∨ a = 17 ∨ a = 19 ∨ a = 20 ∨ a = h1 + 1 ∨ a = h1 + 2 ∨ a = h1 + 3)) (h : X1_tightenByAll_c4 rec k h1 μ x2 x3 = some out) : out a = μ a := by
  unfold X1_tightenByAll_c4 at h
  by_cases c1 : (10000 : Int32) ≤ x3
  · have h := (if_pos c1).symm.trans h
    exact (hk _ h).trans rfl
  · have h := (if_neg c1).symm.trans h
    by_cases c2 : x2 = (4 : Int32)
    · have h := (if_pos c2).symm.trans h
      have e9 := Option.some.inj h
      subst e9
      exact rfl
    · have h := (if_neg c2).symm.trans h
      obtain ⟨r3, er3, h⟩ := wd_bind_some h
      by_cases c4 : r3 = 0
      · have h := (if_pos c4).symm.trans h
        obtain ⟨-, h⟩ := wd_chk_some h
        obtain ⟨r5, er5, h⟩ := wd_bind_some h
        have fr5 : r5.2 a = μ a := (fr_X1_tighten a w1 (by omega) er5).trans rfl
        by_cases c6 : r5.1 = 0
        · have h := (if_pos c6).symm.trans h
          exact (f_X1_tightenByAll_b46 rec k h1 r5.2 x3 (x2 + (1 : Int32)) a w1 hrec hk ha h).trans fr5
        · have h := (if_neg c6).symm.trans h
          exact (f_X1_tightenByAll_b46 rec k h1 r5.2 x3 (0 : Int32) a w1 hrec hk ha h).trans fr5
      · have h := (if_neg c4).symm.trans h
        have e9 := Option.some.inj h
        subst e9
        exact rfl
theorem f_X1_tightenByAll_l4 {out : wd_Mem} (k : wd_Mem → Option (wd_Mem)) (h1 : Nat) (a : Nat) (w1 : wd_isW h1) (hk : ∀  (ν : wd_Mem), k ν = some out → out a = ν a) (ha : ¬ (a = 10 ∨ a = 11 ∨ a = 12 ∨ a = 13 ∨ a = 14 ∨ a = 15 ∨ a = 16 ∨ a = 17 ∨ a = 19 ∨ a = 20 ∨ a = h1 + 1 ∨ a = h1 + 2 ∨ a = h1 + 3)) : ∀ (n : Nat) (x2 x3 : Int32) (μ : wd_Mem), X1_tightenByAll_l4 k h1 n x2 x3 μ = some out → out a = μ a := by
  intro n
  induction n with
  | zero => intro x2 x3 μ h; exact absurd h (by unfold X1_tightenByAll_l4; simp)
  | succ n ih =>
    intro x2 x3 μ h
    exact f_X1_tightenByAll_c4 (X1_tightenByAll_l4 k h1 n) k h1 μ x2 x3 a w1 (fun x2 x3 μ h => ih x2 x3 μ h) hk ha h
theorem f_X1_tightenByAll_b53 {out : wd_Mem} (h1 : Nat) (μ : wd_Mem) (a : Nat) (w1 : wd_isW h1) (ha : ¬ (a = 10 ∨ a = 11 ∨ a = 12 ∨ a = 13 ∨ a = 14 ∨ a = 15 ∨ a = 16 ∨ a = 17 ∨ a = 19 ∨ a = 20 ∨ a = h1 + 1 ∨ a = h1 + 2 ∨ a = h1 + 3)) (h : X1_tightenByAll_b53 h1 μ = some out) : out a = μ a := by
  unfold X1_tightenByAll_b53 at h
  have e9 := Option.some.inj h
  subst e9
  exact rfl
theorem f_X1_tightenByAll_b0 {out : wd_Mem} (h1 : Nat) (μ : wd_Mem) (a : Nat) (w1 : wd_isW h1) (ha : ¬ (a = 10 ∨ a = 11 ∨ a = 12 ∨ a = 13 ∨ a = 14 ∨ a = 15 ∨ a = 16 ∨ a = 17 ∨ a = 19 ∨ a = 20 ∨ a = h1 + 1 ∨ a = h1 + 2 ∨ a = h1 + 3)) (h : X1_tightenByAll_b0 h1 μ = some out) : out a = μ a := by
  unfold X1_tightenByAll_b0 at h
  exact (f_X1_tightenByAll_l4 (fun μ => X1_tightenByAll_b53 h1 μ) h1 a w1 (fun μ h => f_X1_tightenByAll_b53 h1 μ a w1 ha h) ha wd_big (0 : Int32) (0 : Int32) μ h).trans rfl
theorem fr_X1_tightenByAll {out : wd_Mem} {h1 : Nat} {μ : wd_Mem} (a : Nat) (w1 : wd_isW h1) (ha : ¬ (a = 10 ∨ a = 11 ∨ a = 12 ∨ a = 13 ∨ a = 14 ∨ a = 15 ∨ a = 16 ∨ a = 17 ∨ a = 19 ∨ a = 20 ∨ a = h1 + 1 ∨ a = h1 + 2 ∨ a = h1 + 3)) (h : X1_tightenByAll h1 μ = some out) : out a = μ a := f_X1_tightenByAll_b0 h1 μ  a w1 ha h
theorem f_X7_tightens_b9 {out : Int32 × wd_Mem} (μ : wd_Mem) (a : Nat)  (ha : ¬ (a = 10 ∨ a = 11 ∨ a = 12 ∨ a = 13 ∨ a = 14 ∨ a = 15 ∨ a = 16 ∨ a = 17 ∨ a = 19 ∨ a = 20 ∨ a = 27 ∨ a = 49 ∨ a = 50 ∨ a = 51 ∨ (64 ≤ a ∧ a < 104))) (h : X7_tightens_b9 μ = some out) : out.2 a = μ a := by
  unfold X7_tightens_b9 at h
  have e9 := Option.some.inj h
  subst e9
  exact rfl
theorem f_X7_tightens_b71 {out : Int32 × wd_Mem} (μ : wd_Mem) (a : Nat)  (ha : ¬ (a = 10 ∨ a = 11 ∨ a = 12 ∨ a = 13 ∨ a = 14 ∨ a = 15 ∨ a = 16 ∨ a = 17 ∨ a = 19 ∨ a = 20 ∨ a = 27 ∨ a = 49 ∨ a = 50 ∨ a = 51 ∨ (64 ≤ a ∧ a < 104))) (h : X7_tightens_b71 μ = some out) : out.2 a = μ a := by
  unfold X7_tightens_b71 at h
  obtain ⟨r8, er8, h⟩ := wd_bind_some h
  have wr8 : wd_isW r8 := X0_latest_W er8
  obtain ⟨r9, er9, h⟩ := wd_bind_some h
  have e9 := Option.some.inj h
  subst e9
  exact rfl
theorem f_X7_tightens_b0 {out : Int32 × wd_Mem} (μ : wd_Mem) (x1 : Int32) (a : Nat)  (ha : ¬ (a = 10 ∨ a = 11 ∨ a = 12 ∨ a = 13 ∨ a = 14 ∨ a = 15 ∨ a = 16 ∨ a = 17 ∨ a = 19 ∨ a = 20 ∨ a = 27 ∨ a = 49 ∨ a = 50 ∨ a = 51 ∨ (64 ≤ a ∧ a < 104))) (h : X7_tightens_b0 μ x1 = some out) : out.2 a = μ a := by
  unfold X7_tightens_b0 at h
  by_cases c1 : x1 < 0
  · have h := (if_pos c1).symm.trans h
    exact (f_X7_tightens_b9 μ a  ha h).trans rfl
  · have h := (if_neg c1).symm.trans h
    by_cases c2 : x1 ≤ (4 : Int32)
    · have h := (if_pos c2).symm.trans h
      obtain ⟨r3, er3, h⟩ := wd_bind_some h
      by_cases c4 : r3 = 0
      · have h := (if_pos c4).symm.trans h
        obtain ⟨r5, er5, h⟩ := wd_bind_some h
        have fr5 : r5 a = μ a := (fr_X0_add a sh_48 (by omega) er5).trans rfl
        by_cases c6 : x1 = (4 : Int32)
        · have h := (if_pos c6).symm.trans h
          obtain ⟨r10, er10, h⟩ := wd_bind_some h
          have fr10 : r10 a = μ a := (fr_X1_tightenByAll a sh_48 (by omega) er10).trans fr5
          exact (f_X7_tightens_b71 r10 a  ha h).trans fr10
        · have h := (if_neg c6).symm.trans h
          obtain ⟨r7, er7, h⟩ := wd_bind_some h
          have fr7 : r7.2 a = μ a := (fr_X1_tighten a sh_48 (by omega) er7).trans fr5
          exact (f_X7_tightens_b71 r7.2 a  ha h).trans fr7
      · have h := (if_neg c4).symm.trans h
        have e9 := Option.some.inj h
        subst e9
        exact rfl
    · have h := (if_neg c2).symm.trans h
      exact (f_X7_tightens_b9 μ a  ha h).trans rfl
theorem fr_X7_tightens {out : Int32 × wd_Mem} {μ : wd_Mem} {x1 : Int32} (a : Nat)  (ha : ¬ (a = 10 ∨ a = 11 ∨ a = 12 ∨ a = 13 ∨ a = 14 ∨ a = 15 ∨ a = 16 ∨ a = 17 ∨ a = 19 ∨ a = 20 ∨ a = 27 ∨ a = 49 ∨ a = 50 ∨ a = 51 ∨ (64 ≤ a ∧ a < 104))) (h : X7_tightens μ x1 = some out) : out.2 a = μ a := f_X7_tightens_b0 μ x1 a  ha h
theorem f_X7_puts_b28 {out : Int32 × wd_Mem} (μ : wd_Mem) (a : Nat)  (ha : ¬ (a = 27 ∨ a = 49 ∨ a = 50 ∨ a = 51 ∨ (64 ≤ a ∧ a < 104))) (h : X7_puts_b28 μ = some out) : out.2 a = μ a := by
  unfold X7_puts_b28 at h
  have e9 := Option.some.inj h
  subst e9
  exact rfl
theorem f_X7_puts_b54 {out : Int32 × wd_Mem} (μ : wd_Mem) (a : Nat)  (ha : ¬ (a = 27 ∨ a = 49 ∨ a = 50 ∨ a = 51 ∨ (64 ≤ a ∧ a < 104))) (h : X7_puts_b54 μ = some out) : out.2 a = μ a := by
  unfold X7_puts_b54 at h
  have e9 := Option.some.inj h
  subst e9
  exact rfl
theorem f_X7_puts_b0 {out : Int32 × wd_Mem} (μ : wd_Mem) (x1 x2 x3 : Int32) (a : Nat)  (ha : ¬ (a = 27 ∨ a = 49 ∨ a = 50 ∨ a = 51 ∨ (64 ≤ a ∧ a < 104))) (h : X7_puts_b0 μ x1 x2 x3 = some out) : out.2 a = μ a := by
  unfold X7_puts_b0 at h
  by_cases c1 : (X4_has 3 μ x1) = 0
  · have h := (if_pos c1).symm.trans h
    exact (f_X7_puts_b28 μ a  ha h).trans rfl
  · have h := (if_neg c1).symm.trans h
    by_cases c2 : (X7_isZeroOrOne μ x2) = 0
    · have h := (if_pos c2).symm.trans h
      exact (f_X7_puts_b28 μ a  ha h).trans rfl
    · have h := (if_neg c2).symm.trans h
      by_cases c3 : x3 < 0
      · have h := (if_pos c3).symm.trans h
        exact (f_X7_puts_b28 μ a  ha h).trans rfl
      · have h := (if_neg c3).symm.trans h
        by_cases c4 : x3 ≤ (16 : Int32)
        · have h := (if_pos c4).symm.trans h
          obtain ⟨r5, er5, h⟩ := wd_bind_some h
          by_cases c6 : r5 = 0
          · have h := (if_pos c6).symm.trans h
            obtain ⟨r7, er7, h⟩ := wd_bind_some h
            by_cases c8 : r7 = 0
            · have h := (if_pos c8).symm.trans h
              exact (f_X7_puts_b54 μ a  ha h).trans rfl
            · have h := (if_neg c8).symm.trans h
              obtain ⟨r9, er9, h⟩ := wd_bind_some h
              have fr9 : r9 a = μ a := (fr_X0_add a sh_48 (by omega) er9).trans rfl
              obtain ⟨r10, er10, h⟩ := wd_bind_some h
              obtain ⟨r11, er11, h⟩ := wd_bind_some h
              have fr11 : r11 a = μ a := (fr_X6_move a sh_48 (by omega) er11).trans fr9
              have e9 := Option.some.inj h
              subst e9
              exact fr11
          · have h := (if_neg c6).symm.trans h
            exact (f_X7_puts_b54 μ a  ha h).trans rfl
        · have h := (if_neg c4).symm.trans h
          exact (f_X7_puts_b28 μ a  ha h).trans rfl
theorem fr_X7_puts {out : Int32 × wd_Mem} {μ : wd_Mem} {x1 x2 x3 : Int32} (a : Nat)  (ha : ¬ (a = 27 ∨ a = 49 ∨ a = 50 ∨ a = 51 ∨ (64 ≤ a ∧ a < 104))) (h : X7_puts μ x1 x2 x3 = some out) : out.2 a = μ a := f_X7_puts_b0 μ x1 x2 x3 a  ha h
theorem f_X0_giveBack_b0 {out : wd_Mem} (h1 : Nat) (μ : wd_Mem) (a : Nat) (w1 : wd_isW h1) (ha : ¬ (a = 27 ∨ a = h1 + 1 ∨ a = h1 + 2 ∨ a = h1 + 3)) (h : X0_giveBack_b0 h1 μ = some out) : out a = μ a := by
  unfold X0_giveBack_b0 at h
  by_cases c1 : (μ 27 2) ≤ 0
  · have h := (if_pos c1).symm.trans h
    have e9 := Option.some.inj h
    subst e9
    exact rfl
  · have h := (if_neg c1).symm.trans h
    obtain ⟨-, h⟩ := wd_chk_some h
    obtain ⟨a16, ea16, h⟩ := wd_bind_some h
    have wa16 : wd_isW a16 := wd_ringW ea16
    have ba16 := wd_ringB ea16
    obtain ⟨r2, er2, h⟩ := wd_bind_some h
    have fr2 : r2 a = μ a := (fr_X6_take a w1 wa16 (by omega) er2).trans rfl
    obtain ⟨-, h⟩ := wd_chk_some h
    have e9 := Option.some.inj h
    subst e9
    exact (wd_fr1 (by omega) (wd_fr1 (by omega) fr2))
theorem fr_X0_giveBack {out : wd_Mem} {h1 : Nat} {μ : wd_Mem} (a : Nat) (w1 : wd_isW h1) (ha : ¬ (a = 27 ∨ a = h1 + 1 ∨ a = h1 + 2 ∨ a = h1 + 3)) (h : X0_giveBack h1 μ = some out) : out a = μ a := f_X0_giveBack_b0 h1 μ  a w1 ha h
theorem f_X7_undo_b0 {out : Int32 × wd_Mem} (μ : wd_Mem) (a : Nat)  (ha : ¬ (a = 27 ∨ a = 49 ∨ a = 50 ∨ a = 51)) (h : X7_undo_b0 μ = some out) : out.2 a = μ a := by
  unfold X7_undo_b0 at h
  by_cases c1 : (μ 27 2) = 0
  · have h := (if_pos c1).symm.trans h
    have e9 := Option.some.inj h
    subst e9
    exact rfl
  · have h := (if_neg c1).symm.trans h
    obtain ⟨r2, er2, h⟩ := wd_bind_some h
    have fr2 : r2 a = μ a := (fr_X0_giveBack a sh_48 (by omega) er2).trans rfl
    have e9 := Option.some.inj h
    subst e9
    exact fr2
theorem fr_X7_undo {out : Int32 × wd_Mem} {μ : wd_Mem} (a : Nat)  (ha : ¬ (a = 27 ∨ a = 49 ∨ a = 50 ∨ a = 51)) (h : X7_undo μ = some out) : out.2 a = μ a := f_X7_undo_b0 μ  a  ha h
theorem f_X7_wrap_b15 {out : Int32 × wd_Mem} (μ : wd_Mem) (a : Nat)  (ha : ¬ (a = 10 ∨ a = 11 ∨ a = 12 ∨ a = 13 ∨ a = 14 ∨ a = 15 ∨ a = 16 ∨ a = 17)) (h : X7_wrap_b15 μ = some out) : out.2 a = μ a := by
  unfold X7_wrap_b15 at h
  have e9 := Option.some.inj h
  subst e9
  exact rfl
theorem f_X7_wrap_b0 {out : Int32 × wd_Mem} (μ : wd_Mem) (x1 : Int32) (a : Nat)  (ha : ¬ (a = 10 ∨ a = 11 ∨ a = 12 ∨ a = 13 ∨ a = 14 ∨ a = 15 ∨ a = 16 ∨ a = 17)) (h : X7_wrap_b0 μ x1 = some out) : out.2 a = μ a := by
  unfold X7_wrap_b0 at h
  by_cases c1 : x1 = 0
  · have h := (if_pos c1).symm.trans h
    exact (f_X7_wrap_b15 μ a  ha h).trans rfl
  · have h := (if_neg c1).symm.trans h
    by_cases c2 : (X4_hasSet 3 μ x1) = 0
    · have h := (if_pos c2).symm.trans h
      exact (f_X7_wrap_b15 μ a  ha h).trans rfl
    · have h := (if_neg c2).symm.trans h
      obtain ⟨r3, er3, h⟩ := wd_bind_some h
      have fr3 : r3 a = μ a := (fr_X3_look a sh_48 (by omega) er3).trans rfl
      obtain ⟨r4, er4, h⟩ := wd_bind_some h
      have e9 := Option.some.inj h
      subst e9
      exact fr3
theorem fr_X7_wrap {out : Int32 × wd_Mem} {μ : wd_Mem} {x1 : Int32} (a : Nat)  (ha : ¬ (a = 10 ∨ a = 11 ∨ a = 12 ∨ a = 13 ∨ a = 14 ∨ a = 15 ∨ a = 16 ∨ a = 17)) (h : X7_wrap μ x1 = some out) : out.2 a = μ a := f_X7_wrap_b0 μ x1 a  ha h
theorem f_X7_grey_b26 {out : Int32 × wd_Mem} (μ : wd_Mem) (a : Nat)  (ha : ¬ (a = 10 ∨ a = 11 ∨ a = 12 ∨ a = 13 ∨ a = 14 ∨ a = 15 ∨ a = 16 ∨ a = 17)) (h : X7_grey_b26 μ = some out) : out.2 a = μ a := by
  unfold X7_grey_b26 at h
  have e9 := Option.some.inj h
  subst e9
  exact rfl
theorem f_X7_grey_b41 {out : Int32 × wd_Mem} (μ : wd_Mem) (a : Nat)  (ha : ¬ (a = 10 ∨ a = 11 ∨ a = 12 ∨ a = 13 ∨ a = 14 ∨ a = 15 ∨ a = 16 ∨ a = 17)) (h : X7_grey_b41 μ = some out) : out.2 a = μ a := by
  unfold X7_grey_b41 at h
  have e9 := Option.some.inj h
  subst e9
  exact rfl
theorem f_X7_grey_b0 {out : Int32 × wd_Mem} (μ : wd_Mem) (x1 x2 x3 : Int32) (a : Nat)  (ha : ¬ (a = 10 ∨ a = 11 ∨ a = 12 ∨ a = 13 ∨ a = 14 ∨ a = 15 ∨ a = 16 ∨ a = 17)) (h : X7_grey_b0 μ x1 x2 x3 = some out) : out.2 a = μ a := by
  unfold X7_grey_b0 at h
  by_cases c1 : (X4_hasSet 3 μ x1) = 0
  · have h := (if_pos c1).symm.trans h
    exact (f_X7_grey_b26 μ a  ha h).trans rfl
  · have h := (if_neg c1).symm.trans h
    by_cases c2 : (X4_hasSet 3 μ x2) = 0
    · have h := (if_pos c2).symm.trans h
      exact (f_X7_grey_b26 μ a  ha h).trans rfl
    · have h := (if_neg c2).symm.trans h
      by_cases c3 : x2 = 0
      · have h := (if_pos c3).symm.trans h
        exact (f_X7_grey_b26 μ a  ha h).trans rfl
      · have h := (if_neg c3).symm.trans h
        by_cases c4 : (x1 &&& x2) = 0
        · have h := (if_pos c4).symm.trans h
          by_cases c5 : (X7_isZeroOrOne μ x3) = 0
          · have h := (if_pos c5).symm.trans h
            exact (f_X7_grey_b41 μ a  ha h).trans rfl
          · have h := (if_neg c5).symm.trans h
            obtain ⟨r6, er6, h⟩ := wd_bind_some h
            have fr6 : r6 a = μ a := (fr_X3_look a sh_48 (by omega) er6).trans rfl
            obtain ⟨r7, er7, h⟩ := wd_bind_some h
            by_cases c8 : x3 = 0
            · have h := (if_pos c8).symm.trans h
              obtain ⟨r9, er9, h⟩ := wd_bind_some h
              have e9 := Option.some.inj h
              subst e9
              exact fr6
            · have h := (if_neg c8).symm.trans h
              have e9 := Option.some.inj h
              subst e9
              exact fr6
        · have h := (if_neg c4).symm.trans h
          exact (f_X7_grey_b41 μ a  ha h).trans rfl
theorem fr_X7_grey {out : Int32 × wd_Mem} {μ : wd_Mem} {x1 x2 x3 : Int32} (a : Nat)  (ha : ¬ (a = 10 ∨ a = 11 ∨ a = 12 ∨ a = 13 ∨ a = 14 ∨ a = 15 ∨ a = 16 ∨ a = 17)) (h : X7_grey μ x1 x2 x3 = some out) : out.2 a = μ a := f_X7_grey_b0 μ x1 x2 x3 a  ha h
theorem f_X2_growNeeds_c2 {out : wd_Mem} (rec : Int32 → wd_Mem → Option (wd_Mem)) (k : wd_Mem → Option (wd_Mem)) (μ : wd_Mem) (x1 x2 : Int32) (a : Nat) (hrec : ∀ (x2 : Int32) (ν : wd_Mem), rec x2 ν = some out → out a = ν a) (hk : ∀  (ν : wd_Mem), k ν = some out → out a = ν a) (ha : ¬ (a = 24)) (h : X2_growNeeds_c2 rec k μ x1 x2 = some out) : out a = μ a := by
  unfold X2_growNeeds_c2 at h
  by_cases c1 : (μ 3 1) ≤ x2
  · have h := (if_pos c1).symm.trans h
    exact (hk _ h).trans rfl
  · have h := (if_neg c1).symm.trans h
    obtain ⟨-, h⟩ := wd_chk_some h
    exact (hrec _ _ h).trans (wd_fr1 (by omega) rfl)
theorem f_X2_growNeeds_l2 {out : wd_Mem} (k : wd_Mem → Option (wd_Mem)) (x1 : Int32) (a : Nat) (hk : ∀  (ν : wd_Mem), k ν = some out → out a = ν a) (ha : ¬ (a = 24)) : ∀ (n : Nat) (x2 : Int32) (μ : wd_Mem), X2_growNeeds_l2 k x1 n x2 μ = some out → out a = μ a := by
  intro n
  induction n with
  | zero => intro x2 μ h; exact absurd h (by unfold X2_growNeeds_l2; simp)
  | succ n ih =>
    intro x2 μ h
    exact f_X2_growNeeds_c2 (X2_growNeeds_l2 k x1 n) k μ x1 x2 a  (fun x2 μ h => ih x2 μ h) hk ha h
theorem f_X2_growNeeds_b50 {out : wd_Mem} (μ : wd_Mem) (a : Nat)  (ha : ¬ (a = 24)) (h : X2_growNeeds_b50 μ = some out) : out a = μ a := by
  unfold X2_growNeeds_b50 at h
  have e9 := Option.some.inj h
  subst e9
  exact rfl
theorem f_X2_growNeeds_b0 {out : wd_Mem} (μ : wd_Mem) (x1 : Int32) (a : Nat)  (ha : ¬ (a = 24)) (h : X2_growNeeds_b0 μ x1 = some out) : out a = μ a := by
  unfold X2_growNeeds_b0 at h
  exact (f_X2_growNeeds_l2 (fun μ => X2_growNeeds_b50 μ) x1 a  (fun μ h => f_X2_growNeeds_b50 μ a  ha h) ha wd_big (0 : Int32) μ h).trans rfl
theorem fr_X2_growNeeds {out : wd_Mem} {μ : wd_Mem} {x1 : Int32} (a : Nat)  (ha : ¬ (a = 24)) (h : X2_growNeeds μ x1 = some out) : out a = μ a := f_X2_growNeeds_b0 μ x1 a  ha h
theorem f_X2_luckyOf_b80 {out : Int32 × wd_Mem} (rec : Int32 → Int32 → wd_Mem → Option (Int32 × wd_Mem)) (k : Int32 → wd_Mem → Option (Int32 × wd_Mem)) (h1 : Nat) (μ : wd_Mem) (x2 x3 x4 : Int32) (a : Nat) (w1 : wd_isW h1) (hrec : ∀ (x3 x4 : Int32) (ν : wd_Mem), rec x3 x4 ν = some out → out.2 a = ν a) (hk : ∀ (x3 : Int32) (ν : wd_Mem), k x3 ν = some out → out.2 a = ν a) (ha : ¬ (a = 22 ∨ a = 23 ∨ a = 24 ∨ a = 26)) (h : X2_luckyOf_b80 rec k h1 μ x2 x3 x4 = some out) : out.2 a = μ a := by
  unfold X2_luckyOf_b80 at h
  exact (hrec _ _ _ h).trans rfl
theorem f_X2_luckyOf_c10 {out : Int32 × wd_Mem} (rec : Int32 → Int32 → wd_Mem → Option (Int32 × wd_Mem)) (k : Int32 → wd_Mem → Option (Int32 × wd_Mem)) (h1 : Nat) (μ : wd_Mem) (x2 x3 x4 : Int32) (a : Nat) (w1 : wd_isW h1) (hrec : ∀ (x3 x4 : Int32) (ν : wd_Mem), rec x3 x4 ν = some out → out.2 a = ν a) (hk : ∀ (x3 : Int32) (ν : wd_Mem), k x3 ν = some out → out.2 a = ν a) (ha : ¬ (a = 22 ∨ a = 23 ∨ a = 24 ∨ a = 26)) (h : X2_luckyOf_c10 rec k h1 μ x2 x3 x4 = some out) : out.2 a = μ a := by
  unfold X2_luckyOf_c10 at h
  by_cases c2 : ((1 : Int32) <<< ((μ 3 1) &&& 31)) ≤ x4
  · have h := (if_pos c2).symm.trans h
    exact (hk _ _ h).trans rfl
  · have h := (if_neg c2).symm.trans h
    obtain ⟨r3, er3, h⟩ := wd_bind_some h
    obtain ⟨r4, er4, h⟩ := wd_bind_some h
    obtain ⟨r5, er5, h⟩ := wd_bind_some h
    have fr5 : r5 a = μ a := (fr_X2_growNeeds a  (by omega) er5).trans rfl
    by_cases c6 : (r3 * r4) ≤ 0
    · have h := (if_pos c6).symm.trans h
      exact (f_X2_luckyOf_b80 rec k h1 r5 x2 x3 x4 a w1 hrec hk ha h).trans fr5
    · have h := (if_neg c6).symm.trans h
      obtain ⟨r7, er7, h⟩ := wd_bind_some h
      have fr7 : r7.2 a = μ a := (fr_X2_isAny a  (by omega) er7).trans fr5
      by_cases c8 : r7.1 = 0
      · have h := (if_pos c8).symm.trans h
        exact (f_X2_luckyOf_b80 rec k h1 r7.2 x2 x3 x4 a w1 hrec hk ha h).trans fr7
      · have h := (if_neg c8).symm.trans h
        exact (f_X2_luckyOf_b80 rec k h1 r7.2 x2 (x3 + (r3 * r4)) x4 a w1 hrec hk ha h).trans fr7
theorem f_X2_luckyOf_l10 {out : Int32 × wd_Mem} (k : Int32 → wd_Mem → Option (Int32 × wd_Mem)) (h1 : Nat) (x2 : Int32) (a : Nat) (w1 : wd_isW h1) (hk : ∀ (x3 : Int32) (ν : wd_Mem), k x3 ν = some out → out.2 a = ν a) (ha : ¬ (a = 22 ∨ a = 23 ∨ a = 24 ∨ a = 26)) : ∀ (n : Nat) (x3 x4 : Int32) (μ : wd_Mem), X2_luckyOf_l10 k h1 x2 n x3 x4 μ = some out → out.2 a = μ a := by
  intro n
  induction n with
  | zero => intro x3 x4 μ h; exact absurd h (by unfold X2_luckyOf_l10; simp)
  | succ n ih =>
    intro x3 x4 μ h
    exact f_X2_luckyOf_c10 (X2_luckyOf_l10 k h1 x2 n) k h1 μ x2 x3 x4 a w1 (fun x3 x4 μ h => ih x3 x4 μ h) hk ha h
theorem f_X2_luckyOf_b86 {out : Int32 × wd_Mem} (h1 : Nat) (μ : wd_Mem) (x3 : Int32) (a : Nat) (w1 : wd_isW h1) (ha : ¬ (a = 22 ∨ a = 23 ∨ a = 24 ∨ a = 26)) (h : X2_luckyOf_b86 h1 μ x3 = some out) : out.2 a = μ a := by
  unfold X2_luckyOf_b86 at h
  have e9 := Option.some.inj h
  subst e9
  exact rfl
theorem f_X2_luckyOf_b0 {out : Int32 × wd_Mem} (h1 : Nat) (μ : wd_Mem) (x2 : Int32) (a : Nat) (w1 : wd_isW h1) (ha : ¬ (a = 22 ∨ a = 23 ∨ a = 24 ∨ a = 26)) (h : X2_luckyOf_b0 h1 μ x2 = some out) : out.2 a = μ a := by
  unfold X2_luckyOf_b0 at h
  obtain ⟨r1, er1, h⟩ := wd_bind_some h
  have fr1 : r1 a = μ a := (fr_X2_open a w1 (by omega) er1).trans rfl
  exact (f_X2_luckyOf_l10 (fun x3 μ => X2_luckyOf_b86 h1 μ x3) h1 x2 a w1 (fun x3 μ h => f_X2_luckyOf_b86 h1 μ x3 a w1 ha h) ha wd_big (0 : Int32) (0 : Int32) r1 h).trans fr1
theorem fr_X2_luckyOf {out : Int32 × wd_Mem} {h1 : Nat} {μ : wd_Mem} {x2 : Int32} (a : Nat) (w1 : wd_isW h1) (ha : ¬ (a = 22 ∨ a = 23 ∨ a = 24 ∨ a = 26)) (h : X2_luckyOf h1 μ x2 = some out) : out.2 a = μ a := f_X2_luckyOf_b0 h1 μ x2 a w1 ha h
theorem f_X7_odds_b17 {out : Int32 × wd_Mem} (μ : wd_Mem) (a : Nat)  (ha : ¬ (a = 22 ∨ a = 23 ∨ a = 24 ∨ a = 26)) (h : X7_odds_b17 μ = some out) : out.2 a = μ a := by
  unfold X7_odds_b17 at h
  have e9 := Option.some.inj h
  subst e9
  exact rfl
theorem f_X7_odds_b0 {out : Int32 × wd_Mem} (μ : wd_Mem) (x1 x2 : Int32) (a : Nat)  (ha : ¬ (a = 22 ∨ a = 23 ∨ a = 24 ∨ a = 26)) (h : X7_odds_b0 μ x1 x2 = some out) : out.2 a = μ a := by
  unfold X7_odds_b0 at h
  by_cases c1 : x1 < 0
  · have h := (if_pos c1).symm.trans h
    exact (f_X7_odds_b17 μ a  ha h).trans rfl
  · have h := (if_neg c1).symm.trans h
    by_cases c2 : (10 : Int32) < x1
    · have h := (if_pos c2).symm.trans h
      exact (f_X7_odds_b17 μ a  ha h).trans rfl
    · have h := (if_neg c2).symm.trans h
      by_cases c3 : (X7_isZeroOrOne μ x2) = 0
      · have h := (if_pos c3).symm.trans h
        exact (f_X7_odds_b17 μ a  ha h).trans rfl
      · have h := (if_neg c3).symm.trans h
        obtain ⟨r4, er4, h⟩ := wd_bind_some h
        have fr4 : r4.2 a = μ a := (fr_X2_luckyOf a sh_48 (by omega) er4).trans rfl
        obtain ⟨r5, er5, h⟩ := wd_bind_some h
        obtain ⟨r6, er6, h⟩ := wd_bind_some h
        by_cases c7 : 0 < r6
        · have h := (if_pos c7).symm.trans h
          by_cases c8 : x2 = 0
          · have h := (if_pos c8).symm.trans h
            obtain ⟨-, h⟩ := wd_chk_some h
            have e9 := Option.some.inj h
            subst e9
            exact fr4
          · have h := (if_neg c8).symm.trans h
            obtain ⟨-, h⟩ := wd_chk_some h
            have e9 := Option.some.inj h
            subst e9
            exact fr4
        · have h := (if_neg c7).symm.trans h
          have e9 := Option.some.inj h
          subst e9
          exact fr4
theorem fr_X7_odds {out : Int32 × wd_Mem} {μ : wd_Mem} {x1 x2 : Int32} (a : Nat)  (ha : ¬ (a = 22 ∨ a = 23 ∨ a = 24 ∨ a = 26)) (h : X7_odds μ x1 x2 = some out) : out.2 a = μ a := f_X7_odds_b0 μ x1 x2 a  ha h
theorem f_X7_keep_b0 {out : Int32 × wd_Mem} (μ : wd_Mem) (x1 : Int32) (a : Nat)  (ha : ¬ (a = 30 ∨ (56 ≤ a ∧ a < 64))) (h : X7_keep_b0 μ x1 = some out) : out.2 a = μ a := by
  unfold X7_keep_b0 at h
  by_cases c1 : (X7_isZeroOrOne μ x1) = 0
  · have h := (if_pos c1).symm.trans h
    have e9 := Option.some.inj h
    subst e9
    exact rfl
  · have h := (if_neg c1).symm.trans h
    obtain ⟨-, h⟩ := wd_chk_some h
    obtain ⟨a14, ea14, h⟩ := wd_bind_some h
    have wa14 : wd_isW a14 := wd_imgsW ea14
    have ba14 := wd_imgsB ea14
    obtain ⟨r2, er2, h⟩ := wd_bind_some h
    have fr2 : r2 a = μ a := (fr_X6_take a wa14 sh_48 (by omega) er2).trans rfl
    have e9 := Option.some.inj h
    subst e9
    exact (wd_fr1 (by omega) fr2)
theorem fr_X7_keep {out : Int32 × wd_Mem} {μ : wd_Mem} {x1 : Int32} (a : Nat)  (ha : ¬ (a = 30 ∨ (56 ≤ a ∧ a < 64))) (h : X7_keep μ x1 = some out) : out.2 a = μ a := f_X7_keep_b0 μ x1 a  ha h
theorem f_X7_back_b0 {out : Int32 × wd_Mem} (μ : wd_Mem) (x1 : Int32) (a : Nat)  (ha : ¬ (a = 27 ∨ a = 49 ∨ a = 50 ∨ a = 51)) (h : X7_back_b0 μ x1 = some out) : out.2 a = μ a := by
  unfold X7_back_b0 at h
  by_cases c1 : (X7_isZeroOrOne μ x1) = 0
  · have h := (if_pos c1).symm.trans h
    have e9 := Option.some.inj h
    subst e9
    exact rfl
  · have h := (if_neg c1).symm.trans h
    obtain ⟨-, h⟩ := wd_chk_some h
    by_cases c2 : (μ 30 (Int32.toNatClampNeg x1)) = 0
    · have h := (if_pos c2).symm.trans h
      have e9 := Option.some.inj h
      subst e9
      exact rfl
    · have h := (if_neg c2).symm.trans h
      obtain ⟨a30, ea30, h⟩ := wd_bind_some h
      have wa30 : wd_isW a30 := wd_imgsW ea30
      have ba30 := wd_imgsB ea30
      obtain ⟨r3, er3, h⟩ := wd_bind_some h
      have fr3 : r3 a = μ a := (fr_X6_take a sh_48 wa30 (by omega) er3).trans rfl
      have e9 := Option.some.inj h
      subst e9
      exact (wd_fr1 (by omega) fr3)
theorem fr_X7_back {out : Int32 × wd_Mem} {μ : wd_Mem} {x1 : Int32} (a : Nat)  (ha : ¬ (a = 27 ∨ a = 49 ∨ a = 50 ∨ a = 51)) (h : X7_back μ x1 = some out) : out.2 a = μ a := f_X7_back_b0 μ x1 a  ha h
theorem f_X2_putInOrder_b68 {out : wd_Mem} (rec : Int32 → Int32 → Option (wd_Mem)) (k : Int32 → Option (wd_Mem)) (μ : wd_Mem) (x1 x3 s0 s1 : Int32) (a : Nat) (hrec : ∀ (x2 x3 : Int32), rec x2 x3 = some out → out a = μ a) (hk : ∀ (x2 : Int32), k x2 = some out → out a = μ a) (ha : ¬ (a = 25)) (h : X2_putInOrder_b68 rec k μ x1 x3 s0 s1 = some out) : out a = μ a := by
  unfold X2_putInOrder_b68 at h
  exact (hrec _ _ h)
theorem f_X2_putInOrder_b63 {out : wd_Mem} (rec : Int32 → Int32 → Option (wd_Mem)) (k : Int32 → Option (wd_Mem)) (μ : wd_Mem) (x1 x3 s0 : Int32) (a : Nat) (hrec : ∀ (x2 x3 : Int32), rec x2 x3 = some out → out a = μ a) (hk : ∀ (x2 : Int32), k x2 = some out → out a = μ a) (ha : ¬ (a = 25)) (h : X2_putInOrder_b63 rec k μ x1 x3 s0 = some out) : out a = μ a := by
  unfold X2_putInOrder_b63 at h
  exact (f_X2_putInOrder_b68 rec k μ x1 x3 s0 (1 : Int32) a hrec hk ha h).trans rfl
theorem f_X2_putInOrder_b67 {out : wd_Mem} (rec : Int32 → Int32 → Option (wd_Mem)) (k : Int32 → Option (wd_Mem)) (μ : wd_Mem) (x1 x3 s0 : Int32) (a : Nat) (hrec : ∀ (x2 x3 : Int32), rec x2 x3 = some out → out a = μ a) (hk : ∀ (x2 : Int32), k x2 = some out → out a = μ a) (ha : ¬ (a = 25)) (h : X2_putInOrder_b67 rec k μ x1 x3 s0 = some out) : out a = μ a := by
  unfold X2_putInOrder_b67 at h
  exact (f_X2_putInOrder_b68 rec k μ x1 x3 s0 (0 : Int32) a hrec hk ha h).trans rfl
theorem f_X2_putInOrder_c17 {out : wd_Mem} (rec : Int32 → Int32 → Option (wd_Mem)) (k : Int32 → Option (wd_Mem)) (μ : wd_Mem) (x1 x2 x3 : Int32) (a : Nat) (hrec : ∀ (x2 x3 : Int32), rec x2 x3 = some out → out a = μ a) (hk : ∀ (x2 : Int32), k x2 = some out → out a = μ a) (ha : ¬ (a = 25)) (h : X2_putInOrder_c17 rec k μ x1 x2 x3 = some out) : out a = μ a := by
  unfold X2_putInOrder_c17 at h
  by_cases c2 : (μ 3 1) ≤ x3
  · have h := (if_pos c2).symm.trans h
    exact (hk _ h)
  · have h := (if_neg c2).symm.trans h
    obtain ⟨r3, er3, h⟩ := wd_bind_some h
    obtain ⟨r4, er4, h⟩ := wd_bind_some h
    by_cases c5 : 0 < (r3 - r4)
    · have h := (if_pos c5).symm.trans h
      exact (f_X2_putInOrder_b63 rec k μ x1 x3 x2 a hrec hk ha h).trans rfl
    · have h := (if_neg c5).symm.trans h
      by_cases c6 : (r3 - r4) = 0
      · have h := (if_pos c6).symm.trans h
        by_cases c7 : x1 ≤ x3
        · have h := (if_pos c7).symm.trans h
          exact (f_X2_putInOrder_b67 rec k μ x1 x3 x2 a hrec hk ha h).trans rfl
        · have h := (if_neg c7).symm.trans h
          exact (f_X2_putInOrder_b63 rec k μ x1 x3 x2 a hrec hk ha h).trans rfl
      · have h := (if_neg c6).symm.trans h
        exact (f_X2_putInOrder_b67 rec k μ x1 x3 x2 a hrec hk ha h).trans rfl
theorem f_X2_putInOrder_l17 {out : wd_Mem} (k : Int32 → Option (wd_Mem)) (μ : wd_Mem) (x1 : Int32) (a : Nat) (hk : ∀ (x2 : Int32), k x2 = some out → out a = μ a) (ha : ¬ (a = 25)) : ∀ (n : Nat) (x2 x3 : Int32), X2_putInOrder_l17 k μ x1 n x2 x3 = some out → out a = μ a := by
  intro n
  induction n with
  | zero => intro x2 x3 h; exact absurd h (by unfold X2_putInOrder_l17; simp)
  | succ n ih =>
    intro x2 x3 h
    exact f_X2_putInOrder_c17 (X2_putInOrder_l17 k μ x1 n) k μ x1 x2 x3 a  (fun x2 x3 h => ih x2 x3 h) hk ha h
theorem f_X2_putInOrder_b76 {out : wd_Mem} (rec : Int32 → wd_Mem → Option (wd_Mem)) (k : wd_Mem → Option (wd_Mem)) (μ : wd_Mem) (x1 x2 : Int32) (a : Nat) (hrec : ∀ (x1 : Int32) (ν : wd_Mem), rec x1 ν = some out → out a = ν a) (hk : ∀  (ν : wd_Mem), k ν = some out → out a = ν a) (ha : ¬ (a = 25)) (h : X2_putInOrder_b76 rec k μ x1 x2 = some out) : out a = μ a := by
  unfold X2_putInOrder_b76 at h
  obtain ⟨-, h⟩ := wd_chk_some h
  exact (hrec _ _ h).trans (wd_fr1 (by omega) rfl)
theorem f_X2_putInOrder_c2 {out : wd_Mem} (rec : Int32 → wd_Mem → Option (wd_Mem)) (k : wd_Mem → Option (wd_Mem)) (μ : wd_Mem) (x1 : Int32) (a : Nat) (hrec : ∀ (x1 : Int32) (ν : wd_Mem), rec x1 ν = some out → out a = ν a) (hk : ∀  (ν : wd_Mem), k ν = some out → out a = ν a) (ha : ¬ (a = 25)) (h : X2_putInOrder_c2 rec k μ x1 = some out) : out a = μ a := by
  unfold X2_putInOrder_c2 at h
  by_cases c1 : (μ 3 1) ≤ x1
  · have h := (if_pos c1).symm.trans h
    exact (hk _ h).trans rfl
  · have h := (if_neg c1).symm.trans h
    exact (f_X2_putInOrder_l17 (fun x2 => X2_putInOrder_b76 rec k μ x1 x2) μ x1 a  (fun x2 h => f_X2_putInOrder_b76 rec k μ x1 x2 a hrec hk ha h) ha wd_big (0 : Int32) (0 : Int32) h).trans rfl
theorem f_X2_putInOrder_l2 {out : wd_Mem} (k : wd_Mem → Option (wd_Mem)) (a : Nat) (hk : ∀  (ν : wd_Mem), k ν = some out → out a = ν a) (ha : ¬ (a = 25)) : ∀ (n : Nat) (x1 : Int32) (μ : wd_Mem), X2_putInOrder_l2 k n x1 μ = some out → out a = μ a := by
  intro n
  induction n with
  | zero => intro x1 μ h; exact absurd h (by unfold X2_putInOrder_l2; simp)
  | succ n ih =>
    intro x1 μ h
    exact f_X2_putInOrder_c2 (X2_putInOrder_l2 k n) k μ x1 a  (fun x1 μ h => ih x1 μ h) hk ha h
theorem f_X2_putInOrder_b89 {out : wd_Mem} (μ : wd_Mem) (a : Nat)  (ha : ¬ (a = 25)) (h : X2_putInOrder_b89 μ = some out) : out a = μ a := by
  unfold X2_putInOrder_b89 at h
  have e9 := Option.some.inj h
  subst e9
  exact rfl
theorem f_X2_putInOrder_b0 {out : wd_Mem} (μ : wd_Mem) (a : Nat)  (ha : ¬ (a = 25)) (h : X2_putInOrder_b0 μ = some out) : out a = μ a := by
  unfold X2_putInOrder_b0 at h
  exact (f_X2_putInOrder_l2 (fun μ => X2_putInOrder_b89 μ) a  (fun μ h => f_X2_putInOrder_b89 μ a  ha h) ha wd_big (0 : Int32) μ h).trans rfl
theorem fr_X2_putInOrder {out : wd_Mem} {μ : wd_Mem} (a : Nat)  (ha : ¬ (a = 25)) (h : X2_putInOrder μ = some out) : out a = μ a := f_X2_putInOrder_b0 μ  a  ha h
theorem f_X2_countWith_b0 {out : wd_Mem} (self : wd_Mem → Int32 → Option (wd_Mem)) (μ : wd_Mem) (x1 x2 x3 : Int32) (a : Nat) (hself : ∀ (ν : wd_Mem) (y0 : Int32) (o : wd_Mem), self ν y0 = some o → o a = ν a) (ha : ¬ (a = 21 ∨ a = 26)) (h : X2_countWith_b0 self μ x1 x2 x3 = some out) : out a = μ a := by
  unfold X2_countWith_b0 at h
  obtain ⟨-, h⟩ := wd_chk_some h
  obtain ⟨r1, er1, h⟩ := wd_bind_some h
  have fr1 : r1 a = μ a := (fr_X2_fill a  (by omega) er1).trans rfl
  obtain ⟨r2, er2, h⟩ := wd_bind_some h
  have fr2 : r2 a = μ a := (hself _ _ _ er2).trans fr1
  obtain ⟨r3, er3, h⟩ := wd_bind_some h
  have fr3 : r3 a = μ a := (fr_X2_fill a  (by omega) er3).trans fr2
  have e9 := Option.some.inj h
  subst e9
  exact fr3
theorem fr_X2_countWith {out : wd_Mem} {μ : wd_Mem} {x1 x2 x3 : Int32} (self : wd_Mem → Int32 → Option (wd_Mem)) (a : Nat) (hself : ∀ (ν : wd_Mem) (y0 : Int32) (o : wd_Mem), self ν y0 = some o → o a = ν a) (ha : ¬ (a = 21 ∨ a = 26)) (h : X2_countWith self μ x1 x2 x3 = some out) : out a = μ a := f_X2_countWith_b0 self μ x1 x2 x3 a hself  ha h
theorem f_X2_countFrom_b120 {out : wd_Mem} (self : wd_Mem → Int32 → Option (wd_Mem)) (rec : Int32 → Int32 → wd_Mem → Option (wd_Mem)) (k : wd_Mem → Option (wd_Mem)) (μ : wd_Mem) (x1 x2 x3 x4 : Int32) (a : Nat) (hself : ∀ (ν : wd_Mem) (y0 : Int32) (o : wd_Mem), self ν y0 = some o → o a = ν a) (hrec : ∀ (x3 x4 : Int32) (ν : wd_Mem), rec x3 x4 ν = some out → out a = ν a) (hk : ∀  (ν : wd_Mem), k ν = some out → out a = ν a) (ha : ¬ (a = 21 ∨ a = 26)) (h : X2_countFrom_b120 self rec k μ x1 x2 x3 x4 = some out) : out a = μ a := by
  unfold X2_countFrom_b120 at h
  exact (hrec _ _ _ h).trans rfl
theorem f_X2_countFrom_b76 {out : wd_Mem} (self : wd_Mem → Int32 → Option (wd_Mem)) (rec : Int32 → Int32 → wd_Mem → Option (wd_Mem)) (k : wd_Mem → Option (wd_Mem)) (μ : wd_Mem) (x1 x2 x4 s0 : Int32) (a : Nat) (hself : ∀ (ν : wd_Mem) (y0 : Int32) (o : wd_Mem), self ν y0 = some o → o a = ν a) (hrec : ∀ (x3 x4 : Int32) (ν : wd_Mem), rec x3 x4 ν = some out → out a = ν a) (hk : ∀  (ν : wd_Mem), k ν = some out → out a = ν a) (ha : ¬ (a = 21 ∨ a = 26)) (h : X2_countFrom_b76 self rec k μ x1 x2 x4 s0 = some out) : out a = μ a := by
  unfold X2_countFrom_b76 at h
  obtain ⟨-, h⟩ := wd_chk_some h
  by_cases c5 : s0 < (μ 4 (Int32.toNatClampNeg x2))
  · have h := (if_pos c5).symm.trans h
    exact (f_X2_countFrom_b120 self rec k μ x1 x2 s0 x4 a hself hrec hk ha h).trans rfl
  · have h := (if_neg c5).symm.trans h
    by_cases c6 : (9999 : Int32) ≤ (μ 21 6)
    · have h := (if_pos c6).symm.trans h
      exact (f_X2_countFrom_b120 self rec k μ x1 x2 s0 x4 a hself hrec hk ha h).trans rfl
    · have h := (if_neg c6).symm.trans h
      obtain ⟨r7, er7, h⟩ := wd_bind_some h
      have fr7 : r7 a = μ a := (fr_X2_countWith self a hself  (by omega) er7).trans rfl
      exact (f_X2_countFrom_b120 self rec k r7 x1 x2 s0 x4 a hself hrec hk ha h).trans fr7
theorem f_X2_countFrom_c43 {out : wd_Mem} (self : wd_Mem → Int32 → Option (wd_Mem)) (rec : Int32 → Int32 → wd_Mem → Option (wd_Mem)) (k : wd_Mem → Option (wd_Mem)) (μ : wd_Mem) (x1 x2 x3 x4 : Int32) (a : Nat) (hself : ∀ (ν : wd_Mem) (y0 : Int32) (o : wd_Mem), self ν y0 = some o → o a = ν a) (hrec : ∀ (x3 x4 : Int32) (ν : wd_Mem), rec x3 x4 ν = some out → out a = ν a) (hk : ∀  (ν : wd_Mem), k ν = some out → out a = ν a) (ha : ¬ (a = 21 ∨ a = 26)) (h : X2_countFrom_c43 self rec k μ x1 x2 x3 x4 = some out) : out a = μ a := by
  unfold X2_countFrom_c43 at h
  obtain ⟨-, h⟩ := wd_chk_some h
  by_cases c2 : (if (μ 23 (Int32.toNatClampNeg x2)) < (16 : Int32) then (μ 23 (Int32.toNatClampNeg x2)) else (16 : Int32)) ≤ x4
  · have h := (if_pos c2).symm.trans h
    exact (hk _ h).trans rfl
  · have h := (if_neg c2).symm.trans h
    obtain ⟨r3, er3, h⟩ := wd_bind_some h
    by_cases c4 : r3 = 0
    · have h := (if_pos c4).symm.trans h
      exact (f_X2_countFrom_b76 self rec k μ x1 x2 x4 (0 : Int32) a hself hrec hk ha h).trans rfl
    · have h := (if_neg c4).symm.trans h
      exact (f_X2_countFrom_b76 self rec k μ x1 x2 x4 (x3 + (1 : Int32)) a hself hrec hk ha h).trans rfl
theorem f_X2_countFrom_l43 {out : wd_Mem} (self : wd_Mem → Int32 → Option (wd_Mem)) (k : wd_Mem → Option (wd_Mem)) (x1 x2 : Int32) (a : Nat) (hself : ∀ (ν : wd_Mem) (y0 : Int32) (o : wd_Mem), self ν y0 = some o → o a = ν a) (hk : ∀  (ν : wd_Mem), k ν = some out → out a = ν a) (ha : ¬ (a = 21 ∨ a = 26)) : ∀ (n : Nat) (x3 x4 : Int32) (μ : wd_Mem), X2_countFrom_l43 self k x1 x2 n x3 x4 μ = some out → out a = μ a := by
  intro n
  induction n with
  | zero => intro x3 x4 μ h; exact absurd h (by unfold X2_countFrom_l43; simp)
  | succ n ih =>
    intro x3 x4 μ h
    exact f_X2_countFrom_c43 self (X2_countFrom_l43 self k x1 x2 n) k μ x1 x2 x3 x4 a hself (fun x3 x4 μ h => ih x3 x4 μ h) hk ha h
theorem f_X2_countFrom_b126 {out : wd_Mem} (self : wd_Mem → Int32 → Option (wd_Mem)) (μ : wd_Mem) (a : Nat) (hself : ∀ (ν : wd_Mem) (y0 : Int32) (o : wd_Mem), self ν y0 = some o → o a = ν a) (ha : ¬ (a = 21 ∨ a = 26)) (h : X2_countFrom_b126 self μ = some out) : out a = μ a := by
  unfold X2_countFrom_b126 at h
  have e9 := Option.some.inj h
  subst e9
  exact rfl
theorem f_X2_countFrom_b0 {out : wd_Mem} (self : wd_Mem → Int32 → Option (wd_Mem)) (μ : wd_Mem) (x1 : Int32) (a : Nat) (hself : ∀ (ν : wd_Mem) (y0 : Int32) (o : wd_Mem), self ν y0 = some o → o a = ν a) (ha : ¬ (a = 21 ∨ a = 26)) (h : X2_countFrom_b0 self μ x1 = some out) : out a = μ a := by
  unfold X2_countFrom_b0 at h
  by_cases c1 : x1 < (μ 3 1)
  · have h := (if_pos c1).symm.trans h
    obtain ⟨-, h⟩ := wd_chk_some h
    obtain ⟨-, h⟩ := wd_chk_some h
    exact (f_X2_countFrom_l43 self (fun μ => X2_countFrom_b126 self μ) x1 (μ 25 (Int32.toNatClampNeg x1)) a hself (fun μ h => f_X2_countFrom_b126 self μ a hself ha h) ha wd_big (0 : Int32) (if (0 : Int32) < (μ 22 (Int32.toNatClampNeg (μ 25 (Int32.toNatClampNeg x1)))) then (μ 22 (Int32.toNatClampNeg (μ 25 (Int32.toNatClampNeg x1)))) else (0 : Int32)) μ h).trans rfl
  · have h := (if_neg c1).symm.trans h
    have e9 := Option.some.inj h
    subst e9
    exact (wd_fr1 (by omega) rfl)
theorem fr_X2_countFrom_all (a : Nat) (ha : ¬ (a = 21 ∨ a = 26)) : ∀ (n : Nat) (μ : wd_Mem) (x1 : Int32) (out : wd_Mem), X2_countFrom n μ x1 = some out → out a = μ a := by
  intro n
  induction n with
  | zero => intro μ x1 out h; exact absurd h (by unfold X2_countFrom; simp)
  | succ n ih =>
    intro μ x1 out h
    exact f_X2_countFrom_b0 (X2_countFrom n) μ x1 a (fun ν x1 o e => ih ν x1 o e) ha h
theorem fr_X2_countFrom {out : wd_Mem} {μ : wd_Mem} {x1 : Int32} (n : Nat) (a : Nat) (ha : ¬ (a = 21 ∨ a = 26)) (h : X2_countFrom n μ x1 = some out) : out a = μ a := fr_X2_countFrom_all a ha n μ x1 out h
theorem f_X2_schedules_b26 {out : Int32 × wd_Mem} (h1 : Nat) (μ : wd_Mem) (a : Nat) (w1 : wd_isW h1) (ha : ¬ (a = 21 ∨ a = 22 ∨ a = 23 ∨ a = 24 ∨ a = 25 ∨ a = 26)) (h : X2_schedules_b26 h1 μ = some out) : out.2 a = μ a := by
  unfold X2_schedules_b26 at h
  have e9 := Option.some.inj h
  subst e9
  exact rfl
theorem f_X2_schedules_b0 {out : Int32 × wd_Mem} (h1 : Nat) (μ : wd_Mem) (a : Nat) (w1 : wd_isW h1) (ha : ¬ (a = 21 ∨ a = 22 ∨ a = 23 ∨ a = 24 ∨ a = 25 ∨ a = 26)) (h : X2_schedules_b0 h1 μ = some out) : out.2 a = μ a := by
  unfold X2_schedules_b0 at h
  obtain ⟨r1, er1, h⟩ := wd_bind_some h
  have fr1 : r1 a = μ a := (fr_X2_open a w1 (by omega) er1).trans rfl
  obtain ⟨r2, er2, h⟩ := wd_bind_some h
  have fr2 : r2.2 a = μ a := (fr_X2_isAny a  (by omega) er2).trans (wd_fr1 (by omega) fr1)
  by_cases c3 : r2.1 = 0
  · have h := (if_pos c3).symm.trans h
    exact (f_X2_schedules_b26 h1 r2.2 a w1 ha h).trans fr2
  · have h := (if_neg c3).symm.trans h
    obtain ⟨r4, er4, h⟩ := wd_bind_some h
    have fr4 : r4 a = μ a := (fr_X2_putInOrder a  (by omega) er4).trans fr2
    obtain ⟨r5, er5, h⟩ := wd_bind_some h
    have fr5 : r5 a = μ a := (fr_X2_countFrom 8 a  (by omega) er5).trans fr4
    exact (f_X2_schedules_b26 h1 r5 a w1 ha h).trans fr5
theorem fr_X2_schedules {out : Int32 × wd_Mem} {h1 : Nat} {μ : wd_Mem} (a : Nat) (w1 : wd_isW h1) (ha : ¬ (a = 21 ∨ a = 22 ∨ a = 23 ∨ a = 24 ∨ a = 25 ∨ a = 26)) (h : X2_schedules h1 μ = some out) : out.2 a = μ a := f_X2_schedules_b0 h1 μ  a w1 ha h
theorem f_X2_shortest_c15 {out : Int32 × wd_Mem} (rec : Int32 → wd_Mem → Option (Int32 × wd_Mem)) (k : wd_Mem → Option (Int32 × wd_Mem)) (h1 : Nat) (μ : wd_Mem) (x2 x3 : Int32) (a : Nat) (w1 : wd_isW h1) (hrec : ∀ (x3 : Int32) (ν : wd_Mem), rec x3 ν = some out → out.2 a = ν a) (hk : ∀  (ν : wd_Mem), k ν = some out → out.2 a = ν a) (ha : ¬ (a = 22 ∨ a = 23 ∨ a = 24 ∨ a = 26)) (h : X2_shortest_c15 rec k h1 μ x2 x3 = some out) : out.2 a = μ a := by
  unfold X2_shortest_c15 at h
  by_cases c3 : (μ 3 1) ≤ x3
  · have h := (if_pos c3).symm.trans h
    exact (hk _ h).trans rfl
  · have h := (if_neg c3).symm.trans h
    obtain ⟨-, h⟩ := wd_chk_some h
    exact (hrec _ _ h).trans (wd_fr1 (by omega) rfl)
theorem f_X2_shortest_l15 {out : Int32 × wd_Mem} (k : wd_Mem → Option (Int32 × wd_Mem)) (h1 : Nat) (x2 : Int32) (a : Nat) (w1 : wd_isW h1) (hk : ∀  (ν : wd_Mem), k ν = some out → out.2 a = ν a) (ha : ¬ (a = 22 ∨ a = 23 ∨ a = 24 ∨ a = 26)) : ∀ (n : Nat) (x3 : Int32) (μ : wd_Mem), X2_shortest_l15 k h1 x2 n x3 μ = some out → out.2 a = μ a := by
  intro n
  induction n with
  | zero => intro x3 μ h; exact absurd h (by unfold X2_shortest_l15; simp)
  | succ n ih =>
    intro x3 μ h
    exact f_X2_shortest_c15 (X2_shortest_l15 k h1 x2 n) k h1 μ x2 x3 a w1 (fun x3 μ h => ih x3 μ h) hk ha h
theorem f_X2_shortest_b48 {out : Int32 × wd_Mem} (rec : Int32 → wd_Mem → Option (Int32 × wd_Mem)) (k : wd_Mem → Option (Int32 × wd_Mem)) (h1 : Nat) (μ : wd_Mem) (x2 : Int32) (a : Nat) (w1 : wd_isW h1) (hrec : ∀ (x2 : Int32) (ν : wd_Mem), rec x2 ν = some out → out.2 a = ν a) (hk : ∀  (ν : wd_Mem), k ν = some out → out.2 a = ν a) (ha : ¬ (a = 22 ∨ a = 23 ∨ a = 24 ∨ a = 26)) (h : X2_shortest_b48 rec k h1 μ x2 = some out) : out.2 a = μ a := by
  unfold X2_shortest_b48 at h
  obtain ⟨r4, er4, h⟩ := wd_bind_some h
  have fr4 : r4.2 a = μ a := (fr_X2_isAny a  (by omega) er4).trans rfl
  by_cases c5 : r4.1 = 0
  · have h := (if_pos c5).symm.trans h
    exact (hrec _ _ h).trans fr4
  · have h := (if_neg c5).symm.trans h
    have e9 := Option.some.inj h
    subst e9
    exact fr4
theorem f_X2_shortest_c2 {out : Int32 × wd_Mem} (rec : Int32 → wd_Mem → Option (Int32 × wd_Mem)) (k : wd_Mem → Option (Int32 × wd_Mem)) (h1 : Nat) (μ : wd_Mem) (x2 : Int32) (a : Nat) (w1 : wd_isW h1) (hrec : ∀ (x2 : Int32) (ν : wd_Mem), rec x2 ν = some out → out.2 a = ν a) (hk : ∀  (ν : wd_Mem), k ν = some out → out.2 a = ν a) (ha : ¬ (a = 22 ∨ a = 23 ∨ a = 24 ∨ a = 26)) (h : X2_shortest_c2 rec k h1 μ x2 = some out) : out.2 a = μ a := by
  unfold X2_shortest_c2 at h
  by_cases c1 : (16 : Int32) < x2
  · have h := (if_pos c1).symm.trans h
    exact (hk _ h).trans rfl
  · have h := (if_neg c1).symm.trans h
    obtain ⟨r2, er2, h⟩ := wd_bind_some h
    have fr2 : r2 a = μ a := (fr_X2_open a w1 (by omega) er2).trans rfl
    exact (f_X2_shortest_l15 (fun μ => X2_shortest_b48 rec k h1 μ x2) h1 x2 a w1 (fun μ h => f_X2_shortest_b48 rec k h1 μ x2 a w1 hrec hk ha h) ha wd_big (0 : Int32) r2 h).trans fr2
theorem f_X2_shortest_l2 {out : Int32 × wd_Mem} (k : wd_Mem → Option (Int32 × wd_Mem)) (h1 : Nat) (a : Nat) (w1 : wd_isW h1) (hk : ∀  (ν : wd_Mem), k ν = some out → out.2 a = ν a) (ha : ¬ (a = 22 ∨ a = 23 ∨ a = 24 ∨ a = 26)) : ∀ (n : Nat) (x2 : Int32) (μ : wd_Mem), X2_shortest_l2 k h1 n x2 μ = some out → out.2 a = μ a := by
  intro n
  induction n with
  | zero => intro x2 μ h; exact absurd h (by unfold X2_shortest_l2; simp)
  | succ n ih =>
    intro x2 μ h
    exact f_X2_shortest_c2 (X2_shortest_l2 k h1 n) k h1 μ x2 a w1 (fun x2 μ h => ih x2 μ h) hk ha h
theorem f_X2_shortest_b63 {out : Int32 × wd_Mem} (h1 : Nat) (μ : wd_Mem) (a : Nat) (w1 : wd_isW h1) (ha : ¬ (a = 22 ∨ a = 23 ∨ a = 24 ∨ a = 26)) (h : X2_shortest_b63 h1 μ = some out) : out.2 a = μ a := by
  unfold X2_shortest_b63 at h
  have e9 := Option.some.inj h
  subst e9
  exact rfl
theorem f_X2_shortest_b0 {out : Int32 × wd_Mem} (h1 : Nat) (μ : wd_Mem) (a : Nat) (w1 : wd_isW h1) (ha : ¬ (a = 22 ∨ a = 23 ∨ a = 24 ∨ a = 26)) (h : X2_shortest_b0 h1 μ = some out) : out.2 a = μ a := by
  unfold X2_shortest_b0 at h
  exact (f_X2_shortest_l2 (fun μ => X2_shortest_b63 h1 μ) h1 a w1 (fun μ h => f_X2_shortest_b63 h1 μ a w1 ha h) ha wd_big (0 : Int32) μ h).trans rfl
theorem fr_X2_shortest {out : Int32 × wd_Mem} {h1 : Nat} {μ : wd_Mem} (a : Nat) (w1 : wd_isW h1) (ha : ¬ (a = 22 ∨ a = 23 ∨ a = 24 ∨ a = 26)) (h : X2_shortest h1 μ = some out) : out.2 a = μ a := f_X2_shortest_b0 h1 μ  a w1 ha h
theorem f_X7_count_b0 {out : Int32 × wd_Mem} (μ : wd_Mem) (x1 : Int32) (a : Nat)  (ha : ¬ (a = 10 ∨ a = 11 ∨ a = 12 ∨ a = 13 ∨ a = 14 ∨ a = 15 ∨ a = 16 ∨ a = 17 ∨ a = 21 ∨ a = 22 ∨ a = 23 ∨ a = 24 ∨ a = 25 ∨ a = 26)) (h : X7_count_b0 μ x1 = some out) : out.2 a = μ a := by
  unfold X7_count_b0 at h
  by_cases n1_0 : x1 = nI 0
  · have h := (if_pos n1_0).symm.trans h
    have e9 := Option.some.inj h
    subst e9
    exact rfl
  · have h := (if_neg n1_0).symm.trans h
    by_cases n1_1 : x1 = nI 1
    · have h := (if_pos n1_1).symm.trans h
      have e9 := Option.some.inj h
      subst e9
      exact rfl
    · have h := (if_neg n1_1).symm.trans h
      by_cases n1_2 : x1 = nI 2
      · have h := (if_pos n1_2).symm.trans h
        obtain ⟨r1, er1, h⟩ := wd_bind_some h
        by_cases c2 : r1 = 0
        · have h := (if_pos c2).symm.trans h
          have e9 := Option.some.inj h
          subst e9
          exact rfl
        · have h := (if_neg c2).symm.trans h
          have e9 := Option.some.inj h
          subst e9
          exact rfl
      · have h := (if_neg n1_2).symm.trans h
        by_cases n1_3 : x1 = nI 3
        · have h := (if_pos n1_3).symm.trans h
          obtain ⟨r3, er3, h⟩ := wd_bind_some h
          have fr3 : r3.2 a = μ a := (fr_X2_schedules a sh_48 (by omega) er3).trans rfl
          have e9 := Option.some.inj h
          subst e9
          exact fr3
        · have h := (if_neg n1_3).symm.trans h
          by_cases n1_4 : x1 = nI 4
          · have h := (if_pos n1_4).symm.trans h
            obtain ⟨r4, er4, h⟩ := wd_bind_some h
            have fr4 : r4.2 a = μ a := (fr_X2_shortest a sh_48 (by omega) er4).trans rfl
            have e9 := Option.some.inj h
            subst e9
            exact fr4
          · have h := (if_neg n1_4).symm.trans h
            by_cases n1_5 : x1 = nI 5
            · have h := (if_pos n1_5).symm.trans h
              obtain ⟨r5, er5, h⟩ := wd_bind_some h
              have fr5 : r5 a = μ a := (fr_X3_look a sh_48 (by omega) er5).trans rfl
              obtain ⟨r6, er6, h⟩ := wd_bind_some h
              have e9 := Option.some.inj h
              subst e9
              exact fr5
            · have h := (if_neg n1_5).symm.trans h
              by_cases n1_6 : x1 = nI 6
              · have h := (if_pos n1_6).symm.trans h
                obtain ⟨r7, er7, h⟩ := wd_bind_some h
                have e9 := Option.some.inj h
                subst e9
                exact rfl
              · have h := (if_neg n1_6).symm.trans h
                by_cases n1_7 : x1 = nI 7
                · have h := (if_pos n1_7).symm.trans h
                  have e9 := Option.some.inj h
                  subst e9
                  exact rfl
                · have h := (if_neg n1_7).symm.trans h
                  by_cases n1_8 : x1 = nI 8
                  · have h := (if_pos n1_8).symm.trans h
                    have e9 := Option.some.inj h
                    subst e9
                    exact rfl
                  · have h := (if_neg n1_8).symm.trans h
                    have e9 := Option.some.inj h
                    subst e9
                    exact rfl
theorem fr_X7_count {out : Int32 × wd_Mem} {μ : wd_Mem} {x1 : Int32} (a : Nat)  (ha : ¬ (a = 10 ∨ a = 11 ∨ a = 12 ∨ a = 13 ∨ a = 14 ∨ a = 15 ∨ a = 16 ∨ a = 17 ∨ a = 21 ∨ a = 22 ∨ a = 23 ∨ a = 24 ∨ a = 25 ∨ a = 26)) (h : X7_count μ x1 = some out) : out.2 a = μ a := f_X7_count_b0 μ x1 a  ha h
theorem f_X8_type_b0 {out : Int32 × wd_Mem} (μ : wd_Mem) (x1 : Int32) (a : Nat)  (ha : ¬ (a = 31 ∨ a = 38)) (h : X8_type_b0 μ x1 = some out) : out.2 a = μ a := by
  unfold X8_type_b0 at h
  by_cases c1 : (X8_in μ x1 (0 : Int32) (255 : Int32)) = 0
  · have h := (if_pos c1).symm.trans h
    have e9 := Option.some.inj h
    subst e9
    exact rfl
  · have h := (if_neg c1).symm.trans h
    by_cases c2 : (μ 31 10) = (100 : Int32)
    · have h := (if_pos c2).symm.trans h
      have e9 := Option.some.inj h
      subst e9
      exact rfl
    · have h := (if_neg c2).symm.trans h
      obtain ⟨-, h⟩ := wd_chk_some h
      have e9 := Option.some.inj h
      subst e9
      exact (wd_fr1 (by omega) (wd_fr1 (by omega) rfl))
theorem fr_X8_type {out : Int32 × wd_Mem} {μ : wd_Mem} {x1 : Int32} (a : Nat)  (ha : ¬ (a = 31 ∨ a = 38)) (h : X8_type μ x1 = some out) : out.2 a = μ a := f_X8_type_b0 μ x1 a  ha h
theorem f_X8_clear_b0 {out : Int32 × wd_Mem} (μ : wd_Mem) (a : Nat)  (ha : ¬ (a = 31)) (h : X8_clear_b0 μ = some out) : out.2 a = μ a := by
  unfold X8_clear_b0 at h
  have e9 := Option.some.inj h
  subst e9
  exact (wd_fr1 (by omega) rfl)
theorem fr_X8_clear {out : Int32 × wd_Mem} {μ : wd_Mem} (a : Nat)  (ha : ¬ (a = 31)) (h : X8_clear μ = some out) : out.2 a = μ a := f_X8_clear_b0 μ  a  ha h
theorem f_X8_blanks_c0 {out : wd_Mem} (rec : wd_Mem → Option (wd_Mem)) (k : wd_Mem → Option (wd_Mem)) (μ : wd_Mem) (a : Nat) (hrec : ∀  (ν : wd_Mem), rec ν = some out → out a = ν a) (hk : ∀  (ν : wd_Mem), k ν = some out → out a = ν a) (ha : ¬ (a = 31)) (h : X8_blanks_c0 rec k μ = some out) : out a = μ a := by
  unfold X8_blanks_c0 at h
  by_cases c1 : (μ 31 10) ≤ (μ 31 12)
  · have h := (if_pos c1).symm.trans h
    exact (hk _ h).trans rfl
  · have h := (if_neg c1).symm.trans h
    obtain ⟨-, h⟩ := wd_chk_some h
    by_cases c2 : (μ 38 (Int32.toNatClampNeg (μ 31 12))) = (32 : Int32)
    · have h := (if_pos c2).symm.trans h
      exact (hrec _ h).trans (wd_fr1 (by omega) rfl)
    · have h := (if_neg c2).symm.trans h
      exact (hk _ h).trans rfl
theorem f_X8_blanks_l0 {out : wd_Mem} (k : wd_Mem → Option (wd_Mem)) (a : Nat) (hk : ∀  (ν : wd_Mem), k ν = some out → out a = ν a) (ha : ¬ (a = 31)) : ∀ (n : Nat)  (μ : wd_Mem), X8_blanks_l0 k n μ = some out → out a = μ a := by
  intro n
  induction n with
  | zero => intro μ h; exact absurd h (by unfold X8_blanks_l0; simp)
  | succ n ih =>
    intro μ h
    exact f_X8_blanks_c0 (X8_blanks_l0 k n) k μ a  (fun μ h => ih μ h) hk ha h
theorem f_X8_blanks_b38 {out : wd_Mem} (μ : wd_Mem) (a : Nat)  (ha : ¬ (a = 31)) (h : X8_blanks_b38 μ = some out) : out a = μ a := by
  unfold X8_blanks_b38 at h
  have e9 := Option.some.inj h
  subst e9
  exact rfl
theorem f_X8_blanks_b0 {out : wd_Mem} (μ : wd_Mem) (a : Nat)  (ha : ¬ (a = 31)) (h : X8_blanks_b0 μ = some out) : out a = μ a := by
  unfold X8_blanks_b0 at h
  exact (f_X8_blanks_l0 (fun μ => X8_blanks_b38 μ) a  (fun μ h => f_X8_blanks_b38 μ a  ha h) ha wd_big μ h).trans rfl
theorem fr_X8_blanks {out : wd_Mem} {μ : wd_Mem} (a : Nat)  (ha : ¬ (a = 31)) (h : X8_blanks μ = some out) : out a = μ a := f_X8_blanks_b0 μ  a  ha h
theorem f_X8_next_b187 {out : wd_Mem} (μ : wd_Mem) (s1 : Int32) (a : Nat)  (ha : ¬ (a = 31)) (h : X8_next_b187 μ s1 = some out) : out a = μ a := by
  unfold X8_next_b187 at h
  have e9 := Option.some.inj h
  subst e9
  exact (wd_fr1 (by omega) (wd_fr1 (by omega) rfl))
theorem f_X8_next_b181 {out : wd_Mem} (μ : wd_Mem) (x1 : Int32) (a : Nat)  (ha : ¬ (a = 31)) (h : X8_next_b181 μ x1 = some out) : out a = μ a := by
  unfold X8_next_b181 at h
  exact (f_X8_next_b187 μ x1 a  ha h).trans rfl
theorem f_X8_next_b87 {out : wd_Mem} (rec : wd_Mem → Option (wd_Mem)) (k : wd_Mem → Option (wd_Mem)) (μ : wd_Mem) (s1 : Int32) (a : Nat) (hrec : ∀  (ν : wd_Mem), rec ν = some out → out a = ν a) (hk : ∀  (ν : wd_Mem), k ν = some out → out a = ν a) (ha : ¬ (a = 31)) (h : X8_next_b87 rec k μ s1 = some out) : out a = μ a := by
  unfold X8_next_b87 at h
  exact (hrec _ h).trans (wd_fr1 (by omega) (wd_fr1 (by omega) rfl))
theorem f_X8_next_c43 {out : wd_Mem} (rec : wd_Mem → Option (wd_Mem)) (k : wd_Mem → Option (wd_Mem)) (μ : wd_Mem) (a : Nat) (hrec : ∀  (ν : wd_Mem), rec ν = some out → out a = ν a) (hk : ∀  (ν : wd_Mem), k ν = some out → out a = ν a) (ha : ¬ (a = 31)) (h : X8_next_c43 rec k μ = some out) : out a = μ a := by
  unfold X8_next_c43 at h
  obtain ⟨r8, er8, h⟩ := wd_bind_some h
  by_cases c9 : r8 = 0
  · have h := (if_pos c9).symm.trans h
    exact (hk _ h).trans rfl
  · have h := (if_neg c9).symm.trans h
    by_cases c10 : (μ 31 15) ≤ (99 : Int32)
    · have h := (if_pos c10).symm.trans h
      obtain ⟨-, h⟩ := wd_chk_some h
      exact (f_X8_next_b87 rec k μ ((((10 : Int32) * (μ 31 15)) + (μ 38 (Int32.toNatClampNeg (μ 31 12)))) - (48 : Int32)) a hrec hk ha h).trans rfl
    · have h := (if_neg c10).symm.trans h
      exact (f_X8_next_b87 rec k μ (μ 31 15) a hrec hk ha h).trans rfl
theorem f_X8_next_l43 {out : wd_Mem} (k : wd_Mem → Option (wd_Mem)) (a : Nat) (hk : ∀  (ν : wd_Mem), k ν = some out → out a = ν a) (ha : ¬ (a = 31)) : ∀ (n : Nat)  (μ : wd_Mem), X8_next_l43 k n μ = some out → out a = μ a := by
  intro n
  induction n with
  | zero => intro μ h; exact absurd h (by unfold X8_next_l43; simp)
  | succ n ih =>
    intro μ h
    exact f_X8_next_c43 (X8_next_l43 k n) k μ a  (fun μ h => ih μ h) hk ha h
theorem f_X8_next_b146 {out : wd_Mem} (μ : wd_Mem) (s1 : Int32) (a : Nat)  (ha : ¬ (a = 31)) (h : X8_next_b146 μ s1 = some out) : out a = μ a := by
  unfold X8_next_b146 at h
  have e9 := Option.some.inj h
  subst e9
  exact (wd_fr1 (by omega) rfl)
theorem f_X8_next_b140 {out : wd_Mem} (μ : wd_Mem) (a : Nat)  (ha : ¬ (a = 31)) (h : X8_next_b140 μ = some out) : out a = μ a := by
  unfold X8_next_b140 at h
  exact (f_X8_next_b146 μ (-2 : Int32) a  ha h).trans rfl
theorem f_X8_next_b145 {out : wd_Mem} (μ : wd_Mem) (a : Nat)  (ha : ¬ (a = 31)) (h : X8_next_b145 μ = some out) : out a = μ a := by
  unfold X8_next_b145 at h
  exact (f_X8_next_b146 μ (0 : Int32) a  ha h).trans rfl
theorem f_X8_next_b103 {out : wd_Mem} (μ : wd_Mem) (a : Nat)  (ha : ¬ (a = 31)) (h : X8_next_b103 μ = some out) : out a = μ a := by
  unfold X8_next_b103 at h
  by_cases c11 : (99 : Int32) < (μ 31 15)
  · have h := (if_pos c11).symm.trans h
    exact (f_X8_next_b140 μ a  ha h).trans rfl
  · have h := (if_neg c11).symm.trans h
    obtain ⟨-, h⟩ := wd_chk_some h
    by_cases c12 : (μ 38 (Int32.toNatClampNeg (μ 31 13))) = (48 : Int32)
    · have h := (if_pos c12).symm.trans h
      by_cases c13 : ((μ 31 12) - (μ 31 13)) ≤ (1 : Int32)
      · have h := (if_pos c13).symm.trans h
        exact (f_X8_next_b145 μ a  ha h).trans rfl
      · have h := (if_neg c13).symm.trans h
        exact (f_X8_next_b140 μ a  ha h).trans rfl
    · have h := (if_neg c12).symm.trans h
      exact (f_X8_next_b145 μ a  ha h).trans rfl
theorem f_X8_next_b0 {out : wd_Mem} (μ : wd_Mem) (a : Nat)  (ha : ¬ (a = 31)) (h : X8_next_b0 μ = some out) : out a = μ a := by
  unfold X8_next_b0 at h
  obtain ⟨r1, er1, h⟩ := wd_bind_some h
  have fr1 : r1 a = μ a := (fr_X8_blanks a  (by omega) er1).trans rfl
  by_cases c2 : (r1 31 12) = (r1 31 10)
  · have h := (if_pos c2).symm.trans h
    have e9 := Option.some.inj h
    subst e9
    exact (wd_fr1 (by omega) (wd_fr1 (by omega) fr1))
  · have h := (if_neg c2).symm.trans h
    obtain ⟨r3, er3, h⟩ := wd_bind_some h
    by_cases c4 : r3 = 0
    · have h := (if_pos c4).symm.trans h
      obtain ⟨-, h⟩ := wd_chk_some h
      by_cases c5 : (r1 38 (Int32.toNatClampNeg (r1 31 12))) = (99 : Int32)
      · have h := (if_pos c5).symm.trans h
        exact (f_X8_next_b181 (mset r1 31 13 (r1 31 12)) (r1 38 (Int32.toNatClampNeg (r1 31 12))) a  ha h).trans (wd_fr1 (by omega) fr1)
      · have h := (if_neg c5).symm.trans h
        by_cases c6 : (r1 38 (Int32.toNatClampNeg (r1 31 12))) = (116 : Int32)
        · have h := (if_pos c6).symm.trans h
          exact (f_X8_next_b181 (mset r1 31 13 (r1 31 12)) (r1 38 (Int32.toNatClampNeg (r1 31 12))) a  ha h).trans (wd_fr1 (by omega) fr1)
        · have h := (if_neg c6).symm.trans h
          by_cases c7 : (r1 38 (Int32.toNatClampNeg (r1 31 12))) = (59 : Int32)
          · have h := (if_pos c7).symm.trans h
            exact (f_X8_next_b181 (mset r1 31 13 (r1 31 12)) (r1 38 (Int32.toNatClampNeg (r1 31 12))) a  ha h).trans (wd_fr1 (by omega) fr1)
          · have h := (if_neg c7).symm.trans h
            exact (f_X8_next_b187 (mset r1 31 13 (r1 31 12)) (-2 : Int32) a  ha h).trans (wd_fr1 (by omega) fr1)
    · have h := (if_neg c4).symm.trans h
      exact (f_X8_next_l43 (fun μ => X8_next_b103 μ) a  (fun μ h => f_X8_next_b103 μ a  ha h) ha wd_big (mset (mset r1 31 13 (r1 31 12)) 31 15 (0 : Int32)) h).trans (wd_fr1 (by omega) (wd_fr1 (by omega) fr1))
theorem fr_X8_next {out : wd_Mem} {μ : wd_Mem} (a : Nat)  (ha : ¬ (a = 31)) (h : X8_next μ = some out) : out a = μ a := f_X8_next_b0 μ  a  ha h
theorem f_X8_fails_b0 {out : Int32 × wd_Mem} (μ : wd_Mem) (a : Nat)  (ha : ¬ (a = 31)) (h : X8_fails_b0 μ = some out) : out.2 a = μ a := by
  unfold X8_fails_b0 at h
  have e9 := Option.some.inj h
  subst e9
  exact (wd_fr1 (by omega) rfl)
theorem fr_X8_fails {out : Int32 × wd_Mem} {μ : wd_Mem} (a : Nat)  (ha : ¬ (a = 31)) (h : X8_fails μ = some out) : out.2 a = μ a := f_X8_fails_b0 μ  a  ha h
theorem f_X8_number_b30 {out : Int32 × wd_Mem} (μ : wd_Mem) (a : Nat)  (ha : ¬ (a = 31)) (h : X8_number_b30 μ = some out) : out.2 a = μ a := by
  unfold X8_number_b30 at h
  have e9 := Option.some.inj h
  subst e9
  exact rfl
theorem f_X8_number_b23 {out : Int32 × wd_Mem} (μ : wd_Mem) (a : Nat)  (ha : ¬ (a = 31)) (h : X8_number_b23 μ = some out) : out.2 a = μ a := by
  unfold X8_number_b23 at h
  obtain ⟨r3, er3, h⟩ := wd_bind_some h
  have fr3 : r3.2 a = μ a := (fr_X8_fails a  (by omega) er3).trans rfl
  by_cases c4 : r3.1 = 0
  · have h := (if_pos c4).symm.trans h
    have e9 := Option.some.inj h
    subst e9
    exact fr3
  · have h := (if_neg c4).symm.trans h
    exact (f_X8_number_b30 r3.2 a  ha h).trans fr3
theorem f_X8_number_b0 {out : Int32 × wd_Mem} (μ : wd_Mem) (x1 x2 : Int32) (a : Nat)  (ha : ¬ (a = 31)) (h : X8_number_b0 μ x1 x2 = some out) : out.2 a = μ a := by
  unfold X8_number_b0 at h
  obtain ⟨r1, er1, h⟩ := wd_bind_some h
  have fr1 : r1 a = μ a := (fr_X8_next a  (by omega) er1).trans rfl
  by_cases c2 : (r1 31 14) = 0
  · have h := (if_pos c2).symm.trans h
    by_cases c5 : (X8_in r1 (r1 31 15) x1 x2) = 0
    · have h := (if_pos c5).symm.trans h
      exact (f_X8_number_b23 r1 a  ha h).trans fr1
    · have h := (if_neg c5).symm.trans h
      exact (f_X8_number_b30 r1 a  ha h).trans fr1
  · have h := (if_neg c2).symm.trans h
    exact (f_X8_number_b23 r1 a  ha h).trans fr1
theorem fr_X8_number {out : Int32 × wd_Mem} {μ : wd_Mem} {x1 x2 : Int32} (a : Nat)  (ha : ¬ (a = 31)) (h : X8_number μ x1 x2 = some out) : out.2 a = μ a := f_X8_number_b0 μ x1 x2 a  ha h
theorem f_X8_ends_b20 {out : Int32 × wd_Mem} (μ : wd_Mem) (a : Nat)  (ha : ¬ (a = 31)) (h : X8_ends_b20 μ = some out) : out.2 a = μ a := by
  unfold X8_ends_b20 at h
  have e9 := Option.some.inj h
  subst e9
  exact rfl
theorem f_X8_ends_b0 {out : Int32 × wd_Mem} (μ : wd_Mem) (a : Nat)  (ha : ¬ (a = 31)) (h : X8_ends_b0 μ = some out) : out.2 a = μ a := by
  unfold X8_ends_b0 at h
  obtain ⟨r1, er1, h⟩ := wd_bind_some h
  have fr1 : r1 a = μ a := (fr_X8_next a  (by omega) er1).trans rfl
  by_cases c2 : (r1 31 14) = (59 : Int32)
  · have h := (if_pos c2).symm.trans h
    exact (f_X8_ends_b20 r1 a  ha h).trans fr1
  · have h := (if_neg c2).symm.trans h
    obtain ⟨r3, er3, h⟩ := wd_bind_some h
    have fr3 : r3.2 a = μ a := (fr_X8_fails a  (by omega) er3).trans fr1
    by_cases c4 : r3.1 = 0
    · have h := (if_pos c4).symm.trans h
      have e9 := Option.some.inj h
      subst e9
      exact fr3
    · have h := (if_neg c4).symm.trans h
      exact (f_X8_ends_b20 r3.2 a  ha h).trans fr3
theorem fr_X8_ends {out : Int32 × wd_Mem} {μ : wd_Mem} (a : Nat)  (ha : ¬ (a = 31)) (h : X8_ends μ = some out) : out.2 a = μ a := f_X8_ends_b0 μ  a  ha h
theorem f_X8_readsTask_b143 {out : Int32 × wd_Mem} (μ : wd_Mem) (x1 s1 s2 : Int32) (a : Nat)  (ha : ¬ (a = 31 ∨ a = 39)) (h : X8_readsTask_b143 μ x1 s1 s2 = some out) : out.2 a = μ a := by
  unfold X8_readsTask_b143 at h
  obtain ⟨r10, er10, h⟩ := wd_bind_some h
  have fr10 : r10.2 a = μ a := (fr_X8_number a  (by omega) er10).trans rfl
  by_cases c11 : r10.1 = 0
  · have h := (if_pos c11).symm.trans h
    have e9 := Option.some.inj h
    subst e9
    exact fr10
  · have h := (if_neg c11).symm.trans h
    obtain ⟨-, h⟩ := wd_chk_some h
    obtain ⟨r12, er12, h⟩ := wd_bind_some h
    have fr12 : r12.2 a = μ a := (fr_X8_ends a  (by omega) er12).trans (wd_fr1 (by omega) (wd_fr1 (by omega) fr10))
    obtain ⟨-, h⟩ := wd_chk_some h
    have e9 := Option.some.inj h
    subst e9
    exact fr12
theorem f_X8_readsTask_b103 {out : Int32 × wd_Mem} (μ : wd_Mem) (x1 s1 s2 : Int32) (a : Nat)  (ha : ¬ (a = 31 ∨ a = 39)) (h : X8_readsTask_b103 μ x1 s1 s2 = some out) : out.2 a = μ a := by
  unfold X8_readsTask_b103 at h
  obtain ⟨r7, er7, h⟩ := wd_bind_some h
  have fr7 : r7.2 a = μ a := (fr_X8_number a  (by omega) er7).trans rfl
  by_cases c8 : r7.1 = 0
  · have h := (if_pos c8).symm.trans h
    have e9 := Option.some.inj h
    subst e9
    exact fr7
  · have h := (if_neg c8).symm.trans h
    obtain ⟨-, h⟩ := wd_chk_some h
    by_cases c9 : (9 : Int32) ≤ (r7.2 31 18)
    · have h := (if_pos c9).symm.trans h
      exact (f_X8_readsTask_b143 (mset r7.2 39 (Int32.toNatClampNeg (x1 + (2 : Int32))) (r7.2 31 15)) x1 (1 : Int32) (9 : Int32) a  ha h).trans (wd_fr1 (by omega) fr7)
    · have h := (if_neg c9).symm.trans h
      exact (f_X8_readsTask_b143 (mset r7.2 39 (Int32.toNatClampNeg (x1 + (2 : Int32))) (r7.2 31 15)) x1 (1 : Int32) (r7.2 31 18) a  ha h).trans (wd_fr1 (by omega) fr7)
theorem f_X8_readsTask_b0 {out : Int32 × wd_Mem} (μ : wd_Mem) (a : Nat)  (ha : ¬ (a = 31 ∨ a = 39)) (h : X8_readsTask_b0 μ = some out) : out.2 a = μ a := by
  unfold X8_readsTask_b0 at h
  by_cases c1 : (μ 31 17) = (5 : Int32)
  · have h := (if_pos c1).symm.trans h
    obtain ⟨r13, er13, h⟩ := wd_bind_some h
    have fr13 : r13.2 a = μ a := (fr_X8_fails a  (by omega) er13).trans rfl
    obtain ⟨-, h⟩ := wd_chk_some h
    have e9 := Option.some.inj h
    subst e9
    exact fr13
  · have h := (if_neg c1).symm.trans h
    obtain ⟨r2, er2, h⟩ := wd_bind_some h
    have fr2 : r2.2 a = μ a := (fr_X8_number a  (by omega) er2).trans rfl
    by_cases c3 : r2.1 = 0
    · have h := (if_pos c3).symm.trans h
      have e9 := Option.some.inj h
      subst e9
      exact fr2
    · have h := (if_neg c3).symm.trans h
      obtain ⟨-, h⟩ := wd_chk_some h
      obtain ⟨r4, er4, h⟩ := wd_bind_some h
      have fr4 : r4.2 a = μ a := (fr_X8_number a  (by omega) er4).trans (wd_fr1 (by omega) fr2)
      by_cases c5 : r4.1 = 0
      · have h := (if_pos c5).symm.trans h
        have e9 := Option.some.inj h
        subst e9
        exact fr4
      · have h := (if_neg c5).symm.trans h
        obtain ⟨-, h⟩ := wd_chk_some h
        by_cases c6 : (9 : Int32) ≤ (((mset r4.2 39 (Int32.toNatClampNeg (((4 : Int32) * (μ 31 17)) + (1 : Int32))) (r4.2 31 15)) 39 (Int32.toNatClampNeg (((4 : Int32) * (μ 31 17)) + (1 : Int32)))) - ((mset r4.2 39 (Int32.toNatClampNeg (((4 : Int32) * (μ 31 17)) + (1 : Int32))) (r4.2 31 15)) 39 (Int32.toNatClampNeg ((4 : Int32) * (μ 31 17)))))
        · have h := (if_pos c6).symm.trans h
          exact (f_X8_readsTask_b103 (mset r4.2 39 (Int32.toNatClampNeg (((4 : Int32) * (μ 31 17)) + (1 : Int32))) (r4.2 31 15)) ((4 : Int32) * (μ 31 17)) (1 : Int32) (9 : Int32) a  ha h).trans (wd_fr1 (by omega) fr4)
        · have h := (if_neg c6).symm.trans h
          exact (f_X8_readsTask_b103 (mset r4.2 39 (Int32.toNatClampNeg (((4 : Int32) * (μ 31 17)) + (1 : Int32))) (r4.2 31 15)) ((4 : Int32) * (μ 31 17)) (1 : Int32) (((mset r4.2 39 (Int32.toNatClampNeg (((4 : Int32) * (μ 31 17)) + (1 : Int32))) (r4.2 31 15)) 39 (Int32.toNatClampNeg (((4 : Int32) * (μ 31 17)) + (1 : Int32)))) - ((mset r4.2 39 (Int32.toNatClampNeg (((4 : Int32) * (μ 31 17)) + (1 : Int32))) (r4.2 31 15)) 39 (Int32.toNatClampNeg ((4 : Int32) * (μ 31 17))))) a  ha h).trans (wd_fr1 (by omega) fr4)
theorem fr_X8_readsTask {out : Int32 × wd_Mem} {μ : wd_Mem} (a : Nat)  (ha : ¬ (a = 31 ∨ a = 39)) (h : X8_readsTask μ = some out) : out.2 a = μ a := f_X8_readsTask_b0 μ  a  ha h
theorem f_X8_readsItem_b31 {out : Int32 × wd_Mem} (μ : wd_Mem) (a : Nat)  (ha : ¬ (a = 31 ∨ a = 39)) (h : X8_readsItem_b31 μ = some out) : out.2 a = μ a := by
  unfold X8_readsItem_b31 at h
  obtain ⟨r4, er4, h⟩ := wd_bind_some h
  have fr4 : r4.2 a = μ a := (fr_X8_fails a  (by omega) er4).trans rfl
  obtain ⟨-, h⟩ := wd_chk_some h
  have e9 := Option.some.inj h
  subst e9
  exact fr4
theorem f_X8_readsItem_b0 {out : Int32 × wd_Mem} (μ : wd_Mem) (x1 : Int32) (a : Nat)  (ha : ¬ (a = 31 ∨ a = 39)) (h : X8_readsItem_b0 μ x1 = some out) : out.2 a = μ a := by
  unfold X8_readsItem_b0 at h
  obtain ⟨r1, er1, h⟩ := wd_bind_some h
  have fr1 : r1 a = μ a := (fr_X8_next a  (by omega) er1).trans rfl
  by_cases c2 : (r1 31 14) = (116 : Int32)
  · have h := (if_pos c2).symm.trans h
    obtain ⟨r9, er9, h⟩ := wd_bind_some h
    have fr9 : r9.2 a = μ a := (fr_X8_readsTask a  (by omega) er9).trans fr1
    obtain ⟨-, h⟩ := wd_chk_some h
    have e9 := Option.some.inj h
    subst e9
    exact fr9
  · have h := (if_neg c2).symm.trans h
    by_cases c3 : (r1 31 14) = (99 : Int32)
    · have h := (if_pos c3).symm.trans h
      by_cases c5 : x1 = 0
      · have h := (if_pos c5).symm.trans h
        exact (f_X8_readsItem_b31 r1 a  ha h).trans fr1
      · have h := (if_neg c5).symm.trans h
        obtain ⟨r6, er6, h⟩ := wd_bind_some h
        have fr6 : r6.2 a = μ a := (fr_X8_number a  (by omega) er6).trans fr1
        by_cases c7 : r6.1 = 0
        · have h := (if_pos c7).symm.trans h
          have e9 := Option.some.inj h
          subst e9
          exact fr6
        · have h := (if_neg c7).symm.trans h
          obtain ⟨r8, er8, h⟩ := wd_bind_some h
          have fr8 : r8.2 a = μ a := (fr_X8_ends a  (by omega) er8).trans (wd_fr1 (by omega) fr6)
          obtain ⟨-, h⟩ := wd_chk_some h
          have e9 := Option.some.inj h
          subst e9
          exact fr8
    · have h := (if_neg c3).symm.trans h
      exact (f_X8_readsItem_b31 r1 a  ha h).trans fr1
theorem fr_X8_readsItem {out : Int32 × wd_Mem} {μ : wd_Mem} {x1 : Int32} (a : Nat)  (ha : ¬ (a = 31 ∨ a = 39)) (h : X8_readsItem μ x1 = some out) : out.2 a = μ a := f_X8_readsItem_b0 μ x1 a  ha h
theorem f_X8_desk_b42 {out : Int32 × wd_Mem} (rec : Int32 → wd_Mem → Option (Int32 × wd_Mem)) (k : Int32 → wd_Mem → Option (Int32 × wd_Mem)) (μ : wd_Mem) (x1 s1 : Int32) (a : Nat) (hrec : ∀ (x1 : Int32) (ν : wd_Mem), rec x1 ν = some out → out.2 a = ν a) (hk : ∀ (x1 : Int32) (ν : wd_Mem), k x1 ν = some out → out.2 a = ν a) (ha : ¬ (a = 31 ∨ a = 32 ∨ a = 33 ∨ a = 34 ∨ a = 36 ∨ a = 39)) (h : X8_desk_b42 rec k μ x1 s1 = some out) : out.2 a = μ a := by
  unfold X8_desk_b42 at h
  obtain ⟨r4, er4, h⟩ := wd_bind_some h
  have fr4 : r4.2 a = μ a := (fr_X8_readsItem a  (by omega) er4).trans rfl
  by_cases c5 : r4.1 = 0
  · have h := (if_pos c5).symm.trans h
    have e9 := Option.some.inj h
    subst e9
    exact fr4
  · have h := (if_neg c5).symm.trans h
    obtain ⟨r6, er6, h⟩ := wd_bind_some h
    have fr6 : r6 a = μ a := (fr_X8_blanks a  (by omega) er6).trans fr4
    exact (hrec _ _ h).trans fr6
theorem f_X8_desk_c21 {out : Int32 × wd_Mem} (rec : Int32 → wd_Mem → Option (Int32 × wd_Mem)) (k : Int32 → wd_Mem → Option (Int32 × wd_Mem)) (μ : wd_Mem) (x1 : Int32) (a : Nat) (hrec : ∀ (x1 : Int32) (ν : wd_Mem), rec x1 ν = some out → out.2 a = ν a) (hk : ∀ (x1 : Int32) (ν : wd_Mem), k x1 ν = some out → out.2 a = ν a) (ha : ¬ (a = 31 ∨ a = 32 ∨ a = 33 ∨ a = 34 ∨ a = 36 ∨ a = 39)) (h : X8_desk_c21 rec k μ x1 = some out) : out.2 a = μ a := by
  unfold X8_desk_c21 at h
  by_cases c2 : (μ 31 10) ≤ (μ 31 12)
  · have h := (if_pos c2).symm.trans h
    exact (hk _ _ h).trans rfl
  · have h := (if_neg c2).symm.trans h
    by_cases c3 : x1 = 0
    · have h := (if_pos c3).symm.trans h
      exact (f_X8_desk_b42 rec k μ x1 (1 : Int32) a hrec hk ha h).trans rfl
    · have h := (if_neg c3).symm.trans h
      exact (f_X8_desk_b42 rec k μ x1 (0 : Int32) a hrec hk ha h).trans rfl
theorem f_X8_desk_l21 {out : Int32 × wd_Mem} (k : Int32 → wd_Mem → Option (Int32 × wd_Mem)) (a : Nat) (hk : ∀ (x1 : Int32) (ν : wd_Mem), k x1 ν = some out → out.2 a = ν a) (ha : ¬ (a = 31 ∨ a = 32 ∨ a = 33 ∨ a = 34 ∨ a = 36 ∨ a = 39)) : ∀ (n : Nat) (x1 : Int32) (μ : wd_Mem), X8_desk_l21 k n x1 μ = some out → out.2 a = μ a := by
  intro n
  induction n with
  | zero => intro x1 μ h; exact absurd h (by unfold X8_desk_l21; simp)
  | succ n ih =>
    intro x1 μ h
    exact f_X8_desk_c21 (X8_desk_l21 k n) k μ x1 a  (fun x1 μ h => ih x1 μ h) hk ha h
theorem f_X8_desk_b207 {out : Int32 × wd_Mem} (rec : Int32 → wd_Mem → Option (Int32 × wd_Mem)) (k : wd_Mem → Option (Int32 × wd_Mem)) (μ : wd_Mem) (x1 x2 s1 s2 : Int32) (a : Nat) (hrec : ∀ (x2 : Int32) (ν : wd_Mem), rec x2 ν = some out → out.2 a = ν a) (hk : ∀  (ν : wd_Mem), k ν = some out → out.2 a = ν a) (ha : ¬ (a = 31 ∨ a = 32 ∨ a = 33 ∨ a = 34 ∨ a = 36 ∨ a = 39)) (h : X8_desk_b207 rec k μ x1 x2 s1 s2 = some out) : out.2 a = μ a := by
  unfold X8_desk_b207 at h
  obtain ⟨-, h⟩ := wd_chk_some h
  exact (hrec _ _ h).trans (wd_fr1 (by omega) rfl)
theorem f_X8_desk_b179 {out : Int32 × wd_Mem} (rec : Int32 → wd_Mem → Option (Int32 × wd_Mem)) (k : wd_Mem → Option (Int32 × wd_Mem)) (μ : wd_Mem) (x1 x2 s1 s2 : Int32) (a : Nat) (hrec : ∀ (x2 : Int32) (ν : wd_Mem), rec x2 ν = some out → out.2 a = ν a) (hk : ∀  (ν : wd_Mem), k ν = some out → out.2 a = ν a) (ha : ¬ (a = 31 ∨ a = 32 ∨ a = 33 ∨ a = 34 ∨ a = 36 ∨ a = 39)) (h : X8_desk_b179 rec k μ x1 x2 s1 s2 = some out) : out.2 a = μ a := by
  unfold X8_desk_b179 at h
  obtain ⟨-, h⟩ := wd_chk_some h
  by_cases c11 : (μ 31 0) ≤ x2
  · have h := (if_pos c11).symm.trans h
    exact (f_X8_desk_b207 rec k (mset μ 32 (Int32.toNatClampNeg s1) s2) x1 x2 x2 (0 : Int32) a hrec hk ha h).trans (wd_fr1 (by omega) rfl)
  · have h := (if_neg c11).symm.trans h
    obtain ⟨-, h⟩ := wd_chk_some h
    exact (f_X8_desk_b207 rec k (mset μ 32 (Int32.toNatClampNeg s1) s2) x1 x2 x2 (μ 39 (Int32.toNatClampNeg (((4 : Int32) * x2) + (3 : Int32)))) a hrec hk ha h).trans (wd_fr1 (by omega) rfl)
theorem f_X8_desk_b151 {out : Int32 × wd_Mem} (rec : Int32 → wd_Mem → Option (Int32 × wd_Mem)) (k : wd_Mem → Option (Int32 × wd_Mem)) (μ : wd_Mem) (x1 x2 s1 s2 : Int32) (a : Nat) (hrec : ∀ (x2 : Int32) (ν : wd_Mem), rec x2 ν = some out → out.2 a = ν a) (hk : ∀  (ν : wd_Mem), k ν = some out → out.2 a = ν a) (ha : ¬ (a = 31 ∨ a = 32 ∨ a = 33 ∨ a = 34 ∨ a = 36 ∨ a = 39)) (h : X8_desk_b151 rec k μ x1 x2 s1 s2 = some out) : out.2 a = μ a := by
  unfold X8_desk_b151 at h
  obtain ⟨-, h⟩ := wd_chk_some h
  by_cases c10 : (μ 31 0) ≤ x2
  · have h := (if_pos c10).symm.trans h
    exact (f_X8_desk_b179 rec k (mset μ 34 (Int32.toNatClampNeg s1) s2) x1 x2 x2 (0 : Int32) a hrec hk ha h).trans (wd_fr1 (by omega) rfl)
  · have h := (if_neg c10).symm.trans h
    obtain ⟨-, h⟩ := wd_chk_some h
    exact (f_X8_desk_b179 rec k (mset μ 34 (Int32.toNatClampNeg s1) s2) x1 x2 x2 (μ 39 (Int32.toNatClampNeg (((4 : Int32) * x2) + (2 : Int32)))) a hrec hk ha h).trans (wd_fr1 (by omega) rfl)
theorem f_X8_desk_b121 {out : Int32 × wd_Mem} (rec : Int32 → wd_Mem → Option (Int32 × wd_Mem)) (k : wd_Mem → Option (Int32 × wd_Mem)) (μ : wd_Mem) (x1 x2 s1 s2 : Int32) (a : Nat) (hrec : ∀ (x2 : Int32) (ν : wd_Mem), rec x2 ν = some out → out.2 a = ν a) (hk : ∀  (ν : wd_Mem), k ν = some out → out.2 a = ν a) (ha : ¬ (a = 31 ∨ a = 32 ∨ a = 33 ∨ a = 34 ∨ a = 36 ∨ a = 39)) (h : X8_desk_b121 rec k μ x1 x2 s1 s2 = some out) : out.2 a = μ a := by
  unfold X8_desk_b121 at h
  obtain ⟨-, h⟩ := wd_chk_some h
  by_cases c9 : (μ 31 0) ≤ x2
  · have h := (if_pos c9).symm.trans h
    exact (f_X8_desk_b151 rec k (mset μ 34 (Int32.toNatClampNeg s1) s2) x1 x2 ((5 : Int32) + x2) (0 : Int32) a hrec hk ha h).trans (wd_fr1 (by omega) rfl)
  · have h := (if_neg c9).symm.trans h
    obtain ⟨-, h⟩ := wd_chk_some h
    exact (f_X8_desk_b151 rec k (mset μ 34 (Int32.toNatClampNeg s1) s2) x1 x2 ((5 : Int32) + x2) (μ 39 (Int32.toNatClampNeg (((4 : Int32) * x2) + (1 : Int32)))) a hrec hk ha h).trans (wd_fr1 (by omega) rfl)
theorem f_X8_desk_c89 {out : Int32 × wd_Mem} (rec : Int32 → wd_Mem → Option (Int32 × wd_Mem)) (k : wd_Mem → Option (Int32 × wd_Mem)) (μ : wd_Mem) (x1 x2 : Int32) (a : Nat) (hrec : ∀ (x2 : Int32) (ν : wd_Mem), rec x2 ν = some out → out.2 a = ν a) (hk : ∀  (ν : wd_Mem), k ν = some out → out.2 a = ν a) (ha : ¬ (a = 31 ∨ a = 32 ∨ a = 33 ∨ a = 34 ∨ a = 36 ∨ a = 39)) (h : X8_desk_c89 rec k μ x1 x2 = some out) : out.2 a = μ a := by
  unfold X8_desk_c89 at h
  by_cases c7 : (5 : Int32) ≤ x2
  · have h := (if_pos c7).symm.trans h
    exact (hk _ h).trans rfl
  · have h := (if_neg c7).symm.trans h
    by_cases c8 : (μ 31 0) ≤ x2
    · have h := (if_pos c8).symm.trans h
      exact (f_X8_desk_b121 rec k μ x1 x2 ((0 : Int32) + x2) (0 : Int32) a hrec hk ha h).trans rfl
    · have h := (if_neg c8).symm.trans h
      obtain ⟨-, h⟩ := wd_chk_some h
      exact (f_X8_desk_b121 rec k μ x1 x2 ((0 : Int32) + x2) (μ 39 (Int32.toNatClampNeg ((4 : Int32) * x2))) a hrec hk ha h).trans rfl
theorem f_X8_desk_l89 {out : Int32 × wd_Mem} (k : wd_Mem → Option (Int32 × wd_Mem)) (x1 : Int32) (a : Nat) (hk : ∀  (ν : wd_Mem), k ν = some out → out.2 a = ν a) (ha : ¬ (a = 31 ∨ a = 32 ∨ a = 33 ∨ a = 34 ∨ a = 36 ∨ a = 39)) : ∀ (n : Nat) (x2 : Int32) (μ : wd_Mem), X8_desk_l89 k x1 n x2 μ = some out → out.2 a = μ a := by
  intro n
  induction n with
  | zero => intro x2 μ h; exact absurd h (by unfold X8_desk_l89; simp)
  | succ n ih =>
    intro x2 μ h
    exact f_X8_desk_c89 (X8_desk_l89 k x1 n) k μ x1 x2 a  (fun x2 μ h => ih x2 μ h) hk ha h
theorem f_X8_desk_c217 {out : Int32 × wd_Mem} (rec : Int32 → wd_Mem → Option (Int32 × wd_Mem)) (k : wd_Mem → Option (Int32 × wd_Mem)) (μ : wd_Mem) (x1 x2 : Int32) (a : Nat) (hrec : ∀ (x2 : Int32) (ν : wd_Mem), rec x2 ν = some out → out.2 a = ν a) (hk : ∀  (ν : wd_Mem), k ν = some out → out.2 a = ν a) (ha : ¬ (a = 31 ∨ a = 32 ∨ a = 33 ∨ a = 34 ∨ a = 36 ∨ a = 39)) (h : X8_desk_c217 rec k μ x1 x2 = some out) : out.2 a = μ a := by
  unfold X8_desk_c217 at h
  by_cases c12 : (20 : Int32) ≤ x2
  · have h := (if_pos c12).symm.trans h
    exact (hk _ h).trans rfl
  · have h := (if_neg c12).symm.trans h
    obtain ⟨-, h⟩ := wd_chk_some h
    obtain ⟨-, h⟩ := wd_chk_some h
    exact (hrec _ _ h).trans (wd_fr1 (by omega) (wd_fr1 (by omega) rfl))
theorem f_X8_desk_l217 {out : Int32 × wd_Mem} (k : wd_Mem → Option (Int32 × wd_Mem)) (x1 : Int32) (a : Nat) (hk : ∀  (ν : wd_Mem), k ν = some out → out.2 a = ν a) (ha : ¬ (a = 31 ∨ a = 32 ∨ a = 33 ∨ a = 34 ∨ a = 36 ∨ a = 39)) : ∀ (n : Nat) (x2 : Int32) (μ : wd_Mem), X8_desk_l217 k x1 n x2 μ = some out → out.2 a = μ a := by
  intro n
  induction n with
  | zero => intro x2 μ h; exact absurd h (by unfold X8_desk_l217; simp)
  | succ n ih =>
    intro x2 μ h
    exact f_X8_desk_c217 (X8_desk_l217 k x1 n) k μ x1 x2 a  (fun x2 μ h => ih x2 μ h) hk ha h
theorem f_X8_desk_b248 {out : Int32 × wd_Mem} (μ : wd_Mem) (x1 : Int32) (a : Nat)  (ha : ¬ (a = 31 ∨ a = 32 ∨ a = 33 ∨ a = 34 ∨ a = 36 ∨ a = 39)) (h : X8_desk_b248 μ x1 = some out) : out.2 a = μ a := by
  unfold X8_desk_b248 at h
  obtain ⟨-, h⟩ := wd_chk_some h
  obtain ⟨-, h⟩ := wd_chk_some h
  have e9 := Option.some.inj h
  subst e9
  exact (wd_fr1 (by omega) (wd_fr1 (by omega) (wd_fr1 (by omega) rfl)))
theorem f_X8_desk_b214 {out : Int32 × wd_Mem} (μ : wd_Mem) (x1 : Int32) (a : Nat)  (ha : ¬ (a = 31 ∨ a = 32 ∨ a = 33 ∨ a = 34 ∨ a = 36 ∨ a = 39)) (h : X8_desk_b214 μ x1 = some out) : out.2 a = μ a := by
  unfold X8_desk_b214 at h
  exact (f_X8_desk_l217 (fun μ => X8_desk_b248 μ x1) x1 a  (fun μ h => f_X8_desk_b248 μ x1 a  ha h) ha wd_big (10 : Int32) μ h).trans rfl
theorem f_X8_desk_b66 {out : Int32 × wd_Mem} (μ : wd_Mem) (x1 : Int32) (a : Nat)  (ha : ¬ (a = 31 ∨ a = 32 ∨ a = 33 ∨ a = 34 ∨ a = 36 ∨ a = 39)) (h : X8_desk_b66 μ x1 = some out) : out.2 a = μ a := by
  unfold X8_desk_b66 at h
  exact (f_X8_desk_l89 (fun μ => X8_desk_b214 μ x1) x1 a  (fun μ h => f_X8_desk_b214 μ x1 a  ha h) ha wd_big (0 : Int32) (mset (mset (mset μ 31 10 (0 : Int32)) 31 0 (μ 31 17)) 31 1 (μ 31 18)) h).trans (wd_fr1 (by omega) (wd_fr1 (by omega) (wd_fr1 (by omega) rfl)))
theorem f_X8_desk_b0 {out : Int32 × wd_Mem} (μ : wd_Mem) (a : Nat)  (ha : ¬ (a = 31 ∨ a = 32 ∨ a = 33 ∨ a = 34 ∨ a = 36 ∨ a = 39)) (h : X8_desk_b0 μ = some out) : out.2 a = μ a := by
  unfold X8_desk_b0 at h
  obtain ⟨r1, er1, h⟩ := wd_bind_some h
  have fr1 : r1 a = μ a := (fr_X8_blanks a  (by omega) er1).trans (wd_fr1 (by omega) (wd_fr1 (by omega) (wd_fr1 (by omega) rfl)))
  exact (f_X8_desk_l21 (fun x1 μ => X8_desk_b66 μ x1) a  (fun x1 μ h => f_X8_desk_b66 μ x1 a  ha h) ha wd_big (0 : Int32) r1 h).trans fr1
theorem fr_X8_desk {out : Int32 × wd_Mem} {μ : wd_Mem} (a : Nat)  (ha : ¬ (a = 31 ∨ a = 32 ∨ a = 33 ∨ a = 34 ∨ a = 36 ∨ a = 39)) (h : X8_desk μ = some out) : out.2 a = μ a := f_X8_desk_b0 μ  a  ha h
theorem f_X8_remember_c2 {out : wd_Mem} (rec : Int32 → wd_Mem → Option (wd_Mem)) (k : wd_Mem → Option (wd_Mem)) (μ : wd_Mem) (x1 : Int32) (a : Nat) (hrec : ∀ (x1 : Int32) (ν : wd_Mem), rec x1 ν = some out → out a = ν a) (hk : ∀  (ν : wd_Mem), k ν = some out → out a = ν a) (ha : ¬ (a = 31 ∨ a = 35)) (h : X8_remember_c2 rec k μ x1 = some out) : out a = μ a := by
  unfold X8_remember_c2 at h
  by_cases c1 : (30 : Int32) ≤ x1
  · have h := (if_pos c1).symm.trans h
    exact (hk _ h).trans rfl
  · have h := (if_neg c1).symm.trans h
    obtain ⟨-, h⟩ := wd_chk_some h
    obtain ⟨-, h⟩ := wd_chk_some h
    exact (hrec _ _ h).trans (wd_fr1 (by omega) rfl)
theorem f_X8_remember_l2 {out : wd_Mem} (k : wd_Mem → Option (wd_Mem)) (a : Nat) (hk : ∀  (ν : wd_Mem), k ν = some out → out a = ν a) (ha : ¬ (a = 31 ∨ a = 35)) : ∀ (n : Nat) (x1 : Int32) (μ : wd_Mem), X8_remember_l2 k n x1 μ = some out → out a = μ a := by
  intro n
  induction n with
  | zero => intro x1 μ h; exact absurd h (by unfold X8_remember_l2; simp)
  | succ n ih =>
    intro x1 μ h
    exact f_X8_remember_c2 (X8_remember_l2 k n) k μ x1 a  (fun x1 μ h => ih x1 μ h) hk ha h
theorem f_X8_remember_b66 {out : wd_Mem} (μ : wd_Mem) (s1 s2 : Int32) (a : Nat)  (ha : ¬ (a = 31 ∨ a = 35)) (h : X8_remember_b66 μ s1 s2 = some out) : out a = μ a := by
  unfold X8_remember_b66 at h
  have e9 := Option.some.inj h
  subst e9
  exact (wd_fr1 (by omega) rfl)
theorem f_X8_remember_b34 {out : wd_Mem} (μ : wd_Mem) (a : Nat)  (ha : ¬ (a = 31 ∨ a = 35)) (h : X8_remember_b34 μ = some out) : out a = μ a := by
  unfold X8_remember_b34 at h
  obtain ⟨-, h⟩ := wd_chk_some h
  by_cases c2 : (10 : Int32) ≤ (μ 31 5)
  · have h := (if_pos c2).symm.trans h
    exact (f_X8_remember_b66 (mset μ 31 6 (((μ 31 6) + (1 : Int32)) - ((μ 31 6) + (1 : Int32)) / (10 : Int32) * (10 : Int32))) (μ 31 5) (0 : Int32) a  ha h).trans (wd_fr1 (by omega) rfl)
  · have h := (if_neg c2).symm.trans h
    exact (f_X8_remember_b66 (mset μ 31 6 (((μ 31 6) + (1 : Int32)) - ((μ 31 6) + (1 : Int32)) / (10 : Int32) * (10 : Int32))) (μ 31 5) (1 : Int32) a  ha h).trans (wd_fr1 (by omega) rfl)
theorem f_X8_remember_b0 {out : wd_Mem} (μ : wd_Mem) (a : Nat)  (ha : ¬ (a = 31 ∨ a = 35)) (h : X8_remember_b0 μ = some out) : out a = μ a := by
  unfold X8_remember_b0 at h
  exact (f_X8_remember_l2 (fun μ => X8_remember_b34 μ) a  (fun μ h => f_X8_remember_b34 μ a  ha h) ha wd_big (0 : Int32) μ h).trans rfl
theorem fr_X8_remember {out : wd_Mem} {μ : wd_Mem} (a : Nat)  (ha : ¬ (a = 31 ∨ a = 35)) (h : X8_remember μ = some out) : out a = μ a := f_X8_remember_b0 μ  a  ha h
theorem f_X8_tells_b0 {out : wd_Mem} (μ : wd_Mem) (x1 x2 x3 : Int32) (a : Nat)  (ha : ¬ (a = 42 ∨ a = 43)) (h : X8_tells_b0 μ x1 x2 x3 = some out) : out a = μ a := by
  unfold X8_tells_b0 at h
  obtain ⟨-, h⟩ := wd_chk_some h
  by_cases c1 : x2 ≤ (μ 42 (Int32.toNatClampNeg x1))
  · have h := (if_pos c1).symm.trans h
    have e9 := Option.some.inj h
    subst e9
    exact rfl
  · have h := (if_neg c1).symm.trans h
    have e9 := Option.some.inj h
    subst e9
    exact (wd_fr1 (by omega) (wd_fr1 (by omega) rfl))
theorem fr_X8_tells {out : wd_Mem} {μ : wd_Mem} {x1 x2 x3 : Int32} (a : Nat)  (ha : ¬ (a = 42 ∨ a = 43)) (h : X8_tells μ x1 x2 x3 = some out) : out a = μ a := f_X8_tells_b0 μ x1 x2 x3 a  ha h
theorem f_X8_musts_b61 {out : wd_Mem} (rec : Int32 → Int32 → Option (wd_Mem)) (k : Int32 → Option (wd_Mem)) (μ : wd_Mem) (x1 x2 x4 s0 : Int32) (a : Nat) (hrec : ∀ (x3 x4 : Int32), rec x3 x4 = some out → out a = μ a) (hk : ∀ (x3 : Int32), k x3 = some out → out a = μ a) (ha : ¬ (a = 42 ∨ a = 43)) (h : X8_musts_b61 rec k μ x1 x2 x4 s0 = some out) : out a = μ a := by
  unfold X8_musts_b61 at h
  exact (hrec _ _ h)
theorem f_X8_musts_b60 {out : wd_Mem} (rec : Int32 → Int32 → Option (wd_Mem)) (k : Int32 → Option (wd_Mem)) (μ : wd_Mem) (x1 x2 x4 : Int32) (a : Nat) (hrec : ∀ (x3 x4 : Int32), rec x3 x4 = some out → out a = μ a) (hk : ∀ (x3 : Int32), k x3 = some out → out a = μ a) (ha : ¬ (a = 42 ∨ a = 43)) (h : X8_musts_b60 rec k μ x1 x2 x4 = some out) : out a = μ a := by
  unfold X8_musts_b60 at h
  exact (f_X8_musts_b61 rec k μ x1 x2 x4 (0 : Int32) a hrec hk ha h).trans rfl
theorem f_X8_musts_c29 {out : wd_Mem} (rec : Int32 → Int32 → Option (wd_Mem)) (k : Int32 → Option (wd_Mem)) (μ : wd_Mem) (x1 x2 x3 x4 : Int32) (a : Nat) (hrec : ∀ (x3 x4 : Int32), rec x3 x4 = some out → out a = μ a) (hk : ∀ (x3 : Int32), k x3 = some out → out a = μ a) (ha : ¬ (a = 42 ∨ a = 43)) (h : X8_musts_c29 rec k μ x1 x2 x3 x4 = some out) : out a = μ a := by
  unfold X8_musts_c29 at h
  obtain ⟨-, h⟩ := wd_chk_some h
  by_cases c2 : (x2 + (μ 32 (Int32.toNatClampNeg x1))) ≤ x4
  · have h := (if_pos c2).symm.trans h
    exact (hk _ h)
  · have h := (if_neg c2).symm.trans h
    by_cases c3 : x3 = 0
    · have h := (if_pos c3).symm.trans h
      exact (f_X8_musts_b60 rec k μ x1 x2 x4 a hrec hk ha h).trans rfl
    · have h := (if_neg c3).symm.trans h
      obtain ⟨r4, er4, h⟩ := wd_bind_some h
      by_cases c5 : r4 = 0
      · have h := (if_pos c5).symm.trans h
        exact (f_X8_musts_b61 rec k μ x1 x2 x4 (1 : Int32) a hrec hk ha h).trans rfl
      · have h := (if_neg c5).symm.trans h
        exact (f_X8_musts_b60 rec k μ x1 x2 x4 a hrec hk ha h).trans rfl
theorem f_X8_musts_l29 {out : wd_Mem} (k : Int32 → Option (wd_Mem)) (μ : wd_Mem) (x1 x2 : Int32) (a : Nat) (hk : ∀ (x3 : Int32), k x3 = some out → out a = μ a) (ha : ¬ (a = 42 ∨ a = 43)) : ∀ (n : Nat) (x3 x4 : Int32), X8_musts_l29 k μ x1 x2 n x3 x4 = some out → out a = μ a := by
  intro n
  induction n with
  | zero => intro x3 x4 h; exact absurd h (by unfold X8_musts_l29; simp)
  | succ n ih =>
    intro x3 x4 h
    exact f_X8_musts_c29 (X8_musts_l29 k μ x1 x2 n) k μ x1 x2 x3 x4 a  (fun x3 x4 h => ih x3 x4 h) hk ha h
theorem f_X8_musts_b68 {out : wd_Mem} (rec : Int32 → Option (wd_Mem)) (k : Option (wd_Mem)) (μ : wd_Mem) (x1 x2 x3 : Int32) (a : Nat) (hrec : ∀ (x2 : Int32), rec x2 = some out → out a = μ a) (hk : k = some out → out a = μ a) (ha : ¬ (a = 42 ∨ a = 43)) (h : X8_musts_b68 rec k μ x1 x2 x3 = some out) : out a = μ a := by
  unfold X8_musts_b68 at h
  by_cases c6 : x3 = 0
  · have h := (if_pos c6).symm.trans h
    exact (hrec _ h)
  · have h := (if_neg c6).symm.trans h
    obtain ⟨r7, er7, h⟩ := wd_bind_some h
    have fr7 : r7 a = μ a := (fr_X8_tells a  (by omega) er7).trans rfl
    have e9 := Option.some.inj h
    subst e9
    exact fr7
theorem f_X8_musts_c7 {out : wd_Mem} (rec : Int32 → Option (wd_Mem)) (k : Option (wd_Mem)) (μ : wd_Mem) (x1 x2 : Int32) (a : Nat) (hrec : ∀ (x2 : Int32), rec x2 = some out → out a = μ a) (hk : k = some out → out a = μ a) (ha : ¬ (a = 42 ∨ a = 43)) (h : X8_musts_c7 rec k μ x1 x2 = some out) : out a = μ a := by
  unfold X8_musts_c7 at h
  obtain ⟨-, h⟩ := wd_chk_some h
  by_cases c1 : (μ 41 (Int32.toNatClampNeg x1)) < (x2 + (μ 32 (Int32.toNatClampNeg x1)))
  · have h := (if_pos c1).symm.trans h
    exact (hk  h)
  · have h := (if_neg c1).symm.trans h
    exact (f_X8_musts_l29 (fun x3 => X8_musts_b68 rec k μ x1 x2 x3) μ x1 x2 a  (fun x3 h => f_X8_musts_b68 rec k μ x1 x2 x3 a hrec hk ha h) ha wd_big (1 : Int32) x2 h).trans rfl
theorem f_X8_musts_l7 {out : wd_Mem} (k : Option (wd_Mem)) (μ : wd_Mem) (x1 : Int32) (a : Nat) (hk : k = some out → out a = μ a) (ha : ¬ (a = 42 ∨ a = 43)) : ∀ (n : Nat) (x2 : Int32), X8_musts_l7 k μ x1 n x2 = some out → out a = μ a := by
  intro n
  induction n with
  | zero => intro x2 h; exact absurd h (by unfold X8_musts_l7; simp)
  | succ n ih =>
    intro x2 h
    exact f_X8_musts_c7 (X8_musts_l7 k μ x1 n) k μ x1 x2 a  (fun x2 h => ih x2 h) hk ha h
theorem f_X8_musts_b86 {out : wd_Mem} (μ : wd_Mem) (x1 : Int32) (a : Nat)  (ha : ¬ (a = 42 ∨ a = 43)) (h : X8_musts_b86 μ x1 = some out) : out a = μ a := by
  unfold X8_musts_b86 at h
  obtain ⟨r8, er8, h⟩ := wd_bind_some h
  have fr8 : r8 a = μ a := (fr_X8_tells a  (by omega) er8).trans rfl
  have e9 := Option.some.inj h
  subst e9
  exact fr8
theorem f_X8_musts_b0 {out : wd_Mem} (μ : wd_Mem) (x1 : Int32) (a : Nat)  (ha : ¬ (a = 42 ∨ a = 43)) (h : X8_musts_b0 μ x1 = some out) : out a = μ a := by
  unfold X8_musts_b0 at h
  obtain ⟨-, h⟩ := wd_chk_some h
  exact (f_X8_musts_l7 (X8_musts_b86 μ x1) μ x1 a  (fun h => f_X8_musts_b86 μ x1 a  ha h) ha wd_big (μ 40 (Int32.toNatClampNeg x1)) h).trans rfl
theorem fr_X8_musts {out : wd_Mem} {μ : wd_Mem} {x1 : Int32} (a : Nat)  (ha : ¬ (a = 42 ∨ a = 43)) (h : X8_musts μ x1 = some out) : out a = μ a := f_X8_musts_b0 μ x1 a  ha h
theorem f_X8_edges_b143 {out : wd_Mem} (rec : Int32 → wd_Mem → Option (wd_Mem)) (k : wd_Mem → Option (wd_Mem)) (μ : wd_Mem) (x1 x2 x3 : Int32) (a : Nat) (hrec : ∀ (x3 : Int32) (ν : wd_Mem), rec x3 ν = some out → out a = ν a) (hk : ∀  (ν : wd_Mem), k ν = some out → out a = ν a) (ha : ¬ (a = 42 ∨ a = 43)) (h : X8_edges_b143 rec k μ x1 x2 x3 = some out) : out a = μ a := by
  unfold X8_edges_b143 at h
  exact (hrec _ _ h).trans rfl
theorem f_X8_edges_b132 {out : wd_Mem} (rec : Int32 → wd_Mem → Option (wd_Mem)) (k : wd_Mem → Option (wd_Mem)) (μ : wd_Mem) (x1 x2 x3 x5 : Int32) (a : Nat) (hrec : ∀ (x5 : Int32) (ν : wd_Mem), rec x5 ν = some out → out a = ν a) (hk : ∀  (ν : wd_Mem), k ν = some out → out a = ν a) (ha : ¬ (a = 42 ∨ a = 43)) (h : X8_edges_b132 rec k μ x1 x2 x3 x5 = some out) : out a = μ a := by
  unfold X8_edges_b132 at h
  exact (hrec _ _ h).trans rfl
theorem f_X8_edges_c57 {out : wd_Mem} (rec : Int32 → wd_Mem → Option (wd_Mem)) (k : wd_Mem → Option (wd_Mem)) (μ : wd_Mem) (x1 x2 x3 x5 : Int32) (a : Nat) (hrec : ∀ (x5 : Int32) (ν : wd_Mem), rec x5 ν = some out → out a = ν a) (hk : ∀  (ν : wd_Mem), k ν = some out → out a = ν a) (ha : ¬ (a = 42 ∨ a = 43)) (h : X8_edges_c57 rec k μ x1 x2 x3 x5 = some out) : out a = μ a := by
  unfold X8_edges_c57 at h
  by_cases c7 : x5 ≤ 0
  · have h := (if_pos c7).symm.trans h
    exact (hk _ h).trans rfl
  · have h := (if_neg c7).symm.trans h
    obtain ⟨r8, er8, h⟩ := wd_bind_some h
    obtain ⟨-, h⟩ := wd_chk_some h
    obtain ⟨r9, er9, h⟩ := wd_bind_some h
    obtain ⟨r10, er10, h⟩ := wd_bind_some h
    by_cases c11 : (r8 - (((μ 31 1) - (μ 33 (Int32.toNatClampNeg x1))) * (r9 - r10))) ≤ 0
    · have h := (if_pos c11).symm.trans h
      exact (f_X8_edges_b132 rec k μ x1 x2 x3 x5 a hrec hk ha h).trans rfl
    · have h := (if_neg c11).symm.trans h
      obtain ⟨r12, er12, h⟩ := wd_bind_some h
      obtain ⟨-, h⟩ := wd_chk_some h
      obtain ⟨r13, er13, h⟩ := wd_bind_some h
      have fr13 : r13 a = μ a := (fr_X8_tells a  (by omega) er13).trans rfl
      exact (f_X8_edges_b132 rec k r13 x1 x2 x3 x5 a hrec hk ha h).trans fr13
theorem f_X8_edges_l57 {out : wd_Mem} (k : wd_Mem → Option (wd_Mem)) (x1 x2 x3 : Int32) (a : Nat) (hk : ∀  (ν : wd_Mem), k ν = some out → out a = ν a) (ha : ¬ (a = 42 ∨ a = 43)) : ∀ (n : Nat) (x5 : Int32) (μ : wd_Mem), X8_edges_l57 k x1 x2 x3 n x5 μ = some out → out a = μ a := by
  intro n
  induction n with
  | zero => intro x5 μ h; exact absurd h (by unfold X8_edges_l57; simp)
  | succ n ih =>
    intro x5 μ h
    exact f_X8_edges_c57 (X8_edges_l57 k x1 x2 x3 n) k μ x1 x2 x3 x5 a  (fun x5 μ h => ih x5 μ h) hk ha h
theorem f_X8_edges_c6 {out : wd_Mem} (rec : Int32 → wd_Mem → Option (wd_Mem)) (k : wd_Mem → Option (wd_Mem)) (μ : wd_Mem) (x1 x2 x3 : Int32) (a : Nat) (hrec : ∀ (x3 : Int32) (ν : wd_Mem), rec x3 ν = some out → out a = ν a) (hk : ∀  (ν : wd_Mem), k ν = some out → out a = ν a) (ha : ¬ (a = 42 ∨ a = 43)) (h : X8_edges_c6 rec k μ x1 x2 x3 = some out) : out a = μ a := by
  unfold X8_edges_c6 at h
  by_cases c1 : (X8_all μ) < x3
  · have h := (if_pos c1).symm.trans h
    exact (hk _ h).trans rfl
  · have h := (if_neg c1).symm.trans h
    obtain ⟨r2, er2, h⟩ := wd_bind_some h
    by_cases c3 : (X8_has μ x3 x1) = 0
    · have h := (if_pos c3).symm.trans h
      obtain ⟨r4, er4, h⟩ := wd_bind_some h
      obtain ⟨r5, er5, h⟩ := wd_bind_some h
      by_cases c6 : r4 ≤ ((μ 31 1) * (r5 - r2))
      · have h := (if_pos c6).symm.trans h
        exact (f_X8_edges_b143 rec k μ x1 x2 x3 a hrec hk ha h).trans rfl
      · have h := (if_neg c6).symm.trans h
        exact (f_X8_edges_l57 (fun μ => X8_edges_b143 rec k μ x1 x2 x3) x1 x2 x3 a  (fun μ h => f_X8_edges_b143 rec k μ x1 x2 x3 a hrec hk ha h) ha wd_big x3 μ h).trans rfl
    · have h := (if_neg c3).symm.trans h
      exact (f_X8_edges_b143 rec k μ x1 x2 x3 a hrec hk ha h).trans rfl
theorem f_X8_edges_l6 {out : wd_Mem} (k : wd_Mem → Option (wd_Mem)) (x1 x2 : Int32) (a : Nat) (hk : ∀  (ν : wd_Mem), k ν = some out → out a = ν a) (ha : ¬ (a = 42 ∨ a = 43)) : ∀ (n : Nat) (x3 : Int32) (μ : wd_Mem), X8_edges_l6 k x1 x2 n x3 μ = some out → out a = μ a := by
  intro n
  induction n with
  | zero => intro x3 μ h; exact absurd h (by unfold X8_edges_l6; simp)
  | succ n ih =>
    intro x3 μ h
    exact f_X8_edges_c6 (X8_edges_l6 k x1 x2 n) k μ x1 x2 x3 a  (fun x3 μ h => ih x3 μ h) hk ha h
theorem f_X8_edges_b149 {out : wd_Mem} (μ : wd_Mem) (a : Nat)  (ha : ¬ (a = 42 ∨ a = 43)) (h : X8_edges_b149 μ = some out) : out a = μ a := by
  unfold X8_edges_b149 at h
  have e9 := Option.some.inj h
  subst e9
  exact rfl
theorem f_X8_edges_b0 {out : wd_Mem} (μ : wd_Mem) (x1 : Int32) (a : Nat)  (ha : ¬ (a = 42 ∨ a = 43)) (h : X8_edges_b0 μ x1 = some out) : out a = μ a := by
  unfold X8_edges_b0 at h
  exact (f_X8_edges_l6 (fun μ => X8_edges_b149 μ) x1 ((1 : Int32) <<< (x1 &&& 31)) a  (fun μ h => f_X8_edges_b149 μ a  ha h) ha wd_big (1 : Int32) μ h).trans rfl
theorem fr_X8_edges {out : wd_Mem} {μ : wd_Mem} {x1 : Int32} (a : Nat)  (ha : ¬ (a = 42 ∨ a = 43)) (h : X8_edges μ x1 = some out) : out a = μ a := f_X8_edges_b0 μ x1 a  ha h
theorem f_X8_firsts_b123 {out : wd_Mem} (rec : Int32 → wd_Mem → Option (wd_Mem)) (k : wd_Mem → Option (wd_Mem)) (μ : wd_Mem) (x1 x2 : Int32) (a : Nat) (hrec : ∀ (x2 : Int32) (ν : wd_Mem), rec x2 ν = some out → out a = ν a) (hk : ∀  (ν : wd_Mem), k ν = some out → out a = ν a) (ha : ¬ (a = 42 ∨ a = 43)) (h : X8_firsts_b123 rec k μ x1 x2 = some out) : out a = μ a := by
  unfold X8_firsts_b123 at h
  exact (hrec _ _ h).trans rfl
theorem f_X8_firsts_b72 {out : wd_Mem} (rec : Int32 → wd_Mem → Option (wd_Mem)) (k : wd_Mem → Option (wd_Mem)) (μ : wd_Mem) (x1 x2 s0 : Int32) (a : Nat) (hrec : ∀ (x2 : Int32) (ν : wd_Mem), rec x2 ν = some out → out a = ν a) (hk : ∀  (ν : wd_Mem), k ν = some out → out a = ν a) (ha : ¬ (a = 42 ∨ a = 43)) (h : X8_firsts_b72 rec k μ x1 x2 s0 = some out) : out a = μ a := by
  unfold X8_firsts_b72 at h
  obtain ⟨r11, er11, h⟩ := wd_bind_some h
  obtain ⟨-, h⟩ := wd_chk_some h
  obtain ⟨r12, er12, h⟩ := wd_bind_some h
  obtain ⟨r13, er13, h⟩ := wd_bind_some h
  obtain ⟨r14, er14, h⟩ := wd_bind_some h
  by_cases c15 : (r11 + ((μ 33 (Int32.toNatClampNeg x1)) * (s0 - r12))) ≤ ((μ 31 1) * (r13 - r14))
  · have h := (if_pos c15).symm.trans h
    exact (f_X8_firsts_b123 rec k μ x1 x2 a hrec hk ha h).trans rfl
  · have h := (if_neg c15).symm.trans h
    obtain ⟨r16, er16, h⟩ := wd_bind_some h
    obtain ⟨r17, er17, h⟩ := wd_bind_some h
    have fr17 : r17 a = μ a := (fr_X8_tells a  (by omega) er17).trans rfl
    exact (f_X8_firsts_b123 rec k r17 x1 x2 a hrec hk ha h).trans fr17
theorem f_X8_firsts_c2 {out : wd_Mem} (rec : Int32 → wd_Mem → Option (wd_Mem)) (k : wd_Mem → Option (wd_Mem)) (μ : wd_Mem) (x1 x2 : Int32) (a : Nat) (hrec : ∀ (x2 : Int32) (ν : wd_Mem), rec x2 ν = some out → out a = ν a) (hk : ∀  (ν : wd_Mem), k ν = some out → out a = ν a) (ha : ¬ (a = 42 ∨ a = 43)) (h : X8_firsts_c2 rec k μ x1 x2 = some out) : out a = μ a := by
  unfold X8_firsts_c2 at h
  by_cases c1 : (X8_all μ) < x2
  · have h := (if_pos c1).symm.trans h
    exact (hk _ h).trans rfl
  · have h := (if_neg c1).symm.trans h
    by_cases c2 : (X8_has μ x2 x1) = 0
    · have h := (if_pos c2).symm.trans h
      obtain ⟨r3, er3, h⟩ := wd_bind_some h
      obtain ⟨-, h⟩ := wd_chk_some h
      by_cases c4 : (μ 40 (Int32.toNatClampNeg x1)) < r3
      · have h := (if_pos c4).symm.trans h
        exact (f_X8_firsts_b123 rec k μ x1 x2 a hrec hk ha h).trans rfl
      · have h := (if_neg c4).symm.trans h
        obtain ⟨r5, er5, h⟩ := wd_bind_some h
        by_cases c6 : r5 ≤ (μ 40 (Int32.toNatClampNeg x1))
        · have h := (if_pos c6).symm.trans h
          exact (f_X8_firsts_b123 rec k μ x1 x2 a hrec hk ha h).trans rfl
        · have h := (if_neg c6).symm.trans h
          obtain ⟨r7, er7, h⟩ := wd_bind_some h
          obtain ⟨r8, er8, h⟩ := wd_bind_some h
          by_cases c9 : r8 ≤ r7
          · have h := (if_pos c9).symm.trans h
            obtain ⟨r10, er10, h⟩ := wd_bind_some h
            exact (f_X8_firsts_b72 rec k μ x1 x2 r10 a hrec hk ha h).trans rfl
          · have h := (if_neg c9).symm.trans h
            obtain ⟨r18, er18, h⟩ := wd_bind_some h
            exact (f_X8_firsts_b72 rec k μ x1 x2 r18 a hrec hk ha h).trans rfl
    · have h := (if_neg c2).symm.trans h
      exact (f_X8_firsts_b123 rec k μ x1 x2 a hrec hk ha h).trans rfl
theorem f_X8_firsts_l2 {out : wd_Mem} (k : wd_Mem → Option (wd_Mem)) (x1 : Int32) (a : Nat) (hk : ∀  (ν : wd_Mem), k ν = some out → out a = ν a) (ha : ¬ (a = 42 ∨ a = 43)) : ∀ (n : Nat) (x2 : Int32) (μ : wd_Mem), X8_firsts_l2 k x1 n x2 μ = some out → out a = μ a := by
  intro n
  induction n with
  | zero => intro x2 μ h; exact absurd h (by unfold X8_firsts_l2; simp)
  | succ n ih =>
    intro x2 μ h
    exact f_X8_firsts_c2 (X8_firsts_l2 k x1 n) k μ x1 x2 a  (fun x2 μ h => ih x2 μ h) hk ha h
theorem f_X8_firsts_b129 {out : wd_Mem} (μ : wd_Mem) (a : Nat)  (ha : ¬ (a = 42 ∨ a = 43)) (h : X8_firsts_b129 μ = some out) : out a = μ a := by
  unfold X8_firsts_b129 at h
  have e9 := Option.some.inj h
  subst e9
  exact rfl
theorem f_X8_firsts_b0 {out : wd_Mem} (μ : wd_Mem) (x1 : Int32) (a : Nat)  (ha : ¬ (a = 42 ∨ a = 43)) (h : X8_firsts_b0 μ x1 = some out) : out a = μ a := by
  unfold X8_firsts_b0 at h
  exact (f_X8_firsts_l2 (fun μ => X8_firsts_b129 μ) x1 a  (fun μ h => f_X8_firsts_b129 μ a  ha h) ha wd_big (1 : Int32) μ h).trans rfl
theorem fr_X8_firsts {out : wd_Mem} {μ : wd_Mem} {x1 : Int32} (a : Nat)  (ha : ¬ (a = 42 ∨ a = 43)) (h : X8_firsts μ x1 = some out) : out a = μ a := f_X8_firsts_b0 μ x1 a  ha h
theorem f_X8_spans_b60 {out : wd_Mem} (rec : Int32 → Int32 → Option (wd_Mem)) (k : Int32 → Option (wd_Mem)) (μ : wd_Mem) (x1 x2 x3 x5 s0 s1 : Int32) (a : Nat) (hrec : ∀ (x4 x5 : Int32), rec x4 x5 = some out → out a = μ a) (hk : ∀ (x4 : Int32), k x4 = some out → out a = μ a) (ha : ¬ (a = 42 ∨ a = 43)) (h : X8_spans_b60 rec k μ x1 x2 x3 x5 s0 s1 = some out) : out a = μ a := by
  unfold X8_spans_b60 at h
  exact (hrec _ _ h)
theorem f_X8_spans_c31 {out : wd_Mem} (rec : Int32 → Int32 → Option (wd_Mem)) (k : Int32 → Option (wd_Mem)) (μ : wd_Mem) (x1 x2 x3 x4 x5 : Int32) (a : Nat) (hrec : ∀ (x4 x5 : Int32), rec x4 x5 = some out → out a = μ a) (hk : ∀ (x4 : Int32), k x4 = some out → out a = μ a) (ha : ¬ (a = 42 ∨ a = 43)) (h : X8_spans_c31 rec k μ x1 x2 x3 x4 x5 = some out) : out a = μ a := by
  unfold X8_spans_c31 at h
  by_cases c3 : (μ 31 0) ≤ x5
  · have h := (if_pos c3).symm.trans h
    exact (hk _ h)
  · have h := (if_neg c3).symm.trans h
    by_cases c4 : x5 = x1
    · have h := (if_pos c4).symm.trans h
      exact (f_X8_spans_b60 rec k μ x1 x2 x3 x5 x4 (0 : Int32) a hrec hk ha h).trans rfl
    · have h := (if_neg c4).symm.trans h
      obtain ⟨r5, er5, h⟩ := wd_bind_some h
      exact (f_X8_spans_b60 rec k μ x1 x2 x3 x5 x4 r5 a hrec hk ha h).trans rfl
theorem f_X8_spans_l31 {out : wd_Mem} (k : Int32 → Option (wd_Mem)) (μ : wd_Mem) (x1 x2 x3 : Int32) (a : Nat) (hk : ∀ (x4 : Int32), k x4 = some out → out a = μ a) (ha : ¬ (a = 42 ∨ a = 43)) : ∀ (n : Nat) (x4 x5 : Int32), X8_spans_l31 k μ x1 x2 x3 n x4 x5 = some out → out a = μ a := by
  intro n
  induction n with
  | zero => intro x4 x5 h; exact absurd h (by unfold X8_spans_l31; simp)
  | succ n ih =>
    intro x4 x5 h
    exact f_X8_spans_c31 (X8_spans_l31 k μ x1 x2 x3 n) k μ x1 x2 x3 x4 x5 a  (fun x4 x5 h => ih x4 x5 h) hk ha h
theorem f_X8_spans_b147 {out : wd_Mem} (rec : Int32 → wd_Mem → Option (wd_Mem)) (k : wd_Mem → Option (wd_Mem)) (μ : wd_Mem) (x1 x2 x3 : Int32) (a : Nat) (hrec : ∀ (x3 : Int32) (ν : wd_Mem), rec x3 ν = some out → out a = ν a) (hk : ∀  (ν : wd_Mem), k ν = some out → out a = ν a) (ha : ¬ (a = 42 ∨ a = 43)) (h : X8_spans_b147 rec k μ x1 x2 x3 = some out) : out a = μ a := by
  unfold X8_spans_b147 at h
  exact (hrec _ _ h).trans rfl
theorem f_X8_spans_b111 {out : wd_Mem} (rec : Int32 → wd_Mem → Option (wd_Mem)) (k : wd_Mem → Option (wd_Mem)) (μ : wd_Mem) (x1 x2 x3 x4 s0 : Int32) (a : Nat) (hrec : ∀ (x3 : Int32) (ν : wd_Mem), rec x3 ν = some out → out a = ν a) (hk : ∀  (ν : wd_Mem), k ν = some out → out a = ν a) (ha : ¬ (a = 42 ∨ a = 43)) (h : X8_spans_b111 rec k μ x1 x2 x3 x4 s0 = some out) : out a = μ a := by
  unfold X8_spans_b111 at h
  by_cases c8 : x4 < 0
  · have h := (if_pos c8).symm.trans h
    exact (f_X8_spans_b147 rec k μ x1 x2 x3 a hrec hk ha h).trans rfl
  · have h := (if_neg c8).symm.trans h
    by_cases c9 : s0 ≤ x4
    · have h := (if_pos c9).symm.trans h
      exact (f_X8_spans_b147 rec k μ x1 x2 x3 a hrec hk ha h).trans rfl
    · have h := (if_neg c9).symm.trans h
      obtain ⟨-, h⟩ := wd_chk_some h
      obtain ⟨-, h⟩ := wd_chk_some h
      obtain ⟨r10, er10, h⟩ := wd_bind_some h
      have fr10 : r10 a = μ a := (fr_X8_tells a  (by omega) er10).trans rfl
      exact (f_X8_spans_b147 rec k r10 x1 x2 x3 a hrec hk ha h).trans fr10
theorem f_X8_spans_b69 {out : wd_Mem} (rec : Int32 → wd_Mem → Option (wd_Mem)) (k : wd_Mem → Option (wd_Mem)) (μ : wd_Mem) (x1 x2 x3 x4 : Int32) (a : Nat) (hrec : ∀ (x3 : Int32) (ν : wd_Mem), rec x3 ν = some out → out a = ν a) (hk : ∀  (ν : wd_Mem), k ν = some out → out a = ν a) (ha : ¬ (a = 42 ∨ a = 43)) (h : X8_spans_b69 rec k μ x1 x2 x3 x4 = some out) : out a = μ a := by
  unfold X8_spans_b69 at h
  obtain ⟨r6, er6, h⟩ := wd_bind_some h
  by_cases c7 : r6 ≤ x2
  · have h := (if_pos c7).symm.trans h
    exact (f_X8_spans_b111 rec k μ x1 x2 x3 x4 (0 : Int32) a hrec hk ha h).trans rfl
  · have h := (if_neg c7).symm.trans h
    obtain ⟨-, h⟩ := wd_chk_some h
    obtain ⟨r11, er11, h⟩ := wd_bind_some h
    exact (f_X8_spans_b111 rec k μ x1 x2 x3 x4 ((μ 33 (Int32.toNatClampNeg x1)) * (X8_lesser μ (X8_lesser μ (μ 32 (Int32.toNatClampNeg x1)) (x3 - x2)) (r11 - x2))) a hrec hk ha h).trans rfl
theorem f_X8_spans_c12 {out : wd_Mem} (rec : Int32 → wd_Mem → Option (wd_Mem)) (k : wd_Mem → Option (wd_Mem)) (μ : wd_Mem) (x1 x2 x3 : Int32) (a : Nat) (hrec : ∀ (x3 : Int32) (ν : wd_Mem), rec x3 ν = some out → out a = ν a) (hk : ∀  (ν : wd_Mem), k ν = some out → out a = ν a) (ha : ¬ (a = 42 ∨ a = 43)) (h : X8_spans_c12 rec k μ x1 x2 x3 = some out) : out a = μ a := by
  unfold X8_spans_c12 at h
  by_cases c2 : (16 : Int32) < x3
  · have h := (if_pos c2).symm.trans h
    exact (hk _ h).trans rfl
  · have h := (if_neg c2).symm.trans h
    exact (f_X8_spans_l31 (fun x4 => X8_spans_b69 rec k μ x1 x2 x3 x4) μ x1 x2 x3 a  (fun x4 h => f_X8_spans_b69 rec k μ x1 x2 x3 x4 a hrec hk ha h) ha wd_big ((μ 31 1) * (x3 - x2)) (0 : Int32) h).trans rfl
theorem f_X8_spans_l12 {out : wd_Mem} (k : wd_Mem → Option (wd_Mem)) (x1 x2 : Int32) (a : Nat) (hk : ∀  (ν : wd_Mem), k ν = some out → out a = ν a) (ha : ¬ (a = 42 ∨ a = 43)) : ∀ (n : Nat) (x3 : Int32) (μ : wd_Mem), X8_spans_l12 k x1 x2 n x3 μ = some out → out a = μ a := by
  intro n
  induction n with
  | zero => intro x3 μ h; exact absurd h (by unfold X8_spans_l12; simp)
  | succ n ih =>
    intro x3 μ h
    exact f_X8_spans_c12 (X8_spans_l12 k x1 x2 n) k μ x1 x2 x3 a  (fun x3 μ h => ih x3 μ h) hk ha h
theorem f_X8_spans_b153 {out : wd_Mem} (rec : Int32 → wd_Mem → Option (wd_Mem)) (k : wd_Mem → Option (wd_Mem)) (μ : wd_Mem) (x1 x2 : Int32) (a : Nat) (hrec : ∀ (x2 : Int32) (ν : wd_Mem), rec x2 ν = some out → out a = ν a) (hk : ∀  (ν : wd_Mem), k ν = some out → out a = ν a) (ha : ¬ (a = 42 ∨ a = 43)) (h : X8_spans_b153 rec k μ x1 x2 = some out) : out a = μ a := by
  unfold X8_spans_b153 at h
  exact (hrec _ _ h).trans rfl
theorem f_X8_spans_c2 {out : wd_Mem} (rec : Int32 → wd_Mem → Option (wd_Mem)) (k : wd_Mem → Option (wd_Mem)) (μ : wd_Mem) (x1 x2 : Int32) (a : Nat) (hrec : ∀ (x2 : Int32) (ν : wd_Mem), rec x2 ν = some out → out a = ν a) (hk : ∀  (ν : wd_Mem), k ν = some out → out a = ν a) (ha : ¬ (a = 42 ∨ a = 43)) (h : X8_spans_c2 rec k μ x1 x2 = some out) : out a = μ a := by
  unfold X8_spans_c2 at h
  by_cases c1 : (16 : Int32) ≤ x2
  · have h := (if_pos c1).symm.trans h
    exact (hk _ h).trans rfl
  · have h := (if_neg c1).symm.trans h
    exact (f_X8_spans_l12 (fun μ => X8_spans_b153 rec k μ x1 x2) x1 x2 a  (fun μ h => f_X8_spans_b153 rec k μ x1 x2 a hrec hk ha h) ha wd_big (x2 + (1 : Int32)) μ h).trans rfl
theorem f_X8_spans_l2 {out : wd_Mem} (k : wd_Mem → Option (wd_Mem)) (x1 : Int32) (a : Nat) (hk : ∀  (ν : wd_Mem), k ν = some out → out a = ν a) (ha : ¬ (a = 42 ∨ a = 43)) : ∀ (n : Nat) (x2 : Int32) (μ : wd_Mem), X8_spans_l2 k x1 n x2 μ = some out → out a = μ a := by
  intro n
  induction n with
  | zero => intro x2 μ h; exact absurd h (by unfold X8_spans_l2; simp)
  | succ n ih =>
    intro x2 μ h
    exact f_X8_spans_c2 (X8_spans_l2 k x1 n) k μ x1 x2 a  (fun x2 μ h => ih x2 μ h) hk ha h
theorem f_X8_spans_b159 {out : wd_Mem} (μ : wd_Mem) (a : Nat)  (ha : ¬ (a = 42 ∨ a = 43)) (h : X8_spans_b159 μ = some out) : out a = μ a := by
  unfold X8_spans_b159 at h
  have e9 := Option.some.inj h
  subst e9
  exact rfl
theorem f_X8_spans_b0 {out : wd_Mem} (μ : wd_Mem) (x1 : Int32) (a : Nat)  (ha : ¬ (a = 42 ∨ a = 43)) (h : X8_spans_b0 μ x1 = some out) : out a = μ a := by
  unfold X8_spans_b0 at h
  exact (f_X8_spans_l2 (fun μ => X8_spans_b159 μ) x1 a  (fun μ h => f_X8_spans_b159 μ a  ha h) ha wd_big (0 : Int32) μ h).trans rfl
theorem fr_X8_spans {out : wd_Mem} {μ : wd_Mem} {x1 : Int32} (a : Nat)  (ha : ¬ (a = 42 ∨ a = 43)) (h : X8_spans μ x1 = some out) : out a = μ a := f_X8_spans_b0 μ x1 a  ha h
theorem f_X8_passes_b73 {out : wd_Mem} (rec : Int32 → wd_Mem → Option (wd_Mem)) (k : wd_Mem → Option (wd_Mem)) (μ : wd_Mem) (x1 x2 x3 s1 s2 : Int32) (a : Nat) (hrec : ∀ (x3 : Int32) (ν : wd_Mem), rec x3 ν = some out → out a = ν a) (hk : ∀  (ν : wd_Mem), k ν = some out → out a = ν a) (ha : ¬ (a = 34 ∨ a = 40 ∨ a = 41 ∨ a = 42 ∨ a = 43)) (h : X8_passes_b73 rec k μ x1 x2 x3 s1 s2 = some out) : out a = μ a := by
  unfold X8_passes_b73 at h
  obtain ⟨-, h⟩ := wd_chk_some h
  exact (hrec _ _ h).trans (wd_fr1 (by omega) rfl)
theorem f_X8_passes_b41 {out : wd_Mem} (rec : Int32 → wd_Mem → Option (wd_Mem)) (k : wd_Mem → Option (wd_Mem)) (μ : wd_Mem) (x1 x2 x3 s1 s2 : Int32) (a : Nat) (hrec : ∀ (x3 : Int32) (ν : wd_Mem), rec x3 ν = some out → out a = ν a) (hk : ∀  (ν : wd_Mem), k ν = some out → out a = ν a) (ha : ¬ (a = 34 ∨ a = 40 ∨ a = 41 ∨ a = 42 ∨ a = 43)) (h : X8_passes_b41 rec k μ x1 x2 x3 s1 s2 = some out) : out a = μ a := by
  unfold X8_passes_b41 at h
  obtain ⟨-, h⟩ := wd_chk_some h
  by_cases c3 : x2 = 0
  · have h := (if_pos c3).symm.trans h
    obtain ⟨-, h⟩ := wd_chk_some h
    exact (f_X8_passes_b73 rec k (mset μ 40 (Int32.toNatClampNeg s1) s2) x1 x2 x3 x3 (μ 34 (Int32.toNatClampNeg ((5 : Int32) + x3))) a hrec hk ha h).trans (wd_fr1 (by omega) rfl)
  · have h := (if_neg c3).symm.trans h
    obtain ⟨-, h⟩ := wd_chk_some h
    exact (f_X8_passes_b73 rec k (mset μ 40 (Int32.toNatClampNeg s1) s2) x1 x2 x3 x3 ((16 : Int32) - (μ 34 (Int32.toNatClampNeg ((0 : Int32) + x3)))) a hrec hk ha h).trans (wd_fr1 (by omega) rfl)
theorem f_X8_passes_c2 {out : wd_Mem} (rec : Int32 → wd_Mem → Option (wd_Mem)) (k : wd_Mem → Option (wd_Mem)) (μ : wd_Mem) (x1 x2 x3 : Int32) (a : Nat) (hrec : ∀ (x3 : Int32) (ν : wd_Mem), rec x3 ν = some out → out a = ν a) (hk : ∀  (ν : wd_Mem), k ν = some out → out a = ν a) (ha : ¬ (a = 34 ∨ a = 40 ∨ a = 41 ∨ a = 42 ∨ a = 43)) (h : X8_passes_c2 rec k μ x1 x2 x3 = some out) : out a = μ a := by
  unfold X8_passes_c2 at h
  by_cases c1 : (μ 31 0) ≤ x3
  · have h := (if_pos c1).symm.trans h
    exact (hk _ h).trans rfl
  · have h := (if_neg c1).symm.trans h
    by_cases c2 : x2 = 0
    · have h := (if_pos c2).symm.trans h
      obtain ⟨-, h⟩ := wd_chk_some h
      exact (f_X8_passes_b41 rec k μ x1 x2 x3 x3 (μ 34 (Int32.toNatClampNeg ((0 : Int32) + x3))) a hrec hk ha h).trans rfl
    · have h := (if_neg c2).symm.trans h
      obtain ⟨-, h⟩ := wd_chk_some h
      exact (f_X8_passes_b41 rec k μ x1 x2 x3 x3 ((16 : Int32) - (μ 34 (Int32.toNatClampNeg ((5 : Int32) + x3)))) a hrec hk ha h).trans rfl
theorem f_X8_passes_l2 {out : wd_Mem} (k : wd_Mem → Option (wd_Mem)) (x1 x2 : Int32) (a : Nat) (hk : ∀  (ν : wd_Mem), k ν = some out → out a = ν a) (ha : ¬ (a = 34 ∨ a = 40 ∨ a = 41 ∨ a = 42 ∨ a = 43)) : ∀ (n : Nat) (x3 : Int32) (μ : wd_Mem), X8_passes_l2 k x1 x2 n x3 μ = some out → out a = μ a := by
  intro n
  induction n with
  | zero => intro x3 μ h; exact absurd h (by unfold X8_passes_l2; simp)
  | succ n ih =>
    intro x3 μ h
    exact f_X8_passes_c2 (X8_passes_l2 k x1 x2 n) k μ x1 x2 x3 a  (fun x3 μ h => ih x3 μ h) hk ha h
theorem f_X8_passes_b157 {out : wd_Mem} (rec : Int32 → wd_Mem → Option (wd_Mem)) (k : wd_Mem → Option (wd_Mem)) (μ : wd_Mem) (x1 x2 x3 : Int32) (a : Nat) (hrec : ∀ (x3 : Int32) (ν : wd_Mem), rec x3 ν = some out → out a = ν a) (hk : ∀  (ν : wd_Mem), k ν = some out → out a = ν a) (ha : ¬ (a = 34 ∨ a = 40 ∨ a = 41 ∨ a = 42 ∨ a = 43)) (h : X8_passes_b157 rec k μ x1 x2 x3 = some out) : out a = μ a := by
  unfold X8_passes_b157 at h
  exact (hrec _ _ h).trans rfl
theorem f_X8_passes_c82 {out : wd_Mem} (rec : Int32 → wd_Mem → Option (wd_Mem)) (k : wd_Mem → Option (wd_Mem)) (μ : wd_Mem) (x1 x2 x3 : Int32) (a : Nat) (hrec : ∀ (x3 : Int32) (ν : wd_Mem), rec x3 ν = some out → out a = ν a) (hk : ∀  (ν : wd_Mem), k ν = some out → out a = ν a) (ha : ¬ (a = 34 ∨ a = 40 ∨ a = 41 ∨ a = 42 ∨ a = 43)) (h : X8_passes_c82 rec k μ x1 x2 x3 = some out) : out a = μ a := by
  unfold X8_passes_c82 at h
  by_cases c4 : (μ 31 0) ≤ x3
  · have h := (if_pos c4).symm.trans h
    exact (hk _ h).trans rfl
  · have h := (if_neg c4).symm.trans h
    obtain ⟨-, h⟩ := wd_chk_some h
    by_cases n103_0 : x1 = nI 0
    · have h := (if_pos n103_0).symm.trans h
      obtain ⟨r5, er5, h⟩ := wd_bind_some h
      have fr5 : r5 a = μ a := (fr_X8_musts a  (by omega) er5).trans (wd_fr1 (by omega) rfl)
      exact (f_X8_passes_b157 rec k r5 x1 x2 x3 a hrec hk ha h).trans fr5
    · have h := (if_neg n103_0).symm.trans h
      by_cases n103_1 : x1 = nI 1
      · have h := (if_pos n103_1).symm.trans h
        obtain ⟨r6, er6, h⟩ := wd_bind_some h
        have fr6 : r6 a = μ a := (fr_X8_edges a  (by omega) er6).trans (wd_fr1 (by omega) rfl)
        exact (f_X8_passes_b157 rec k r6 x1 x2 x3 a hrec hk ha h).trans fr6
      · have h := (if_neg n103_1).symm.trans h
        by_cases n103_2 : x1 = nI 2
        · have h := (if_pos n103_2).symm.trans h
          obtain ⟨r7, er7, h⟩ := wd_bind_some h
          have fr7 : r7 a = μ a := (fr_X8_firsts a  (by omega) er7).trans (wd_fr1 (by omega) rfl)
          exact (f_X8_passes_b157 rec k r7 x1 x2 x3 a hrec hk ha h).trans fr7
        · have h := (if_neg n103_2).symm.trans h
          obtain ⟨r8, er8, h⟩ := wd_bind_some h
          have fr8 : r8 a = μ a := (fr_X8_spans a  (by omega) er8).trans (wd_fr1 (by omega) rfl)
          exact (f_X8_passes_b157 rec k r8 x1 x2 x3 a hrec hk ha h).trans fr8
theorem f_X8_passes_l82 {out : wd_Mem} (k : wd_Mem → Option (wd_Mem)) (x1 x2 : Int32) (a : Nat) (hk : ∀  (ν : wd_Mem), k ν = some out → out a = ν a) (ha : ¬ (a = 34 ∨ a = 40 ∨ a = 41 ∨ a = 42 ∨ a = 43)) : ∀ (n : Nat) (x3 : Int32) (μ : wd_Mem), X8_passes_l82 k x1 x2 n x3 μ = some out → out a = μ a := by
  intro n
  induction n with
  | zero => intro x3 μ h; exact absurd h (by unfold X8_passes_l82; simp)
  | succ n ih =>
    intro x3 μ h
    exact f_X8_passes_c82 (X8_passes_l82 k x1 x2 n) k μ x1 x2 x3 a  (fun x3 μ h => ih x3 μ h) hk ha h
theorem f_X8_passes_b285 {out : wd_Mem} (rec : Int32 → wd_Mem → Option (wd_Mem)) (k : wd_Mem → Option (wd_Mem)) (μ : wd_Mem) (x1 x2 x3 : Int32) (a : Nat) (hrec : ∀ (x3 : Int32) (ν : wd_Mem), rec x3 ν = some out → out a = ν a) (hk : ∀  (ν : wd_Mem), k ν = some out → out a = ν a) (ha : ¬ (a = 34 ∨ a = 40 ∨ a = 41 ∨ a = 42 ∨ a = 43)) (h : X8_passes_b285 rec k μ x1 x2 x3 = some out) : out a = μ a := by
  unfold X8_passes_b285 at h
  exact (hrec _ _ h).trans rfl
theorem f_X8_passes_b251 {out : wd_Mem} (rec : Int32 → wd_Mem → Option (wd_Mem)) (k : wd_Mem → Option (wd_Mem)) (μ : wd_Mem) (x1 x2 x3 s1 s2 : Int32) (a : Nat) (hrec : ∀ (x3 : Int32) (ν : wd_Mem), rec x3 ν = some out → out a = ν a) (hk : ∀  (ν : wd_Mem), k ν = some out → out a = ν a) (ha : ¬ (a = 34 ∨ a = 40 ∨ a = 41 ∨ a = 42 ∨ a = 43)) (h : X8_passes_b251 rec k μ x1 x2 x3 s1 s2 = some out) : out a = μ a := by
  unfold X8_passes_b251 at h
  obtain ⟨-, h⟩ := wd_chk_some h
  obtain ⟨-, h⟩ := wd_chk_some h
  obtain ⟨-, h⟩ := wd_chk_some h
  obtain ⟨-, h⟩ := wd_chk_some h
  exact (f_X8_passes_b285 rec k (mset (mset (mset μ 34 (Int32.toNatClampNeg s1) s2) 34 (Int32.toNatClampNeg (((10 : Int32) + ((5 : Int32) * x2)) + x3)) x1) 34 (Int32.toNatClampNeg (((20 : Int32) + ((5 : Int32) * x2)) + x3)) (μ 43 (Int32.toNatClampNeg x3))) x1 x2 x3 a hrec hk ha h).trans (wd_fr1 (by omega) (wd_fr1 (by omega) (wd_fr1 (by omega) rfl)))
theorem f_X8_passes_b237 {out : wd_Mem} (rec : Int32 → wd_Mem → Option (wd_Mem)) (k : wd_Mem → Option (wd_Mem)) (μ : wd_Mem) (x1 x2 x3 x4 s1 : Int32) (a : Nat) (hrec : ∀ (x3 : Int32) (ν : wd_Mem), rec x3 ν = some out → out a = ν a) (hk : ∀  (ν : wd_Mem), k ν = some out → out a = ν a) (ha : ¬ (a = 34 ∨ a = 40 ∨ a = 41 ∨ a = 42 ∨ a = 43)) (h : X8_passes_b237 rec k μ x1 x2 x3 x4 s1 = some out) : out a = μ a := by
  unfold X8_passes_b237 at h
  by_cases c14 : x2 = 0
  · have h := (if_pos c14).symm.trans h
    exact (f_X8_passes_b251 rec k μ x1 x2 x3 s1 x4 a hrec hk ha h).trans rfl
  · have h := (if_neg c14).symm.trans h
    exact (f_X8_passes_b251 rec k μ x1 x2 x3 s1 ((16 : Int32) - x4) a hrec hk ha h).trans rfl
theorem f_X8_passes_b218 {out : wd_Mem} (rec : Int32 → wd_Mem → Option (wd_Mem)) (k : wd_Mem → Option (wd_Mem)) (μ : wd_Mem) (x1 x2 x3 s0 : Int32) (a : Nat) (hrec : ∀ (x3 : Int32) (ν : wd_Mem), rec x3 ν = some out → out a = ν a) (hk : ∀  (ν : wd_Mem), k ν = some out → out a = ν a) (ha : ¬ (a = 34 ∨ a = 40 ∨ a = 41 ∨ a = 42 ∨ a = 43)) (h : X8_passes_b218 rec k μ x1 x2 x3 s0 = some out) : out a = μ a := by
  unfold X8_passes_b218 at h
  by_cases c13 : x2 = 0
  · have h := (if_pos c13).symm.trans h
    exact (f_X8_passes_b237 rec k μ x1 x2 x3 s0 ((0 : Int32) + x3) a hrec hk ha h).trans rfl
  · have h := (if_neg c13).symm.trans h
    exact (f_X8_passes_b237 rec k μ x1 x2 x3 s0 ((5 : Int32) + x3) a hrec hk ha h).trans rfl
theorem f_X8_passes_c165 {out : wd_Mem} (rec : Int32 → wd_Mem → Option (wd_Mem)) (k : wd_Mem → Option (wd_Mem)) (μ : wd_Mem) (x1 x2 x3 : Int32) (a : Nat) (hrec : ∀ (x3 : Int32) (ν : wd_Mem), rec x3 ν = some out → out a = ν a) (hk : ∀  (ν : wd_Mem), k ν = some out → out a = ν a) (ha : ¬ (a = 34 ∨ a = 40 ∨ a = 41 ∨ a = 42 ∨ a = 43)) (h : X8_passes_c165 rec k μ x1 x2 x3 = some out) : out a = μ a := by
  unfold X8_passes_c165 at h
  by_cases c9 : (μ 31 0) ≤ x3
  · have h := (if_pos c9).symm.trans h
    exact (hk _ h).trans rfl
  · have h := (if_neg c9).symm.trans h
    obtain ⟨-, h⟩ := wd_chk_some h
    by_cases c10 : (μ 42 (Int32.toNatClampNeg x3)) ≤ (μ 40 (Int32.toNatClampNeg x3))
    · have h := (if_pos c10).symm.trans h
      exact (f_X8_passes_b285 rec k μ x1 x2 x3 a hrec hk ha h).trans rfl
    · have h := (if_neg c10).symm.trans h
      obtain ⟨r11, er11, h⟩ := wd_bind_some h
      by_cases c12 : (μ 42 (Int32.toNatClampNeg x3)) ≤ r11
      · have h := (if_pos c12).symm.trans h
        exact (f_X8_passes_b218 rec k μ x1 x2 x3 (μ 42 (Int32.toNatClampNeg x3)) a hrec hk ha h).trans rfl
      · have h := (if_neg c12).symm.trans h
        obtain ⟨r15, er15, h⟩ := wd_bind_some h
        exact (f_X8_passes_b218 rec k μ x1 x2 x3 (r15 + (1 : Int32)) a hrec hk ha h).trans rfl
theorem f_X8_passes_l165 {out : wd_Mem} (k : wd_Mem → Option (wd_Mem)) (x1 x2 : Int32) (a : Nat) (hk : ∀  (ν : wd_Mem), k ν = some out → out a = ν a) (ha : ¬ (a = 34 ∨ a = 40 ∨ a = 41 ∨ a = 42 ∨ a = 43)) : ∀ (n : Nat) (x3 : Int32) (μ : wd_Mem), X8_passes_l165 k x1 x2 n x3 μ = some out → out a = μ a := by
  intro n
  induction n with
  | zero => intro x3 μ h; exact absurd h (by unfold X8_passes_l165; simp)
  | succ n ih =>
    intro x3 μ h
    exact f_X8_passes_c165 (X8_passes_l165 k x1 x2 n) k μ x1 x2 x3 a  (fun x3 μ h => ih x3 μ h) hk ha h
theorem f_X8_passes_b291 {out : wd_Mem} (μ : wd_Mem) (a : Nat)  (ha : ¬ (a = 34 ∨ a = 40 ∨ a = 41 ∨ a = 42 ∨ a = 43)) (h : X8_passes_b291 μ = some out) : out a = μ a := by
  unfold X8_passes_b291 at h
  have e9 := Option.some.inj h
  subst e9
  exact rfl
theorem f_X8_passes_b163 {out : wd_Mem} (μ : wd_Mem) (x1 x2 : Int32) (a : Nat)  (ha : ¬ (a = 34 ∨ a = 40 ∨ a = 41 ∨ a = 42 ∨ a = 43)) (h : X8_passes_b163 μ x1 x2 = some out) : out a = μ a := by
  unfold X8_passes_b163 at h
  exact (f_X8_passes_l165 (fun μ => X8_passes_b291 μ) x1 x2 a  (fun μ h => f_X8_passes_b291 μ a  ha h) ha wd_big (0 : Int32) μ h).trans rfl
theorem f_X8_passes_b80 {out : wd_Mem} (μ : wd_Mem) (x1 x2 : Int32) (a : Nat)  (ha : ¬ (a = 34 ∨ a = 40 ∨ a = 41 ∨ a = 42 ∨ a = 43)) (h : X8_passes_b80 μ x1 x2 = some out) : out a = μ a := by
  unfold X8_passes_b80 at h
  exact (f_X8_passes_l82 (fun μ => X8_passes_b163 μ x1 x2) x1 x2 a  (fun μ h => f_X8_passes_b163 μ x1 x2 a  ha h) ha wd_big (0 : Int32) μ h).trans rfl
theorem f_X8_passes_b0 {out : wd_Mem} (μ : wd_Mem) (x1 x2 : Int32) (a : Nat)  (ha : ¬ (a = 34 ∨ a = 40 ∨ a = 41 ∨ a = 42 ∨ a = 43)) (h : X8_passes_b0 μ x1 x2 = some out) : out a = μ a := by
  unfold X8_passes_b0 at h
  exact (f_X8_passes_l2 (fun μ => X8_passes_b80 μ x1 x2) x1 x2 a  (fun μ h => f_X8_passes_b80 μ x1 x2 a  ha h) ha wd_big (0 : Int32) μ h).trans rfl
theorem fr_X8_passes {out : wd_Mem} {μ : wd_Mem} {x1 x2 : Int32} (a : Nat)  (ha : ¬ (a = 34 ∨ a = 40 ∨ a = 41 ∨ a = 42 ∨ a = 43)) (h : X8_passes μ x1 x2 = some out) : out a = μ a := f_X8_passes_b0 μ x1 x2 a  ha h
theorem f_X8_rules_b0 {out : wd_Mem} (μ : wd_Mem) (x1 : Int32) (a : Nat)  (ha : ¬ (a = 34 ∨ a = 40 ∨ a = 41 ∨ a = 42 ∨ a = 43)) (h : X8_rules_b0 μ x1 = some out) : out a = μ a := by
  unfold X8_rules_b0 at h
  obtain ⟨r1, er1, h⟩ := wd_bind_some h
  have fr1 : r1 a = μ a := (fr_X8_passes a  (by omega) er1).trans rfl
  obtain ⟨r2, er2, h⟩ := wd_bind_some h
  by_cases c3 : r2 = 0
  · have h := (if_pos c3).symm.trans h
    obtain ⟨r4, er4, h⟩ := wd_bind_some h
    have fr4 : r4 a = μ a := (fr_X8_passes a  (by omega) er4).trans fr1
    have e9 := Option.some.inj h
    subst e9
    exact fr4
  · have h := (if_neg c3).symm.trans h
    have e9 := Option.some.inj h
    subst e9
    exact fr1
theorem fr_X8_rules {out : wd_Mem} {μ : wd_Mem} {x1 : Int32} (a : Nat)  (ha : ¬ (a = 34 ∨ a = 40 ∨ a = 41 ∨ a = 42 ∨ a = 43)) (h : X8_rules μ x1 = some out) : out a = μ a := f_X8_rules_b0 μ x1 a  ha h
theorem f_X8_tightens_c27 {out : Int32 × wd_Mem} (rec : Int32 → wd_Mem → Option (Int32 × wd_Mem)) (k : wd_Mem → Option (Int32 × wd_Mem)) (μ : wd_Mem) (x1 x2 : Int32) (a : Nat) (hrec : ∀ (x2 : Int32) (ν : wd_Mem), rec x2 ν = some out → out.2 a = ν a) (hk : ∀  (ν : wd_Mem), k ν = some out → out.2 a = ν a) (ha : ¬ (a = 31 ∨ a = 34 ∨ a = 35 ∨ a = 40 ∨ a = 41 ∨ a = 42 ∨ a = 43 ∨ a = 44)) (h : X8_tightens_c27 rec k μ x1 x2 = some out) : out.2 a = μ a := by
  unfold X8_tightens_c27 at h
  by_cases c5 : (30 : Int32) ≤ x2
  · have h := (if_pos c5).symm.trans h
    exact (hk _ h).trans rfl
  · have h := (if_neg c5).symm.trans h
    obtain ⟨-, h⟩ := wd_chk_some h
    exact (hrec _ _ h).trans (wd_fr1 (by omega) rfl)
theorem f_X8_tightens_l27 {out : Int32 × wd_Mem} (k : wd_Mem → Option (Int32 × wd_Mem)) (x1 : Int32) (a : Nat) (hk : ∀  (ν : wd_Mem), k ν = some out → out.2 a = ν a) (ha : ¬ (a = 31 ∨ a = 34 ∨ a = 35 ∨ a = 40 ∨ a = 41 ∨ a = 42 ∨ a = 43 ∨ a = 44)) : ∀ (n : Nat) (x2 : Int32) (μ : wd_Mem), X8_tightens_l27 k x1 n x2 μ = some out → out.2 a = μ a := by
  intro n
  induction n with
  | zero => intro x2 μ h; exact absurd h (by unfold X8_tightens_l27; simp)
  | succ n ih =>
    intro x2 μ h
    exact f_X8_tightens_c27 (X8_tightens_l27 k x1 n) k μ x1 x2 a  (fun x2 μ h => ih x2 μ h) hk ha h
theorem f_X8_tightens_c91 {out : Int32 × wd_Mem} (rec : Int32 → wd_Mem → Option (Int32 × wd_Mem)) (k : wd_Mem → Option (Int32 × wd_Mem)) (μ : wd_Mem) (x2 x3 : Int32) (a : Nat) (hrec : ∀ (x3 : Int32) (ν : wd_Mem), rec x3 ν = some out → out.2 a = ν a) (hk : ∀  (ν : wd_Mem), k ν = some out → out.2 a = ν a) (ha : ¬ (a = 31 ∨ a = 34 ∨ a = 35 ∨ a = 40 ∨ a = 41 ∨ a = 42 ∨ a = 43 ∨ a = 44)) (h : X8_tightens_c91 rec k μ x2 x3 = some out) : out.2 a = μ a := by
  unfold X8_tightens_c91 at h
  by_cases c12 : (4 : Int32) ≤ x3
  · have h := (if_pos c12).symm.trans h
    exact (hk _ h).trans rfl
  · have h := (if_neg c12).symm.trans h
    obtain ⟨r13, er13, h⟩ := wd_bind_some h
    by_cases c14 : r13 = 0
    · have h := (if_pos c14).symm.trans h
      obtain ⟨r15, er15, h⟩ := wd_bind_some h
      have fr15 : r15 a = μ a := (fr_X8_rules a  (by omega) er15).trans rfl
      exact (hrec _ _ h).trans fr15
    · have h := (if_neg c14).symm.trans h
      exact (hk _ h).trans rfl
theorem f_X8_tightens_l91 {out : Int32 × wd_Mem} (k : wd_Mem → Option (Int32 × wd_Mem)) (x2 : Int32) (a : Nat) (hk : ∀  (ν : wd_Mem), k ν = some out → out.2 a = ν a) (ha : ¬ (a = 31 ∨ a = 34 ∨ a = 35 ∨ a = 40 ∨ a = 41 ∨ a = 42 ∨ a = 43 ∨ a = 44)) : ∀ (n : Nat) (x3 : Int32) (μ : wd_Mem), X8_tightens_l91 k x2 n x3 μ = some out → out.2 a = μ a := by
  intro n
  induction n with
  | zero => intro x3 μ h; exact absurd h (by unfold X8_tightens_l91; simp)
  | succ n ih =>
    intro x3 μ h
    exact f_X8_tightens_c91 (X8_tightens_l91 k x2 n) k μ x2 x3 a  (fun x3 μ h => ih x3 μ h) hk ha h
theorem f_X8_tightens_b114 {out : Int32 × wd_Mem} (rec : Int32 → wd_Mem → Option (Int32 × wd_Mem)) (k : wd_Mem → Option (Int32 × wd_Mem)) (μ : wd_Mem) (x2 : Int32) (a : Nat) (hrec : ∀ (x2 : Int32) (ν : wd_Mem), rec x2 ν = some out → out.2 a = ν a) (hk : ∀  (ν : wd_Mem), k ν = some out → out.2 a = ν a) (ha : ¬ (a = 31 ∨ a = 34 ∨ a = 35 ∨ a = 40 ∨ a = 41 ∨ a = 42 ∨ a = 43 ∨ a = 44)) (h : X8_tightens_b114 rec k μ x2 = some out) : out.2 a = μ a := by
  unfold X8_tightens_b114 at h
  exact (hrec _ _ h).trans rfl
theorem f_X8_tightens_c69 {out : Int32 × wd_Mem} (rec : Int32 → wd_Mem → Option (Int32 × wd_Mem)) (k : wd_Mem → Option (Int32 × wd_Mem)) (μ : wd_Mem) (x2 : Int32) (a : Nat) (hrec : ∀ (x2 : Int32) (ν : wd_Mem), rec x2 ν = some out → out.2 a = ν a) (hk : ∀  (ν : wd_Mem), k ν = some out → out.2 a = ν a) (ha : ¬ (a = 31 ∨ a = 34 ∨ a = 35 ∨ a = 40 ∨ a = 41 ∨ a = 42 ∨ a = 43 ∨ a = 44)) (h : X8_tightens_c69 rec k μ x2 = some out) : out.2 a = μ a := by
  unfold X8_tightens_c69 at h
  obtain ⟨r7, er7, h⟩ := wd_bind_some h
  by_cases c8 : r7 = x2
  · have h := (if_pos c8).symm.trans h
    exact (hk _ h).trans rfl
  · have h := (if_neg c8).symm.trans h
    obtain ⟨r9, er9, h⟩ := wd_bind_some h
    by_cases c10 : r9 = 0
    · have h := (if_pos c10).symm.trans h
      obtain ⟨r11, er11, h⟩ := wd_bind_some h
      exact (f_X8_tightens_l91 (fun μ => X8_tightens_b114 rec k μ r11) r11 a  (fun μ h => f_X8_tightens_b114 rec k μ r11 a hrec hk ha h) ha wd_big (0 : Int32) μ h).trans rfl
    · have h := (if_neg c10).symm.trans h
      exact (hk _ h).trans rfl
theorem f_X8_tightens_l69 {out : Int32 × wd_Mem} (k : wd_Mem → Option (Int32 × wd_Mem)) (a : Nat) (hk : ∀  (ν : wd_Mem), k ν = some out → out.2 a = ν a) (ha : ¬ (a = 31 ∨ a = 34 ∨ a = 35 ∨ a = 40 ∨ a = 41 ∨ a = 42 ∨ a = 43 ∨ a = 44)) : ∀ (n : Nat) (x2 : Int32) (μ : wd_Mem), X8_tightens_l69 k n x2 μ = some out → out.2 a = μ a := by
  intro n
  induction n with
  | zero => intro x2 μ h; exact absurd h (by unfold X8_tightens_l69; simp)
  | succ n ih =>
    intro x2 μ h
    exact f_X8_tightens_c69 (X8_tightens_l69 k n) k μ x2 a  (fun x2 μ h => ih x2 μ h) hk ha h
theorem f_X8_tightens_b117 {out : Int32 × wd_Mem} (μ : wd_Mem) (a : Nat)  (ha : ¬ (a = 31 ∨ a = 34 ∨ a = 35 ∨ a = 40 ∨ a = 41 ∨ a = 42 ∨ a = 43 ∨ a = 44)) (h : X8_tightens_b117 μ = some out) : out.2 a = μ a := by
  unfold X8_tightens_b117 at h
  obtain ⟨r16, er16, h⟩ := wd_bind_some h
  have e9 := Option.some.inj h
  subst e9
  exact rfl
theorem f_X8_tightens_b51 {out : Int32 × wd_Mem} (μ : wd_Mem) (x1 : Int32) (a : Nat)  (ha : ¬ (a = 31 ∨ a = 34 ∨ a = 35 ∨ a = 40 ∨ a = 41 ∨ a = 42 ∨ a = 43 ∨ a = 44)) (h : X8_tightens_b51 μ x1 = some out) : out.2 a = μ a := by
  unfold X8_tightens_b51 at h
  by_cases c6 : (4 : Int32) ≤ x1
  · have h := (if_pos c6).symm.trans h
    exact (f_X8_tightens_l69 (fun μ => X8_tightens_b117 μ) a  (fun μ h => f_X8_tightens_b117 μ a  ha h) ha wd_big (-99 : Int32) μ h).trans rfl
  · have h := (if_neg c6).symm.trans h
    obtain ⟨r17, er17, h⟩ := wd_bind_some h
    have fr17 : r17 a = μ a := (fr_X8_rules a  (by omega) er17).trans rfl
    obtain ⟨r18, er18, h⟩ := wd_bind_some h
    have e9 := Option.some.inj h
    subst e9
    exact fr17
theorem f_X8_tightens_b0 {out : Int32 × wd_Mem} (μ : wd_Mem) (x1 : Int32) (a : Nat)  (ha : ¬ (a = 31 ∨ a = 34 ∨ a = 35 ∨ a = 40 ∨ a = 41 ∨ a = 42 ∨ a = 43 ∨ a = 44)) (h : X8_tightens_b0 μ x1 = some out) : out.2 a = μ a := by
  unfold X8_tightens_b0 at h
  by_cases c1 : (X8_in μ x1 (0 : Int32) (4 : Int32)) = 0
  · have h := (if_pos c1).symm.trans h
    have e9 := Option.some.inj h
    subst e9
    exact rfl
  · have h := (if_neg c1).symm.trans h
    obtain ⟨r2, er2, h⟩ := wd_bind_some h
    by_cases c3 : r2 = 0
    · have h := (if_pos c3).symm.trans h
      obtain ⟨r4, er4, h⟩ := wd_bind_some h
      have fr4 : r4 a = μ a := (fr_X8_remember a  (by omega) er4).trans rfl
      exact (f_X8_tightens_l27 (fun μ => X8_tightens_b51 μ x1) x1 a  (fun μ h => f_X8_tightens_b51 μ x1 a  ha h) ha wd_big (0 : Int32) r4 h).trans fr4
    · have h := (if_neg c3).symm.trans h
      have e9 := Option.some.inj h
      subst e9
      exact rfl
theorem fr_X8_tightens {out : Int32 × wd_Mem} {μ : wd_Mem} {x1 : Int32} (a : Nat)  (ha : ¬ (a = 31 ∨ a = 34 ∨ a = 35 ∨ a = 40 ∨ a = 41 ∨ a = 42 ∨ a = 43 ∨ a = 44)) (h : X8_tightens μ x1 = some out) : out.2 a = μ a := f_X8_tightens_b0 μ x1 a  ha h
theorem f_X8_puts_b27 {out : Int32 × wd_Mem} (μ : wd_Mem) (a : Nat)  (ha : ¬ (a = 31 ∨ a = 34 ∨ a = 35)) (h : X8_puts_b27 μ = some out) : out.2 a = μ a := by
  unfold X8_puts_b27 at h
  have e9 := Option.some.inj h
  subst e9
  exact rfl
theorem f_X8_puts_b134 {out : Int32 × wd_Mem} (μ : wd_Mem) (a : Nat)  (ha : ¬ (a = 31 ∨ a = 34 ∨ a = 35)) (h : X8_puts_b134 μ = some out) : out.2 a = μ a := by
  unfold X8_puts_b134 at h
  have e9 := Option.some.inj h
  subst e9
  exact rfl
theorem f_X8_puts_b120 {out : Int32 × wd_Mem} (μ : wd_Mem) (x1 x2 x3 x4 x5 s0 : Int32) (a : Nat)  (ha : ¬ (a = 31 ∨ a = 34 ∨ a = 35)) (h : X8_puts_b120 μ x1 x2 x3 x4 x5 s0 = some out) : out.2 a = μ a := by
  unfold X8_puts_b120 at h
  obtain ⟨r8, er8, h⟩ := wd_bind_some h
  by_cases c9 : r8 = 0
  · have h := (if_pos c9).symm.trans h
    by_cases c10 : s0 = 0
    · have h := (if_pos c10).symm.trans h
      exact (f_X8_puts_b134 μ a  ha h).trans rfl
    · have h := (if_neg c10).symm.trans h
      obtain ⟨r11, er11, h⟩ := wd_bind_some h
      have fr11 : r11 a = μ a := (fr_X8_remember a  (by omega) er11).trans rfl
      obtain ⟨-, h⟩ := wd_chk_some h
      obtain ⟨-, h⟩ := wd_chk_some h
      obtain ⟨-, h⟩ := wd_chk_some h
      have e9 := Option.some.inj h
      subst e9
      exact (wd_fr1 (by omega) (wd_fr1 (by omega) (wd_fr1 (by omega) fr11)))
  · have h := (if_neg c9).symm.trans h
    exact (f_X8_puts_b134 μ a  ha h).trans rfl
theorem f_X8_puts_b119 {out : Int32 × wd_Mem} (μ : wd_Mem) (x1 x2 x3 x4 x5 : Int32) (a : Nat)  (ha : ¬ (a = 31 ∨ a = 34 ∨ a = 35)) (h : X8_puts_b119 μ x1 x2 x3 x4 x5 = some out) : out.2 a = μ a := by
  unfold X8_puts_b119 at h
  exact (f_X8_puts_b120 μ x1 x2 x3 x4 x5 (0 : Int32) a  ha h).trans rfl
theorem f_X8_puts_b86 {out : Int32 × wd_Mem} (μ : wd_Mem) (x1 x2 x3 x4 x5 : Int32) (a : Nat)  (ha : ¬ (a = 31 ∨ a = 34 ∨ a = 35)) (h : X8_puts_b86 μ x1 x2 x3 x4 x5 = some out) : out.2 a = μ a := by
  unfold X8_puts_b86 at h
  exact (f_X8_puts_b120 μ x1 x2 x3 x4 x5 (0 : Int32) a  ha h).trans rfl
theorem f_X8_puts_b42 {out : Int32 × wd_Mem} (μ : wd_Mem) (x1 x2 x3 s0 : Int32) (a : Nat)  (ha : ¬ (a = 31 ∨ a = 34 ∨ a = 35)) (h : X8_puts_b42 μ x1 x2 x3 s0 = some out) : out.2 a = μ a := by
  unfold X8_puts_b42 at h
  obtain ⟨-, h⟩ := wd_chk_some h
  by_cases c6 : x2 = 0
  · have h := (if_pos c6).symm.trans h
    by_cases c13 : x3 ≤ (μ 34 (Int32.toNatClampNeg s0))
    · have h := (if_pos c13).symm.trans h
      exact (f_X8_puts_b86 μ x1 x2 x3 s0 (μ 34 (Int32.toNatClampNeg s0)) a  ha h).trans rfl
    · have h := (if_neg c13).symm.trans h
      obtain ⟨-, h⟩ := wd_chk_some h
      obtain ⟨-, h⟩ := wd_chk_some h
      by_cases c14 : (μ 34 (Int32.toNatClampNeg ((5 : Int32) + x1))) < (x3 + (μ 32 (Int32.toNatClampNeg x1)))
      · have h := (if_pos c14).symm.trans h
        exact (f_X8_puts_b86 μ x1 x2 x3 s0 (μ 34 (Int32.toNatClampNeg s0)) a  ha h).trans rfl
      · have h := (if_neg c14).symm.trans h
        exact (f_X8_puts_b120 μ x1 x2 x3 s0 (μ 34 (Int32.toNatClampNeg s0)) (1 : Int32) a  ha h).trans rfl
  · have h := (if_neg c6).symm.trans h
    by_cases c7 : (μ 34 (Int32.toNatClampNeg s0)) ≤ x3
    · have h := (if_pos c7).symm.trans h
      exact (f_X8_puts_b119 μ x1 x2 x3 s0 (μ 34 (Int32.toNatClampNeg s0)) a  ha h).trans rfl
    · have h := (if_neg c7).symm.trans h
      obtain ⟨-, h⟩ := wd_chk_some h
      obtain ⟨-, h⟩ := wd_chk_some h
      by_cases c12 : x3 < ((μ 34 (Int32.toNatClampNeg ((0 : Int32) + x1))) + (μ 32 (Int32.toNatClampNeg x1)))
      · have h := (if_pos c12).symm.trans h
        exact (f_X8_puts_b119 μ x1 x2 x3 s0 (μ 34 (Int32.toNatClampNeg s0)) a  ha h).trans rfl
      · have h := (if_neg c12).symm.trans h
        exact (f_X8_puts_b120 μ x1 x2 x3 s0 (μ 34 (Int32.toNatClampNeg s0)) (1 : Int32) a  ha h).trans rfl
theorem f_X8_puts_b0 {out : Int32 × wd_Mem} (μ : wd_Mem) (x1 x2 x3 : Int32) (a : Nat)  (ha : ¬ (a = 31 ∨ a = 34 ∨ a = 35)) (h : X8_puts_b0 μ x1 x2 x3 = some out) : out.2 a = μ a := by
  unfold X8_puts_b0 at h
  obtain ⟨r1, er1, h⟩ := wd_bind_some h
  by_cases c2 : r1 = 0
  · have h := (if_pos c2).symm.trans h
    exact (f_X8_puts_b27 μ a  ha h).trans rfl
  · have h := (if_neg c2).symm.trans h
    by_cases c3 : (X8_in μ x2 (0 : Int32) (1 : Int32)) = 0
    · have h := (if_pos c3).symm.trans h
      exact (f_X8_puts_b27 μ a  ha h).trans rfl
    · have h := (if_neg c3).symm.trans h
      by_cases c4 : (X8_in μ x3 (0 : Int32) (16 : Int32)) = 0
      · have h := (if_pos c4).symm.trans h
        exact (f_X8_puts_b27 μ a  ha h).trans rfl
      · have h := (if_neg c4).symm.trans h
        by_cases c5 : x2 = 0
        · have h := (if_pos c5).symm.trans h
          exact (f_X8_puts_b42 μ x1 x2 x3 ((0 : Int32) + x1) a  ha h).trans rfl
        · have h := (if_neg c5).symm.trans h
          exact (f_X8_puts_b42 μ x1 x2 x3 ((5 : Int32) + x1) a  ha h).trans rfl
theorem fr_X8_puts {out : Int32 × wd_Mem} {μ : wd_Mem} {x1 x2 x3 : Int32} (a : Nat)  (ha : ¬ (a = 31 ∨ a = 34 ∨ a = 35)) (h : X8_puts μ x1 x2 x3 = some out) : out.2 a = μ a := f_X8_puts_b0 μ x1 x2 x3 a  ha h
theorem f_X8_undo_c38 {out : Int32 × wd_Mem} (rec : Int32 → wd_Mem → Option (Int32 × wd_Mem)) (k : wd_Mem → Option (Int32 × wd_Mem)) (μ : wd_Mem) (x1 : Int32) (a : Nat) (hrec : ∀ (x1 : Int32) (ν : wd_Mem), rec x1 ν = some out → out.2 a = ν a) (hk : ∀  (ν : wd_Mem), k ν = some out → out.2 a = ν a) (ha : ¬ (a = 31 ∨ a = 34)) (h : X8_undo_c38 rec k μ x1 = some out) : out.2 a = μ a := by
  unfold X8_undo_c38 at h
  by_cases c2 : (30 : Int32) ≤ x1
  · have h := (if_pos c2).symm.trans h
    exact (hk _ h).trans rfl
  · have h := (if_neg c2).symm.trans h
    obtain ⟨-, h⟩ := wd_chk_some h
    obtain ⟨-, h⟩ := wd_chk_some h
    exact (hrec _ _ h).trans (wd_fr1 (by omega) rfl)
theorem f_X8_undo_l38 {out : Int32 × wd_Mem} (k : wd_Mem → Option (Int32 × wd_Mem)) (a : Nat) (hk : ∀  (ν : wd_Mem), k ν = some out → out.2 a = ν a) (ha : ¬ (a = 31 ∨ a = 34)) : ∀ (n : Nat) (x1 : Int32) (μ : wd_Mem), X8_undo_l38 k n x1 μ = some out → out.2 a = μ a := by
  intro n
  induction n with
  | zero => intro x1 μ h; exact absurd h (by unfold X8_undo_l38; simp)
  | succ n ih =>
    intro x1 μ h
    exact f_X8_undo_c38 (X8_undo_l38 k n) k μ x1 a  (fun x1 μ h => ih x1 μ h) hk ha h
theorem f_X8_undo_b70 {out : Int32 × wd_Mem} (μ : wd_Mem) (a : Nat)  (ha : ¬ (a = 31 ∨ a = 34)) (h : X8_undo_b70 μ = some out) : out.2 a = μ a := by
  unfold X8_undo_b70 at h
  have e9 := Option.some.inj h
  subst e9
  exact rfl
theorem f_X8_undo_b0 {out : Int32 × wd_Mem} (μ : wd_Mem) (a : Nat)  (ha : ¬ (a = 31 ∨ a = 34)) (h : X8_undo_b0 μ = some out) : out.2 a = μ a := by
  unfold X8_undo_b0 at h
  by_cases c1 : (μ 31 5) = 0
  · have h := (if_pos c1).symm.trans h
    have e9 := Option.some.inj h
    subst e9
    exact rfl
  · have h := (if_neg c1).symm.trans h
    obtain ⟨-, h⟩ := wd_chk_some h
    exact (f_X8_undo_l38 (fun μ => X8_undo_b70 μ) a  (fun μ h => f_X8_undo_b70 μ a  ha h) ha wd_big (0 : Int32) (mset (mset μ 31 6 ((((μ 31 6) + (10 : Int32)) - (1 : Int32)) - (((μ 31 6) + (10 : Int32)) - (1 : Int32)) / (10 : Int32) * (10 : Int32))) 31 5 ((μ 31 5) - (1 : Int32))) h).trans (wd_fr1 (by omega) (wd_fr1 (by omega) rfl))
theorem fr_X8_undo {out : Int32 × wd_Mem} {μ : wd_Mem} (a : Nat)  (ha : ¬ (a = 31 ∨ a = 34)) (h : X8_undo μ = some out) : out.2 a = μ a := f_X8_undo_b0 μ  a  ha h
theorem f_X8_plain_c2 {out : wd_Mem} (rec : Int32 → wd_Mem → Option (wd_Mem)) (k : wd_Mem → Option (wd_Mem)) (μ : wd_Mem) (x1 : Int32) (a : Nat) (hrec : ∀ (x1 : Int32) (ν : wd_Mem), rec x1 ν = some out → out a = ν a) (hk : ∀  (ν : wd_Mem), k ν = some out → out a = ν a) (ha : ¬ (a = 47)) (h : X8_plain_c2 rec k μ x1 = some out) : out a = μ a := by
  unfold X8_plain_c2 at h
  by_cases c1 : (μ 31 0) ≤ x1
  · have h := (if_pos c1).symm.trans h
    exact (hk _ h).trans rfl
  · have h := (if_neg c1).symm.trans h
    obtain ⟨-, h⟩ := wd_chk_some h
    exact (hrec _ _ h).trans (wd_fr1 (by omega) rfl)
theorem f_X8_plain_l2 {out : wd_Mem} (k : wd_Mem → Option (wd_Mem)) (a : Nat) (hk : ∀  (ν : wd_Mem), k ν = some out → out a = ν a) (ha : ¬ (a = 47)) : ∀ (n : Nat) (x1 : Int32) (μ : wd_Mem), X8_plain_l2 k n x1 μ = some out → out a = μ a := by
  intro n
  induction n with
  | zero => intro x1 μ h; exact absurd h (by unfold X8_plain_l2; simp)
  | succ n ih =>
    intro x1 μ h
    exact f_X8_plain_c2 (X8_plain_l2 k n) k μ x1 a  (fun x1 μ h => ih x1 μ h) hk ha h
theorem f_X8_plain_b28 {out : wd_Mem} (μ : wd_Mem) (a : Nat)  (ha : ¬ (a = 47)) (h : X8_plain_b28 μ = some out) : out a = μ a := by
  unfold X8_plain_b28 at h
  have e9 := Option.some.inj h
  subst e9
  exact rfl
theorem f_X8_plain_b0 {out : wd_Mem} (μ : wd_Mem) (a : Nat)  (ha : ¬ (a = 47)) (h : X8_plain_b0 μ = some out) : out a = μ a := by
  unfold X8_plain_b0 at h
  exact (f_X8_plain_l2 (fun μ => X8_plain_b28 μ) a  (fun μ h => f_X8_plain_b28 μ a  ha h) ha wd_big (0 : Int32) μ h).trans rfl
theorem fr_X8_plain {out : wd_Mem} {μ : wd_Mem} (a : Nat)  (ha : ¬ (a = 47)) (h : X8_plain μ = some out) : out a = μ a := f_X8_plain_b0 μ  a  ha h
theorem f_X8_runs_c7 {out : wd_Mem} (rec : Int32 → wd_Mem → Option (wd_Mem)) (k : wd_Mem → Option (wd_Mem)) (μ : wd_Mem) (x1 x2 x3 : Int32) (a : Nat) (hrec : ∀ (x3 : Int32) (ν : wd_Mem), rec x3 ν = some out → out a = ν a) (hk : ∀  (ν : wd_Mem), k ν = some out → out a = ν a) (ha : ¬ (a = 46)) (h : X8_runs_c7 rec k μ x1 x2 x3 = some out) : out a = μ a := by
  unfold X8_runs_c7 at h
  obtain ⟨-, h⟩ := wd_chk_some h
  by_cases c1 : ((μ 45 (Int32.toNatClampNeg x1)) + (μ 32 (Int32.toNatClampNeg x1))) ≤ x3
  · have h := (if_pos c1).symm.trans h
    exact (hk _ h).trans rfl
  · have h := (if_neg c1).symm.trans h
    obtain ⟨-, h⟩ := wd_chk_some h
    exact (hrec _ _ h).trans (wd_fr1 (by omega) rfl)
theorem f_X8_runs_l7 {out : wd_Mem} (k : wd_Mem → Option (wd_Mem)) (x1 x2 : Int32) (a : Nat) (hk : ∀  (ν : wd_Mem), k ν = some out → out a = ν a) (ha : ¬ (a = 46)) : ∀ (n : Nat) (x3 : Int32) (μ : wd_Mem), X8_runs_l7 k x1 x2 n x3 μ = some out → out a = μ a := by
  intro n
  induction n with
  | zero => intro x3 μ h; exact absurd h (by unfold X8_runs_l7; simp)
  | succ n ih =>
    intro x3 μ h
    exact f_X8_runs_c7 (X8_runs_l7 k x1 x2 n) k μ x1 x2 x3 a  (fun x3 μ h => ih x3 μ h) hk ha h
theorem f_X8_runs_b47 {out : wd_Mem} (μ : wd_Mem) (a : Nat)  (ha : ¬ (a = 46)) (h : X8_runs_b47 μ = some out) : out a = μ a := by
  unfold X8_runs_b47 at h
  have e9 := Option.some.inj h
  subst e9
  exact rfl
theorem f_X8_runs_b0 {out : wd_Mem} (μ : wd_Mem) (x1 x2 : Int32) (a : Nat)  (ha : ¬ (a = 46)) (h : X8_runs_b0 μ x1 x2 = some out) : out a = μ a := by
  unfold X8_runs_b0 at h
  obtain ⟨-, h⟩ := wd_chk_some h
  exact (f_X8_runs_l7 (fun μ => X8_runs_b47 μ) x1 x2 a  (fun μ h => f_X8_runs_b47 μ a  ha h) ha wd_big (μ 45 (Int32.toNatClampNeg x1)) μ h).trans rfl
theorem fr_X8_runs {out : wd_Mem} {μ : wd_Mem} {x1 x2 : Int32} (a : Nat)  (ha : ¬ (a = 46)) (h : X8_runs μ x1 x2 = some out) : out a = μ a := f_X8_runs_b0 μ x1 x2 a  ha h
theorem f_X8_schedules_c3 {out : Int32 × wd_Mem} (rec : Int32 → wd_Mem → Option (Int32 × wd_Mem)) (k : wd_Mem → Option (Int32 × wd_Mem)) (μ : wd_Mem) (x1 x2 x3 x4 x5 : Int32) (a : Nat) (hrec : ∀ (x5 : Int32) (ν : wd_Mem), rec x5 ν = some out → out.2 a = ν a) (hk : ∀  (ν : wd_Mem), k ν = some out → out.2 a = ν a) (ha : ¬ (a = 45 ∨ a = 46)) (h : X8_schedules_c3 rec k μ x1 x2 x3 x4 x5 = some out) : out.2 a = μ a := by
  unfold X8_schedules_c3 at h
  by_cases c1 : (16 : Int32) ≤ x5
  · have h := (if_pos c1).symm.trans h
    exact (hk _ h).trans rfl
  · have h := (if_neg c1).symm.trans h
    obtain ⟨-, h⟩ := wd_chk_some h
    exact (hrec _ _ h).trans (wd_fr1 (by omega) rfl)
theorem f_X8_schedules_l3 {out : Int32 × wd_Mem} (k : wd_Mem → Option (Int32 × wd_Mem)) (x1 x2 x3 x4 : Int32) (a : Nat) (hk : ∀  (ν : wd_Mem), k ν = some out → out.2 a = ν a) (ha : ¬ (a = 45 ∨ a = 46)) : ∀ (n : Nat) (x5 : Int32) (μ : wd_Mem), X8_schedules_l3 k x1 x2 x3 x4 n x5 μ = some out → out.2 a = μ a := by
  intro n
  induction n with
  | zero => intro x5 μ h; exact absurd h (by unfold X8_schedules_l3; simp)
  | succ n ih =>
    intro x5 μ h
    exact f_X8_schedules_c3 (X8_schedules_l3 k x1 x2 x3 x4 n) k μ x1 x2 x3 x4 x5 a  (fun x5 μ h => ih x5 μ h) hk ha h
theorem f_X8_schedules_b213 {out : Int32 × wd_Mem} (rec : Int32 → Int32 → wd_Mem → Option (Int32 × wd_Mem)) (k : Int32 → wd_Mem → Option (Int32 × wd_Mem)) (μ : wd_Mem) (x1 x2 x3 x4 x5 x6 : Int32) (a : Nat) (hrec : ∀ (x5 x6 : Int32) (ν : wd_Mem), rec x5 x6 ν = some out → out.2 a = ν a) (hk : ∀ (x5 : Int32) (ν : wd_Mem), k x5 ν = some out → out.2 a = ν a) (ha : ¬ (a = 45 ∨ a = 46)) (h : X8_schedules_b213 rec k μ x1 x2 x3 x4 x5 x6 = some out) : out.2 a = μ a := by
  unfold X8_schedules_b213 at h
  exact (hrec _ _ _ h).trans rfl
theorem f_X8_schedules_b153 {out : Int32 × wd_Mem} (rec : Int32 → Int32 → wd_Mem → Option (Int32 × wd_Mem)) (k : Int32 → wd_Mem → Option (Int32 × wd_Mem)) (μ : wd_Mem) (x1 x2 x3 x4 x5 x6 : Int32) (a : Nat) (hrec : ∀ (x5 x6 : Int32) (ν : wd_Mem), rec x5 x6 ν = some out → out.2 a = ν a) (hk : ∀ (x5 : Int32) (ν : wd_Mem), k x5 ν = some out → out.2 a = ν a) (ha : ¬ (a = 45 ∨ a = 46)) (h : X8_schedules_b153 rec k μ x1 x2 x3 x4 x5 x6 = some out) : out.2 a = μ a := by
  unfold X8_schedules_b153 at h
  obtain ⟨r7, er7, h⟩ := wd_bind_some h
  by_cases c8 : r7 = 0
  · have h := (if_pos c8).symm.trans h
    exact (f_X8_schedules_b213 rec k μ x1 x2 x3 x4 x5 x6 a hrec hk ha h).trans rfl
  · have h := (if_neg c8).symm.trans h
    by_cases c9 : x6 = ((μ 31 0) - (1 : Int32))
    · have h := (if_pos c9).symm.trans h
      by_cases c11 : (x5 + (1 : Int32)) = x1
      · have h := (if_pos c11).symm.trans h
        have e9 := Option.some.inj h
        subst e9
        exact rfl
      · have h := (if_neg c11).symm.trans h
        exact (f_X8_schedules_b213 rec k μ x1 x2 x3 x4 (x5 + (1 : Int32)) x6 a hrec hk ha h).trans rfl
    · have h := (if_neg c9).symm.trans h
      obtain ⟨r10, er10, h⟩ := wd_bind_some h
      have fr10 : r10 a = μ a := (fr_X8_runs a  (by omega) er10).trans rfl
      obtain ⟨-, h⟩ := wd_chk_some h
      obtain ⟨-, h⟩ := wd_chk_some h
      exact (f_X8_schedules_b213 rec k (mset r10 45 (Int32.toNatClampNeg (x6 + (1 : Int32))) ((r10 34 (Int32.toNatClampNeg ((0 : Int32) + (x6 + (1 : Int32))))) - (1 : Int32))) x1 x2 x3 x4 x5 (x6 + (1 : Int32)) a hrec hk ha h).trans (wd_fr1 (by omega) fr10)
theorem f_X8_schedules_b95 {out : Int32 × wd_Mem} (rec : Int32 → Int32 → wd_Mem → Option (Int32 × wd_Mem)) (k : Int32 → wd_Mem → Option (Int32 × wd_Mem)) (μ : wd_Mem) (x1 x2 x3 x4 x5 x6 s0 : Int32) (a : Nat) (hrec : ∀ (x5 x6 : Int32) (ν : wd_Mem), rec x5 x6 ν = some out → out.2 a = ν a) (hk : ∀ (x5 : Int32) (ν : wd_Mem), k x5 ν = some out → out.2 a = ν a) (ha : ¬ (a = 45 ∨ a = 46)) (h : X8_schedules_b95 rec k μ x1 x2 x3 x4 x5 x6 s0 = some out) : out.2 a = μ a := by
  unfold X8_schedules_b95 at h
  obtain ⟨-, h⟩ := wd_chk_some h
  by_cases c5 : ((μ 45 (Int32.toNatClampNeg x6)) + (μ 32 (Int32.toNatClampNeg x6))) ≤ s0
  · have h := (if_pos c5).symm.trans h
    by_cases c6 : x6 = x3
    · have h := (if_pos c6).symm.trans h
      by_cases c12 : (μ 45 (Int32.toNatClampNeg x6)) = x4
      · have h := (if_pos c12).symm.trans h
        exact (f_X8_schedules_b153 rec k μ x1 x2 x3 x4 x5 x6 a hrec hk ha h).trans rfl
      · have h := (if_neg c12).symm.trans h
        exact (f_X8_schedules_b213 rec k μ x1 x2 x3 x4 x5 x6 a hrec hk ha h).trans rfl
    · have h := (if_neg c6).symm.trans h
      exact (f_X8_schedules_b153 rec k μ x1 x2 x3 x4 x5 x6 a hrec hk ha h).trans rfl
  · have h := (if_neg c5).symm.trans h
    by_cases c13 : (x6 + (-1 : Int32)) < 0
    · have h := (if_pos c13).symm.trans h
      exact (f_X8_schedules_b213 rec k μ x1 x2 x3 x4 x5 (x6 + (-1 : Int32)) a hrec hk ha h).trans rfl
    · have h := (if_neg c13).symm.trans h
      obtain ⟨r14, er14, h⟩ := wd_bind_some h
      have fr14 : r14 a = μ a := (fr_X8_runs a  (by omega) er14).trans rfl
      exact (f_X8_schedules_b213 rec k r14 x1 x2 x3 x4 x5 (x6 + (-1 : Int32)) a hrec hk ha h).trans fr14
theorem f_X8_schedules_c53 {out : Int32 × wd_Mem} (rec : Int32 → Int32 → wd_Mem → Option (Int32 × wd_Mem)) (k : Int32 → wd_Mem → Option (Int32 × wd_Mem)) (μ : wd_Mem) (x1 x2 x3 x4 x5 x6 : Int32) (a : Nat) (hrec : ∀ (x5 x6 : Int32) (ν : wd_Mem), rec x5 x6 ν = some out → out.2 a = ν a) (hk : ∀ (x5 : Int32) (ν : wd_Mem), k x5 ν = some out → out.2 a = ν a) (ha : ¬ (a = 45 ∨ a = 46)) (h : X8_schedules_c53 rec k μ x1 x2 x3 x4 x5 x6 = some out) : out.2 a = μ a := by
  unfold X8_schedules_c53 at h
  by_cases c3 : x6 < 0
  · have h := (if_pos c3).symm.trans h
    exact (hk _ _ h).trans rfl
  · have h := (if_neg c3).symm.trans h
    obtain ⟨-, h⟩ := wd_chk_some h
    obtain ⟨-, h⟩ := wd_chk_some h
    by_cases c4 : x2 ≤ (μ 34 (Int32.toNatClampNeg ((5 : Int32) + x6)))
    · have h := (if_pos c4).symm.trans h
      exact (f_X8_schedules_b95 rec k (mset μ 45 (Int32.toNatClampNeg x6) ((μ 45 (Int32.toNatClampNeg x6)) + (1 : Int32))) x1 x2 x3 x4 x5 x6 x2 a hrec hk ha h).trans (wd_fr1 (by omega) rfl)
    · have h := (if_neg c4).symm.trans h
      exact (f_X8_schedules_b95 rec k (mset μ 45 (Int32.toNatClampNeg x6) ((μ 45 (Int32.toNatClampNeg x6)) + (1 : Int32))) x1 x2 x3 x4 x5 x6 (μ 34 (Int32.toNatClampNeg ((5 : Int32) + x6))) a hrec hk ha h).trans (wd_fr1 (by omega) rfl)
theorem f_X8_schedules_l53 {out : Int32 × wd_Mem} (k : Int32 → wd_Mem → Option (Int32 × wd_Mem)) (x1 x2 x3 x4 : Int32) (a : Nat) (hk : ∀ (x5 : Int32) (ν : wd_Mem), k x5 ν = some out → out.2 a = ν a) (ha : ¬ (a = 45 ∨ a = 46)) : ∀ (n : Nat) (x5 x6 : Int32) (μ : wd_Mem), X8_schedules_l53 k x1 x2 x3 x4 n x5 x6 μ = some out → out.2 a = μ a := by
  intro n
  induction n with
  | zero => intro x5 x6 μ h; exact absurd h (by unfold X8_schedules_l53; simp)
  | succ n ih =>
    intro x5 x6 μ h
    exact f_X8_schedules_c53 (X8_schedules_l53 k x1 x2 x3 x4 n) k μ x1 x2 x3 x4 x5 x6 a  (fun x5 x6 μ h => ih x5 x6 μ h) hk ha h
theorem f_X8_schedules_b216 {out : Int32 × wd_Mem} (μ : wd_Mem) (x5 : Int32) (a : Nat)  (ha : ¬ (a = 45 ∨ a = 46)) (h : X8_schedules_b216 μ x5 = some out) : out.2 a = μ a := by
  unfold X8_schedules_b216 at h
  have e9 := Option.some.inj h
  subst e9
  exact rfl
theorem f_X8_schedules_b24 {out : Int32 × wd_Mem} (μ : wd_Mem) (x1 x2 x3 x4 : Int32) (a : Nat)  (ha : ¬ (a = 45 ∨ a = 46)) (h : X8_schedules_b24 μ x1 x2 x3 x4 = some out) : out.2 a = μ a := by
  unfold X8_schedules_b24 at h
  by_cases c2 : (μ 31 0) = 0
  · have h := (if_pos c2).symm.trans h
    have e9 := Option.some.inj h
    subst e9
    exact rfl
  · have h := (if_neg c2).symm.trans h
    obtain ⟨-, h⟩ := wd_chk_some h
    obtain ⟨-, h⟩ := wd_chk_some h
    exact (f_X8_schedules_l53 (fun x5 μ => X8_schedules_b216 μ x5) x1 x2 x3 x4 a  (fun x5 μ h => f_X8_schedules_b216 μ x5 a  ha h) ha wd_big (0 : Int32) (0 : Int32) (mset μ 45 (Int32.toNatClampNeg (0 : Int32)) ((μ 34 (Int32.toNatClampNeg (0 : Int32))) - (1 : Int32))) h).trans (wd_fr1 (by omega) rfl)
theorem f_X8_schedules_b0 {out : Int32 × wd_Mem} (μ : wd_Mem) (x1 x2 x3 x4 : Int32) (a : Nat)  (ha : ¬ (a = 45 ∨ a = 46)) (h : X8_schedules_b0 μ x1 x2 x3 x4 = some out) : out.2 a = μ a := by
  unfold X8_schedules_b0 at h
  exact (f_X8_schedules_l3 (fun μ => X8_schedules_b24 μ x1 x2 x3 x4) x1 x2 x3 x4 a  (fun μ h => f_X8_schedules_b24 μ x1 x2 x3 x4 a  ha h) ha wd_big (0 : Int32) μ h).trans rfl
theorem fr_X8_schedules {out : Int32 × wd_Mem} {μ : wd_Mem} {x1 x2 x3 x4 : Int32} (a : Nat)  (ha : ¬ (a = 45 ∨ a = 46)) (h : X8_schedules μ x1 x2 x3 x4 = some out) : out.2 a = μ a := f_X8_schedules_b0 μ x1 x2 x3 x4 a  ha h
theorem f_X8_belong_b54 {out : Int32 × wd_Mem} (rec : Int32 → Int32 → wd_Mem → Option (Int32 × wd_Mem)) (k : Int32 → wd_Mem → Option (Int32 × wd_Mem)) (μ : wd_Mem) (x1 x3 s0 s1 : Int32) (a : Nat) (hrec : ∀ (x2 x3 : Int32) (ν : wd_Mem), rec x2 x3 ν = some out → out.2 a = ν a) (hk : ∀ (x2 : Int32) (ν : wd_Mem), k x2 ν = some out → out.2 a = ν a) (ha : ¬ (a = 45 ∨ a = 46 ∨ a = 47)) (h : X8_belong_b54 rec k μ x1 x3 s0 s1 = some out) : out.2 a = μ a := by
  unfold X8_belong_b54 at h
  exact (hrec _ _ _ h).trans rfl
theorem f_X8_belong_c15 {out : Int32 × wd_Mem} (rec : Int32 → Int32 → wd_Mem → Option (Int32 × wd_Mem)) (k : Int32 → wd_Mem → Option (Int32 × wd_Mem)) (μ : wd_Mem) (x1 x2 x3 : Int32) (a : Nat) (hrec : ∀ (x2 x3 : Int32) (ν : wd_Mem), rec x2 x3 ν = some out → out.2 a = ν a) (hk : ∀ (x2 : Int32) (ν : wd_Mem), k x2 ν = some out → out.2 a = ν a) (ha : ¬ (a = 45 ∨ a = 46 ∨ a = 47)) (h : X8_belong_c15 rec k μ x1 x2 x3 = some out) : out.2 a = μ a := by
  unfold X8_belong_c15 at h
  obtain ⟨-, h⟩ := wd_chk_some h
  obtain ⟨-, h⟩ := wd_chk_some h
  by_cases c2 : (μ 34 (Int32.toNatClampNeg ((5 : Int32) + x1))) < (x3 + (μ 32 (Int32.toNatClampNeg x1)))
  · have h := (if_pos c2).symm.trans h
    exact (hk _ _ h).trans rfl
  · have h := (if_neg c2).symm.trans h
    obtain ⟨r3, er3, h⟩ := wd_bind_some h
    have fr3 : r3.2 a = μ a := (fr_X8_schedules a  (by omega) er3).trans rfl
    by_cases c4 : r3.1 ≤ 0
    · have h := (if_pos c4).symm.trans h
      exact (f_X8_belong_b54 rec k r3.2 x1 x3 x2 (0 : Int32) a hrec hk ha h).trans fr3
    · have h := (if_neg c4).symm.trans h
      exact (f_X8_belong_b54 rec k r3.2 x1 x3 x2 ((1 : Int32) <<< (x3 &&& 31)) a hrec hk ha h).trans fr3
theorem f_X8_belong_l15 {out : Int32 × wd_Mem} (k : Int32 → wd_Mem → Option (Int32 × wd_Mem)) (x1 : Int32) (a : Nat) (hk : ∀ (x2 : Int32) (ν : wd_Mem), k x2 ν = some out → out.2 a = ν a) (ha : ¬ (a = 45 ∨ a = 46 ∨ a = 47)) : ∀ (n : Nat) (x2 x3 : Int32) (μ : wd_Mem), X8_belong_l15 k x1 n x2 x3 μ = some out → out.2 a = μ a := by
  intro n
  induction n with
  | zero => intro x2 x3 μ h; exact absurd h (by unfold X8_belong_l15; simp)
  | succ n ih =>
    intro x2 x3 μ h
    exact f_X8_belong_c15 (X8_belong_l15 k x1 n) k μ x1 x2 x3 a  (fun x2 x3 μ h => ih x2 x3 μ h) hk ha h
theorem f_X8_belong_b62 {out : Int32 × wd_Mem} (μ : wd_Mem) (x2 : Int32) (a : Nat)  (ha : ¬ (a = 45 ∨ a = 46 ∨ a = 47)) (h : X8_belong_b62 μ x2 = some out) : out.2 a = μ a := by
  unfold X8_belong_b62 at h
  have e9 := Option.some.inj h
  subst e9
  exact rfl
theorem f_X8_belong_b0 {out : Int32 × wd_Mem} (μ : wd_Mem) (x1 : Int32) (a : Nat)  (ha : ¬ (a = 45 ∨ a = 46 ∨ a = 47)) (h : X8_belong_b0 μ x1 = some out) : out.2 a = μ a := by
  unfold X8_belong_b0 at h
  obtain ⟨r1, er1, h⟩ := wd_bind_some h
  have fr1 : r1 a = μ a := (fr_X8_plain a  (by omega) er1).trans rfl
  obtain ⟨-, h⟩ := wd_chk_some h
  exact (f_X8_belong_l15 (fun x2 μ => X8_belong_b62 μ x2) x1 a  (fun x2 μ h => f_X8_belong_b62 μ x2 a  ha h) ha wd_big (0 : Int32) (r1 34 (Int32.toNatClampNeg ((0 : Int32) + x1))) r1 h).trans fr1
theorem fr_X8_belong {out : Int32 × wd_Mem} {μ : wd_Mem} {x1 : Int32} (a : Nat)  (ha : ¬ (a = 45 ∨ a = 46 ∨ a = 47)) (h : X8_belong μ x1 = some out) : out.2 a = μ a := f_X8_belong_b0 μ x1 a  ha h
theorem f_X8_firstOf_b0 {out : Int32 × wd_Mem} (μ : wd_Mem) (x1 : Int32) (a : Nat)  (ha : ¬ (a = 45 ∨ a = 46 ∨ a = 47)) (h : X8_firstOf_b0 μ x1 = some out) : out.2 a = μ a := by
  unfold X8_firstOf_b0 at h
  obtain ⟨r1, er1, h⟩ := wd_bind_some h
  have fr1 : r1 a = μ a := (fr_X8_plain a  (by omega) er1).trans rfl
  obtain ⟨r2, er2, h⟩ := wd_bind_some h
  have fr2 : r2.2 a = μ a := (fr_X8_schedules a  (by omega) er2).trans fr1
  by_cases c3 : r2.1 ≤ 0
  · have h := (if_pos c3).symm.trans h
    have e9 := Option.some.inj h
    subst e9
    exact fr2
  · have h := (if_neg c3).symm.trans h
    obtain ⟨-, h⟩ := wd_chk_some h
    have e9 := Option.some.inj h
    subst e9
    exact fr2
theorem fr_X8_firstOf {out : Int32 × wd_Mem} {μ : wd_Mem} {x1 : Int32} (a : Nat)  (ha : ¬ (a = 45 ∨ a = 46 ∨ a = 47)) (h : X8_firstOf μ x1 = some out) : out.2 a = μ a := f_X8_firstOf_b0 μ x1 a  ha h
theorem f_X8_task_b17 {out : Int32 × wd_Mem} (μ : wd_Mem) (a : Nat)  (ha : ¬ (a = 45 ∨ a = 46 ∨ a = 47)) (h : X8_task_b17 μ = some out) : out.2 a = μ a := by
  unfold X8_task_b17 at h
  have e9 := Option.some.inj h
  subst e9
  exact rfl
theorem f_X8_task_b0 {out : Int32 × wd_Mem} (μ : wd_Mem) (x1 x2 : Int32) (a : Nat)  (ha : ¬ (a = 45 ∨ a = 46 ∨ a = 47)) (h : X8_task_b0 μ x1 x2 = some out) : out.2 a = μ a := by
  unfold X8_task_b0 at h
  obtain ⟨r1, er1, h⟩ := wd_bind_some h
  by_cases c2 : r1 = 0
  · have h := (if_pos c2).symm.trans h
    exact (f_X8_task_b17 μ a  ha h).trans rfl
  · have h := (if_neg c2).symm.trans h
    by_cases c3 : (X8_in μ x2 (0 : Int32) (5 : Int32)) = 0
    · have h := (if_pos c3).symm.trans h
      exact (f_X8_task_b17 μ a  ha h).trans rfl
    · have h := (if_neg c3).symm.trans h
      by_cases n20_0 : x2 = nI 0
      · have h := (if_pos n20_0).symm.trans h
        obtain ⟨-, h⟩ := wd_chk_some h
        have e9 := Option.some.inj h
        subst e9
        exact rfl
      · have h := (if_neg n20_0).symm.trans h
        by_cases n20_1 : x2 = nI 1
        · have h := (if_pos n20_1).symm.trans h
          obtain ⟨-, h⟩ := wd_chk_some h
          have e9 := Option.some.inj h
          subst e9
          exact rfl
        · have h := (if_neg n20_1).symm.trans h
          by_cases n20_2 : x2 = nI 2
          · have h := (if_pos n20_2).symm.trans h
            obtain ⟨-, h⟩ := wd_chk_some h
            have e9 := Option.some.inj h
            subst e9
            exact rfl
          · have h := (if_neg n20_2).symm.trans h
            by_cases n20_3 : x2 = nI 3
            · have h := (if_pos n20_3).symm.trans h
              obtain ⟨-, h⟩ := wd_chk_some h
              have e9 := Option.some.inj h
              subst e9
              exact rfl
            · have h := (if_neg n20_3).symm.trans h
              by_cases n20_4 : x2 = nI 4
              · have h := (if_pos n20_4).symm.trans h
                obtain ⟨r4, er4, h⟩ := wd_bind_some h
                have fr4 : r4.2 a = μ a := (fr_X8_belong a  (by omega) er4).trans rfl
                have e9 := Option.some.inj h
                subst e9
                exact fr4
              · have h := (if_neg n20_4).symm.trans h
                obtain ⟨r5, er5, h⟩ := wd_bind_some h
                have fr5 : r5.2 a = μ a := (fr_X8_firstOf a  (by omega) er5).trans rfl
                have e9 := Option.some.inj h
                subst e9
                exact fr5
theorem fr_X8_task {out : Int32 × wd_Mem} {μ : wd_Mem} {x1 x2 : Int32} (a : Nat)  (ha : ¬ (a = 45 ∨ a = 46 ∨ a = 47)) (h : X8_task μ x1 x2 = some out) : out.2 a = μ a := f_X8_task_b0 μ x1 x2 a  ha h
theorem f_X8_asIs_c2 {out : wd_Mem} (rec : Int32 → wd_Mem → Option (wd_Mem)) (k : wd_Mem → Option (wd_Mem)) (μ : wd_Mem) (x1 : Int32) (a : Nat) (hrec : ∀ (x1 : Int32) (ν : wd_Mem), rec x1 ν = some out → out a = ν a) (hk : ∀  (ν : wd_Mem), k ν = some out → out a = ν a) (ha : ¬ (a = 40 ∨ a = 41)) (h : X8_asIs_c2 rec k μ x1 = some out) : out a = μ a := by
  unfold X8_asIs_c2 at h
  by_cases c1 : (μ 31 0) ≤ x1
  · have h := (if_pos c1).symm.trans h
    exact (hk _ h).trans rfl
  · have h := (if_neg c1).symm.trans h
    obtain ⟨-, h⟩ := wd_chk_some h
    obtain ⟨-, h⟩ := wd_chk_some h
    obtain ⟨-, h⟩ := wd_chk_some h
    exact (hrec _ _ h).trans (wd_fr1 (by omega) (wd_fr1 (by omega) rfl))
theorem f_X8_asIs_l2 {out : wd_Mem} (k : wd_Mem → Option (wd_Mem)) (a : Nat) (hk : ∀  (ν : wd_Mem), k ν = some out → out a = ν a) (ha : ¬ (a = 40 ∨ a = 41)) : ∀ (n : Nat) (x1 : Int32) (μ : wd_Mem), X8_asIs_l2 k n x1 μ = some out → out a = μ a := by
  intro n
  induction n with
  | zero => intro x1 μ h; exact absurd h (by unfold X8_asIs_l2; simp)
  | succ n ih =>
    intro x1 μ h
    exact f_X8_asIs_c2 (X8_asIs_l2 k n) k μ x1 a  (fun x1 μ h => ih x1 μ h) hk ha h
theorem f_X8_asIs_b44 {out : wd_Mem} (μ : wd_Mem) (a : Nat)  (ha : ¬ (a = 40 ∨ a = 41)) (h : X8_asIs_b44 μ = some out) : out a = μ a := by
  unfold X8_asIs_b44 at h
  have e9 := Option.some.inj h
  subst e9
  exact rfl
theorem f_X8_asIs_b0 {out : wd_Mem} (μ : wd_Mem) (a : Nat)  (ha : ¬ (a = 40 ∨ a = 41)) (h : X8_asIs_b0 μ = some out) : out a = μ a := by
  unfold X8_asIs_b0 at h
  exact (f_X8_asIs_l2 (fun μ => X8_asIs_b44 μ) a  (fun μ h => f_X8_asIs_b44 μ a  ha h) ha wd_big (0 : Int32) μ h).trans rfl
theorem fr_X8_asIs {out : wd_Mem} {μ : wd_Mem} (a : Nat)  (ha : ¬ (a = 40 ∨ a = 41)) (h : X8_asIs μ = some out) : out a = μ a := f_X8_asIs_b0 μ  a  ha h
theorem f_X8_must_b57 {out : Int32 × wd_Mem} (rec : Int32 → Int32 → Option (Int32 × wd_Mem)) (k : Int32 → Option (Int32 × wd_Mem)) (μ : wd_Mem) (x1 x3 s0 s1 : Int32) (a : Nat) (hrec : ∀ (x2 x3 : Int32), rec x2 x3 = some out → out.2 a = μ a) (hk : ∀ (x2 : Int32), k x2 = some out → out.2 a = μ a) (ha : ¬ (a = 40 ∨ a = 41)) (h : X8_must_b57 rec k μ x1 x3 s0 s1 = some out) : out.2 a = μ a := by
  unfold X8_must_b57 at h
  exact (hrec _ _ h)
theorem f_X8_must_b56 {out : Int32 × wd_Mem} (rec : Int32 → Int32 → Option (Int32 × wd_Mem)) (k : Int32 → Option (Int32 × wd_Mem)) (μ : wd_Mem) (x1 x3 s0 : Int32) (a : Nat) (hrec : ∀ (x2 x3 : Int32), rec x2 x3 = some out → out.2 a = μ a) (hk : ∀ (x2 : Int32), k x2 = some out → out.2 a = μ a) (ha : ¬ (a = 40 ∨ a = 41)) (h : X8_must_b56 rec k μ x1 x3 s0 = some out) : out.2 a = μ a := by
  unfold X8_must_b56 at h
  exact (f_X8_must_b57 rec k μ x1 x3 s0 (0 : Int32) a hrec hk ha h).trans rfl
theorem f_X8_must_c20 {out : Int32 × wd_Mem} (rec : Int32 → Int32 → Option (Int32 × wd_Mem)) (k : Int32 → Option (Int32 × wd_Mem)) (μ : wd_Mem) (x1 x2 x3 : Int32) (a : Nat) (hrec : ∀ (x2 x3 : Int32), rec x2 x3 = some out → out.2 a = μ a) (hk : ∀ (x2 : Int32), k x2 = some out → out.2 a = μ a) (ha : ¬ (a = 40 ∨ a = 41)) (h : X8_must_c20 rec k μ x1 x2 x3 = some out) : out.2 a = μ a := by
  unfold X8_must_c20 at h
  by_cases c3 : (μ 31 0) ≤ x3
  · have h := (if_pos c3).symm.trans h
    exact (hk _ h)
  · have h := (if_neg c3).symm.trans h
    obtain ⟨r4, er4, h⟩ := wd_bind_some h
    by_cases c5 : x1 < r4
    · have h := (if_pos c5).symm.trans h
      exact (f_X8_must_b56 rec k μ x1 x3 x2 a hrec hk ha h).trans rfl
    · have h := (if_neg c5).symm.trans h
      obtain ⟨r6, er6, h⟩ := wd_bind_some h
      by_cases c7 : r6 ≤ x1
      · have h := (if_pos c7).symm.trans h
        exact (f_X8_must_b56 rec k μ x1 x3 x2 a hrec hk ha h).trans rfl
      · have h := (if_neg c7).symm.trans h
        obtain ⟨-, h⟩ := wd_chk_some h
        exact (f_X8_must_b57 rec k μ x1 x3 x2 (μ 33 (Int32.toNatClampNeg x3)) a hrec hk ha h).trans rfl
theorem f_X8_must_l20 {out : Int32 × wd_Mem} (k : Int32 → Option (Int32 × wd_Mem)) (μ : wd_Mem) (x1 : Int32) (a : Nat) (hk : ∀ (x2 : Int32), k x2 = some out → out.2 a = μ a) (ha : ¬ (a = 40 ∨ a = 41)) : ∀ (n : Nat) (x2 x3 : Int32), X8_must_l20 k μ x1 n x2 x3 = some out → out.2 a = μ a := by
  intro n
  induction n with
  | zero => intro x2 x3 h; exact absurd h (by unfold X8_must_l20; simp)
  | succ n ih =>
    intro x2 x3 h
    exact f_X8_must_c20 (X8_must_l20 k μ x1 n) k μ x1 x2 x3 a  (fun x2 x3 h => ih x2 x3 h) hk ha h
theorem f_X8_must_b65 {out : Int32 × wd_Mem} (μ : wd_Mem) (x2 : Int32) (a : Nat)  (ha : ¬ (a = 40 ∨ a = 41)) (h : X8_must_b65 μ x2 = some out) : out.2 a = μ a := by
  unfold X8_must_b65 at h
  have e9 := Option.some.inj h
  subst e9
  exact rfl
theorem f_X8_must_b0 {out : Int32 × wd_Mem} (μ : wd_Mem) (x1 : Int32) (a : Nat)  (ha : ¬ (a = 40 ∨ a = 41)) (h : X8_must_b0 μ x1 = some out) : out.2 a = μ a := by
  unfold X8_must_b0 at h
  by_cases c1 : (X8_in μ x1 (0 : Int32) (15 : Int32)) = 0
  · have h := (if_pos c1).symm.trans h
    have e9 := Option.some.inj h
    subst e9
    exact rfl
  · have h := (if_neg c1).symm.trans h
    obtain ⟨r2, er2, h⟩ := wd_bind_some h
    have fr2 : r2 a = μ a := (fr_X8_asIs a  (by omega) er2).trans rfl
    exact (f_X8_must_l20 (fun x2 => X8_must_b65 r2 x2) r2 x1 a  (fun x2 h => f_X8_must_b65 r2 x2 a  ha h) ha wd_big (0 : Int32) (0 : Int32) h).trans fr2
theorem fr_X8_must {out : Int32 × wd_Mem} {μ : wd_Mem} {x1 : Int32} (a : Nat)  (ha : ¬ (a = 40 ∨ a = 41)) (h : X8_must μ x1 = some out) : out.2 a = μ a := f_X8_must_b0 μ x1 a  ha h
theorem f_X8_wrap_b0 {out : Int32 × wd_Mem} (μ : wd_Mem) (x1 : Int32) (a : Nat)  (ha : ¬ (a = 40 ∨ a = 41)) (h : X8_wrap_b0 μ x1 = some out) : out.2 a = μ a := by
  unfold X8_wrap_b0 at h
  by_cases c1 : (X8_in μ x1 (1 : Int32) (X8_all μ)) = 0
  · have h := (if_pos c1).symm.trans h
    have e9 := Option.some.inj h
    subst e9
    exact rfl
  · have h := (if_neg c1).symm.trans h
    obtain ⟨r2, er2, h⟩ := wd_bind_some h
    have fr2 : r2 a = μ a := (fr_X8_asIs a  (by omega) er2).trans rfl
    obtain ⟨r3, er3, h⟩ := wd_bind_some h
    have e9 := Option.some.inj h
    subst e9
    exact fr2
theorem fr_X8_wrap {out : Int32 × wd_Mem} {μ : wd_Mem} {x1 : Int32} (a : Nat)  (ha : ¬ (a = 40 ∨ a = 41)) (h : X8_wrap μ x1 = some out) : out.2 a = μ a := f_X8_wrap_b0 μ x1 a  ha h
theorem f_X8_grey_b39 {out : Int32 × wd_Mem} (μ : wd_Mem) (a : Nat)  (ha : ¬ (a = 40 ∨ a = 41)) (h : X8_grey_b39 μ = some out) : out.2 a = μ a := by
  unfold X8_grey_b39 at h
  have e9 := Option.some.inj h
  subst e9
  exact rfl
theorem f_X8_grey_b119 {out : Int32 × wd_Mem} (rec : Int32 → Int32 → Int32 → Option (Int32 × wd_Mem)) (k : Int32 → Int32 → Option (Int32 × wd_Mem)) (μ : wd_Mem) (x1 x2 x3 x4 x6 s0 : Int32) (a : Nat) (hrec : ∀ (x4 x5 x6 : Int32), rec x4 x5 x6 = some out → out.2 a = μ a) (hk : ∀ (x4 x5 : Int32), k x4 x5 = some out → out.2 a = μ a) (ha : ¬ (a = 40 ∨ a = 41)) (h : X8_grey_b119 rec k μ x1 x2 x3 x4 x6 s0 = some out) : out.2 a = μ a := by
  unfold X8_grey_b119 at h
  exact (hrec _ _ _ h)
theorem f_X8_grey_b103 {out : Int32 × wd_Mem} (rec : Int32 → Int32 → Int32 → Option (Int32 × wd_Mem)) (k : Int32 → Int32 → Option (Int32 × wd_Mem)) (μ : wd_Mem) (x1 x2 x3 x5 x6 x7 s0 : Int32) (a : Nat) (hrec : ∀ (x4 x5 x6 : Int32), rec x4 x5 x6 = some out → out.2 a = μ a) (hk : ∀ (x4 x5 : Int32), k x4 x5 = some out → out.2 a = μ a) (ha : ¬ (a = 40 ∨ a = 41)) (h : X8_grey_b103 rec k μ x1 x2 x3 x5 x6 x7 s0 = some out) : out.2 a = μ a := by
  unfold X8_grey_b103 at h
  by_cases c9 : x7 ≤ x5
  · have h := (if_pos c9).symm.trans h
    exact (f_X8_grey_b119 rec k μ x1 x2 x3 s0 x6 x5 a hrec hk ha h).trans rfl
  · have h := (if_neg c9).symm.trans h
    exact (f_X8_grey_b119 rec k μ x1 x2 x3 s0 x6 x7 a hrec hk ha h).trans rfl
theorem f_X8_grey_b87 {out : Int32 × wd_Mem} (rec : Int32 → Int32 → Int32 → Option (Int32 × wd_Mem)) (k : Int32 → Int32 → Option (Int32 × wd_Mem)) (μ : wd_Mem) (x1 x2 x3 x4 x5 x6 s0 : Int32) (a : Nat) (hrec : ∀ (x4 x5 x6 : Int32), rec x4 x5 x6 = some out → out.2 a = μ a) (hk : ∀ (x4 x5 : Int32), k x4 x5 = some out → out.2 a = μ a) (ha : ¬ (a = 40 ∨ a = 41)) (h : X8_grey_b87 rec k μ x1 x2 x3 x4 x5 x6 s0 = some out) : out.2 a = μ a := by
  unfold X8_grey_b87 at h
  by_cases c8 : s0 ≤ x5
  · have h := (if_pos c8).symm.trans h
    exact (f_X8_grey_b103 rec k μ x1 x2 x3 x5 x6 s0 x4 a hrec hk ha h).trans rfl
  · have h := (if_neg c8).symm.trans h
    exact (f_X8_grey_b103 rec k μ x1 x2 x3 x5 x6 s0 x6 a hrec hk ha h).trans rfl
theorem f_X8_grey_c55 {out : Int32 × wd_Mem} (rec : Int32 → Int32 → Int32 → Option (Int32 × wd_Mem)) (k : Int32 → Int32 → Option (Int32 × wd_Mem)) (μ : wd_Mem) (x1 x2 x3 x4 x5 x6 : Int32) (a : Nat) (hrec : ∀ (x4 x5 x6 : Int32), rec x4 x5 x6 = some out → out.2 a = μ a) (hk : ∀ (x4 x5 : Int32), k x4 x5 = some out → out.2 a = μ a) (ha : ¬ (a = 40 ∨ a = 41)) (h : X8_grey_c55 rec k μ x1 x2 x3 x4 x5 x6 = some out) : out.2 a = μ a := by
  unfold X8_grey_c55 at h
  by_cases c6 : (μ 31 0) ≤ x6
  · have h := (if_pos c6).symm.trans h
    exact (hk _ _ h)
  · have h := (if_neg c6).symm.trans h
    by_cases c7 : (X8_has μ x2 x6) = 0
    · have h := (if_pos c7).symm.trans h
      exact (f_X8_grey_b87 rec k μ x1 x2 x3 x4 x5 x6 (-1 : Int32) a hrec hk ha h).trans rfl
    · have h := (if_neg c7).symm.trans h
      obtain ⟨r10, er10, h⟩ := wd_bind_some h
      exact (f_X8_grey_b87 rec k μ x1 x2 x3 x4 x5 x6 r10 a hrec hk ha h).trans rfl
theorem f_X8_grey_l55 {out : Int32 × wd_Mem} (k : Int32 → Int32 → Option (Int32 × wd_Mem)) (μ : wd_Mem) (x1 x2 x3 : Int32) (a : Nat) (hk : ∀ (x4 x5 : Int32), k x4 x5 = some out → out.2 a = μ a) (ha : ¬ (a = 40 ∨ a = 41)) : ∀ (n : Nat) (x4 x5 x6 : Int32), X8_grey_l55 k μ x1 x2 x3 n x4 x5 x6 = some out → out.2 a = μ a := by
  intro n
  induction n with
  | zero => intro x4 x5 x6 h; exact absurd h (by unfold X8_grey_l55; simp)
  | succ n ih =>
    intro x4 x5 x6 h
    exact f_X8_grey_c55 (X8_grey_l55 k μ x1 x2 x3 n) k μ x1 x2 x3 x4 x5 x6 a  (fun x4 x5 x6 h => ih x4 x5 x6 h) hk ha h
theorem f_X8_grey_b127 {out : Int32 × wd_Mem} (μ : wd_Mem) (x3 x4 x5 : Int32) (a : Nat)  (ha : ¬ (a = 40 ∨ a = 41)) (h : X8_grey_b127 μ x3 x4 x5 = some out) : out.2 a = μ a := by
  unfold X8_grey_b127 at h
  by_cases c11 : x3 = 0
  · have h := (if_pos c11).symm.trans h
    have e9 := Option.some.inj h
    subst e9
    exact rfl
  · have h := (if_neg c11).symm.trans h
    have e9 := Option.some.inj h
    subst e9
    exact rfl
theorem f_X8_grey_b0 {out : Int32 × wd_Mem} (μ : wd_Mem) (x1 x2 x3 : Int32) (a : Nat)  (ha : ¬ (a = 40 ∨ a = 41)) (h : X8_grey_b0 μ x1 x2 x3 = some out) : out.2 a = μ a := by
  unfold X8_grey_b0 at h
  by_cases c1 : (X8_in μ x1 (0 : Int32) (X8_all μ)) = 0
  · have h := (if_pos c1).symm.trans h
    exact (f_X8_grey_b39 μ a  ha h).trans rfl
  · have h := (if_neg c1).symm.trans h
    by_cases c2 : (X8_in μ x2 (1 : Int32) (X8_all μ)) = 0
    · have h := (if_pos c2).symm.trans h
      exact (f_X8_grey_b39 μ a  ha h).trans rfl
    · have h := (if_neg c2).symm.trans h
      by_cases c3 : (x1 &&& x2) = 0
      · have h := (if_pos c3).symm.trans h
        by_cases c4 : (X8_in μ x3 (0 : Int32) (1 : Int32)) = 0
        · have h := (if_pos c4).symm.trans h
          exact (f_X8_grey_b39 μ a  ha h).trans rfl
        · have h := (if_neg c4).symm.trans h
          obtain ⟨r5, er5, h⟩ := wd_bind_some h
          have fr5 : r5 a = μ a := (fr_X8_asIs a  (by omega) er5).trans rfl
          exact (f_X8_grey_l55 (fun x4 x5 => X8_grey_b127 r5 x3 x4 x5) r5 x1 x2 x3 a  (fun x4 x5 h => f_X8_grey_b127 r5 x3 x4 x5 a  ha h) ha wd_big (-9 : Int32) (-1 : Int32) (0 : Int32) h).trans fr5
      · have h := (if_neg c3).symm.trans h
        exact (f_X8_grey_b39 μ a  ha h).trans rfl
theorem fr_X8_grey {out : Int32 × wd_Mem} {μ : wd_Mem} {x1 x2 x3 : Int32} (a : Nat)  (ha : ¬ (a = 40 ∨ a = 41)) (h : X8_grey μ x1 x2 x3 = some out) : out.2 a = μ a := f_X8_grey_b0 μ x1 x2 x3 a  ha h
theorem f_X8_odds_b19 {out : Int32 × wd_Mem} (μ : wd_Mem) (a : Nat)  (ha : ¬ (a = 45 ∨ a = 46 ∨ a = 47)) (h : X8_odds_b19 μ = some out) : out.2 a = μ a := by
  unfold X8_odds_b19 at h
  have e9 := Option.some.inj h
  subst e9
  exact rfl
theorem f_X8_odds_c26 {out : Int32 × wd_Mem} (rec : Int32 → Int32 → Option (Int32 × wd_Mem)) (k : Int32 → Option (Int32 × wd_Mem)) (μ : wd_Mem) (x1 x2 x3 x4 : Int32) (a : Nat) (hrec : ∀ (x3 x4 : Int32), rec x3 x4 = some out → out.2 a = μ a) (hk : ∀ (x3 : Int32), k x3 = some out → out.2 a = μ a) (ha : ¬ (a = 45 ∨ a = 46 ∨ a = 47)) (h : X8_odds_c26 rec k μ x1 x2 x3 x4 = some out) : out.2 a = μ a := by
  unfold X8_odds_c26 at h
  by_cases c3 : (μ 31 0) ≤ x4
  · have h := (if_pos c3).symm.trans h
    exact (hk _ h)
  · have h := (if_neg c3).symm.trans h
    exact (hrec _ _ h)
theorem f_X8_odds_l26 {out : Int32 × wd_Mem} (k : Int32 → Option (Int32 × wd_Mem)) (μ : wd_Mem) (x1 x2 : Int32) (a : Nat) (hk : ∀ (x3 : Int32), k x3 = some out → out.2 a = μ a) (ha : ¬ (a = 45 ∨ a = 46 ∨ a = 47)) : ∀ (n : Nat) (x3 x4 : Int32), X8_odds_l26 k μ x1 x2 n x3 x4 = some out → out.2 a = μ a := by
  intro n
  induction n with
  | zero => intro x3 x4 h; exact absurd h (by unfold X8_odds_l26; simp)
  | succ n ih =>
    intro x3 x4 h
    exact f_X8_odds_c26 (X8_odds_l26 k μ x1 x2 n) k μ x1 x2 x3 x4 a  (fun x3 x4 h => ih x3 x4 h) hk ha h
theorem f_X8_odds_b146 {out : Int32 × wd_Mem} (rec : Int32 → Int32 → wd_Mem → Option (Int32 × wd_Mem)) (k : Int32 → wd_Mem → Option (Int32 × wd_Mem)) (μ : wd_Mem) (x1 x2 x3 x4 x5 x7 s0 s1 : Int32) (a : Nat) (hrec : ∀ (x6 x7 : Int32) (ν : wd_Mem), rec x6 x7 ν = some out → out.2 a = ν a) (hk : ∀ (x6 : Int32) (ν : wd_Mem), k x6 ν = some out → out.2 a = ν a) (ha : ¬ (a = 45 ∨ a = 46 ∨ a = 47)) (h : X8_odds_b146 rec k μ x1 x2 x3 x4 x5 x7 s0 s1 = some out) : out.2 a = μ a := by
  unfold X8_odds_b146 at h
  exact (hrec _ _ _ h).trans rfl
theorem f_X8_odds_b125 {out : Int32 × wd_Mem} (rec : Int32 → Int32 → wd_Mem → Option (Int32 × wd_Mem)) (k : Int32 → wd_Mem → Option (Int32 × wd_Mem)) (μ : wd_Mem) (x1 x2 x3 x4 x5 x6 x7 s1 s2 : Int32) (a : Nat) (hrec : ∀ (x6 x7 : Int32) (ν : wd_Mem), rec x6 x7 ν = some out → out.2 a = ν a) (hk : ∀ (x6 : Int32) (ν : wd_Mem), k x6 ν = some out → out.2 a = ν a) (ha : ¬ (a = 45 ∨ a = 46 ∨ a = 47)) (h : X8_odds_b125 rec k μ x1 x2 x3 x4 x5 x6 x7 s1 s2 = some out) : out.2 a = μ a := by
  unfold X8_odds_b125 at h
  obtain ⟨-, h⟩ := wd_chk_some h
  by_cases c7 : (X8_has (mset μ 47 (Int32.toNatClampNeg s1) s2) x5 x7) = 0
  · have h := (if_pos c7).symm.trans h
    exact (f_X8_odds_b146 rec k (mset μ 47 (Int32.toNatClampNeg s1) s2) x1 x2 x3 x4 x5 x7 x6 ((10 : Int32) - x1) a hrec hk ha h).trans (wd_fr1 (by omega) rfl)
  · have h := (if_neg c7).symm.trans h
    exact (f_X8_odds_b146 rec k (mset μ 47 (Int32.toNatClampNeg s1) s2) x1 x2 x3 x4 x5 x7 x6 x1 a hrec hk ha h).trans (wd_fr1 (by omega) rfl)
theorem f_X8_odds_b118 {out : Int32 × wd_Mem} (rec : Int32 → Int32 → wd_Mem → Option (Int32 × wd_Mem)) (k : Int32 → wd_Mem → Option (Int32 × wd_Mem)) (μ : wd_Mem) (x1 x2 x3 x4 x5 x6 x7 s1 : Int32) (a : Nat) (hrec : ∀ (x6 x7 : Int32) (ν : wd_Mem), rec x6 x7 ν = some out → out.2 a = ν a) (hk : ∀ (x6 : Int32) (ν : wd_Mem), k x6 ν = some out → out.2 a = ν a) (ha : ¬ (a = 45 ∨ a = 46 ∨ a = 47)) (h : X8_odds_b118 rec k μ x1 x2 x3 x4 x5 x6 x7 s1 = some out) : out.2 a = μ a := by
  unfold X8_odds_b118 at h
  obtain ⟨-, h⟩ := wd_chk_some h
  exact (f_X8_odds_b125 rec k μ x1 x2 x3 x4 x5 x6 x7 s1 (μ 33 (Int32.toNatClampNeg x7)) a hrec hk ha h).trans rfl
theorem f_X8_odds_c67 {out : Int32 × wd_Mem} (rec : Int32 → Int32 → wd_Mem → Option (Int32 × wd_Mem)) (k : Int32 → wd_Mem → Option (Int32 × wd_Mem)) (μ : wd_Mem) (x1 x2 x3 x4 x5 x6 x7 : Int32) (a : Nat) (hrec : ∀ (x6 x7 : Int32) (ν : wd_Mem), rec x6 x7 ν = some out → out.2 a = ν a) (hk : ∀ (x6 : Int32) (ν : wd_Mem), k x6 ν = some out → out.2 a = ν a) (ha : ¬ (a = 45 ∨ a = 46 ∨ a = 47)) (h : X8_odds_c67 rec k μ x1 x2 x3 x4 x5 x6 x7 = some out) : out.2 a = μ a := by
  unfold X8_odds_c67 at h
  by_cases c5 : (μ 31 0) ≤ x7
  · have h := (if_pos c5).symm.trans h
    exact (hk _ _ h).trans rfl
  · have h := (if_neg c5).symm.trans h
    by_cases c6 : (X8_has μ x5 x7) = 0
    · have h := (if_pos c6).symm.trans h
      exact (f_X8_odds_b118 rec k μ x1 x2 x3 x4 x5 x6 x7 x7 a hrec hk ha h).trans rfl
    · have h := (if_neg c6).symm.trans h
      obtain ⟨-, h⟩ := wd_chk_some h
      by_cases c8 : (μ 31 1) ≤ (μ 33 (Int32.toNatClampNeg x7))
      · have h := (if_pos c8).symm.trans h
        exact (f_X8_odds_b118 rec k μ x1 x2 x3 x4 x5 x6 x7 x7 a hrec hk ha h).trans rfl
      · have h := (if_neg c8).symm.trans h
        exact (f_X8_odds_b125 rec k μ x1 x2 x3 x4 x5 x6 x7 x7 ((μ 33 (Int32.toNatClampNeg x7)) + (1 : Int32)) a hrec hk ha h).trans rfl
theorem f_X8_odds_l67 {out : Int32 × wd_Mem} (k : Int32 → wd_Mem → Option (Int32 × wd_Mem)) (x1 x2 x3 x4 x5 : Int32) (a : Nat) (hk : ∀ (x6 : Int32) (ν : wd_Mem), k x6 ν = some out → out.2 a = ν a) (ha : ¬ (a = 45 ∨ a = 46 ∨ a = 47)) : ∀ (n : Nat) (x6 x7 : Int32) (μ : wd_Mem), X8_odds_l67 k x1 x2 x3 x4 x5 n x6 x7 μ = some out → out.2 a = μ a := by
  intro n
  induction n with
  | zero => intro x6 x7 μ h; exact absurd h (by unfold X8_odds_l67; simp)
  | succ n ih =>
    intro x6 x7 μ h
    exact f_X8_odds_c67 (X8_odds_l67 k x1 x2 x3 x4 x5 n) k μ x1 x2 x3 x4 x5 x6 x7 a  (fun x6 x7 μ h => ih x6 x7 μ h) hk ha h
theorem f_X8_odds_b181 {out : Int32 × wd_Mem} (rec : Int32 → Int32 → wd_Mem → Option (Int32 × wd_Mem)) (k : Int32 → wd_Mem → Option (Int32 × wd_Mem)) (μ : wd_Mem) (x1 x2 x3 x5 s0 s1 : Int32) (a : Nat) (hrec : ∀ (x4 x5 : Int32) (ν : wd_Mem), rec x4 x5 ν = some out → out.2 a = ν a) (hk : ∀ (x4 : Int32) (ν : wd_Mem), k x4 ν = some out → out.2 a = ν a) (ha : ¬ (a = 45 ∨ a = 46 ∨ a = 47)) (h : X8_odds_b181 rec k μ x1 x2 x3 x5 s0 s1 = some out) : out.2 a = μ a := by
  unfold X8_odds_b181 at h
  exact (hrec _ _ _ h).trans rfl
theorem f_X8_odds_b180 {out : Int32 × wd_Mem} (rec : Int32 → Int32 → wd_Mem → Option (Int32 × wd_Mem)) (k : Int32 → wd_Mem → Option (Int32 × wd_Mem)) (μ : wd_Mem) (x1 x2 x3 x5 s0 : Int32) (a : Nat) (hrec : ∀ (x4 x5 : Int32) (ν : wd_Mem), rec x4 x5 ν = some out → out.2 a = ν a) (hk : ∀ (x4 : Int32) (ν : wd_Mem), k x4 ν = some out → out.2 a = ν a) (ha : ¬ (a = 45 ∨ a = 46 ∨ a = 47)) (h : X8_odds_b180 rec k μ x1 x2 x3 x5 s0 = some out) : out.2 a = μ a := by
  unfold X8_odds_b180 at h
  exact (f_X8_odds_b181 rec k μ x1 x2 x3 x5 s0 (0 : Int32) a hrec hk ha h).trans rfl
theorem f_X8_odds_b155 {out : Int32 × wd_Mem} (rec : Int32 → Int32 → wd_Mem → Option (Int32 × wd_Mem)) (k : Int32 → wd_Mem → Option (Int32 × wd_Mem)) (μ : wd_Mem) (x1 x2 x3 x4 x5 x6 : Int32) (a : Nat) (hrec : ∀ (x4 x5 : Int32) (ν : wd_Mem), rec x4 x5 ν = some out → out.2 a = ν a) (hk : ∀ (x4 : Int32) (ν : wd_Mem), k x4 ν = some out → out.2 a = ν a) (ha : ¬ (a = 45 ∨ a = 46 ∨ a = 47)) (h : X8_odds_b155 rec k μ x1 x2 x3 x4 x5 x6 = some out) : out.2 a = μ a := by
  unfold X8_odds_b155 at h
  by_cases c9 : x6 ≤ 0
  · have h := (if_pos c9).symm.trans h
    exact (f_X8_odds_b180 rec k μ x1 x2 x3 x5 x4 a hrec hk ha h).trans rfl
  · have h := (if_neg c9).symm.trans h
    obtain ⟨r10, er10, h⟩ := wd_bind_some h
    have fr10 : r10.2 a = μ a := (fr_X8_schedules a  (by omega) er10).trans rfl
    by_cases c11 : r10.1 ≤ 0
    · have h := (if_pos c11).symm.trans h
      exact (f_X8_odds_b180 rec k r10.2 x1 x2 x3 x5 x4 a hrec hk ha h).trans fr10
    · have h := (if_neg c11).symm.trans h
      exact (f_X8_odds_b181 rec k r10.2 x1 x2 x3 x5 x4 x6 a hrec hk ha h).trans fr10
theorem f_X8_odds_c52 {out : Int32 × wd_Mem} (rec : Int32 → Int32 → wd_Mem → Option (Int32 × wd_Mem)) (k : Int32 → wd_Mem → Option (Int32 × wd_Mem)) (μ : wd_Mem) (x1 x2 x3 x4 x5 : Int32) (a : Nat) (hrec : ∀ (x4 x5 : Int32) (ν : wd_Mem), rec x4 x5 ν = some out → out.2 a = ν a) (hk : ∀ (x4 : Int32) (ν : wd_Mem), k x4 ν = some out → out.2 a = ν a) (ha : ¬ (a = 45 ∨ a = 46 ∨ a = 47)) (h : X8_odds_c52 rec k μ x1 x2 x3 x4 x5 = some out) : out.2 a = μ a := by
  unfold X8_odds_c52 at h
  by_cases c4 : (X8_all μ) < x5
  · have h := (if_pos c4).symm.trans h
    exact (hk _ _ h).trans rfl
  · have h := (if_neg c4).symm.trans h
    exact (f_X8_odds_l67 (fun x6 μ => X8_odds_b155 rec k μ x1 x2 x3 x4 x5 x6) x1 x2 x3 x4 x5 a  (fun x6 μ h => f_X8_odds_b155 rec k μ x1 x2 x3 x4 x5 x6 a hrec hk ha h) ha wd_big (1 : Int32) (0 : Int32) μ h).trans rfl
theorem f_X8_odds_l52 {out : Int32 × wd_Mem} (k : Int32 → wd_Mem → Option (Int32 × wd_Mem)) (x1 x2 x3 : Int32) (a : Nat) (hk : ∀ (x4 : Int32) (ν : wd_Mem), k x4 ν = some out → out.2 a = ν a) (ha : ¬ (a = 45 ∨ a = 46 ∨ a = 47)) : ∀ (n : Nat) (x4 x5 : Int32) (μ : wd_Mem), X8_odds_l52 k x1 x2 x3 n x4 x5 μ = some out → out.2 a = μ a := by
  intro n
  induction n with
  | zero => intro x4 x5 μ h; exact absurd h (by unfold X8_odds_l52; simp)
  | succ n ih =>
    intro x4 x5 μ h
    exact f_X8_odds_c52 (X8_odds_l52 k x1 x2 x3 n) k μ x1 x2 x3 x4 x5 a  (fun x4 x5 μ h => ih x4 x5 μ h) hk ha h
theorem f_X8_odds_c197 {out : Int32 × wd_Mem} (rec : Int32 → Int32 → Option (Int32 × wd_Mem)) (k : Int32 → Option (Int32 × wd_Mem)) (μ : wd_Mem) (x2 x3 x4 x5 x6 : Int32) (a : Nat) (hrec : ∀ (x5 x6 : Int32), rec x5 x6 = some out → out.2 a = μ a) (hk : ∀ (x5 : Int32), k x5 = some out → out.2 a = μ a) (ha : ¬ (a = 45 ∨ a = 46 ∨ a = 47)) (h : X8_odds_c197 rec k μ x2 x3 x4 x5 x6 = some out) : out.2 a = μ a := by
  unfold X8_odds_c197 at h
  by_cases c12 : x6 = 0
  · have h := (if_pos c12).symm.trans h
    exact (hk _ h)
  · have h := (if_neg c12).symm.trans h
    obtain ⟨-, h⟩ := wd_chk_some h
    exact (hrec _ _ h)
theorem f_X8_odds_l197 {out : Int32 × wd_Mem} (k : Int32 → Option (Int32 × wd_Mem)) (μ : wd_Mem) (x2 x3 x4 : Int32) (a : Nat) (hk : ∀ (x5 : Int32), k x5 = some out → out.2 a = μ a) (ha : ¬ (a = 45 ∨ a = 46 ∨ a = 47)) : ∀ (n : Nat) (x5 x6 : Int32), X8_odds_l197 k μ x2 x3 x4 n x5 x6 = some out → out.2 a = μ a := by
  intro n
  induction n with
  | zero => intro x5 x6 h; exact absurd h (by unfold X8_odds_l197; simp)
  | succ n ih =>
    intro x5 x6 h
    exact f_X8_odds_c197 (X8_odds_l197 k μ x2 x3 x4 n) k μ x2 x3 x4 x5 x6 a  (fun x5 x6 h => ih x5 x6 h) hk ha h
theorem f_X8_odds_b220 {out : Int32 × wd_Mem} (μ : wd_Mem) (x2 x3 x4 x5 : Int32) (a : Nat)  (ha : ¬ (a = 45 ∨ a = 46 ∨ a = 47)) (h : X8_odds_b220 μ x2 x3 x4 x5 = some out) : out.2 a = μ a := by
  unfold X8_odds_b220 at h
  by_cases c13 : x2 = 0
  · have h := (if_pos c13).symm.trans h
    obtain ⟨-, h⟩ := wd_chk_some h
    have e9 := Option.some.inj h
    subst e9
    exact rfl
  · have h := (if_neg c13).symm.trans h
    obtain ⟨-, h⟩ := wd_chk_some h
    have e9 := Option.some.inj h
    subst e9
    exact rfl
theorem f_X8_odds_b190 {out : Int32 × wd_Mem} (μ : wd_Mem) (x2 x3 x4 : Int32) (a : Nat)  (ha : ¬ (a = 45 ∨ a = 46 ∨ a = 47)) (h : X8_odds_b190 μ x2 x3 x4 = some out) : out.2 a = μ a := by
  unfold X8_odds_b190 at h
  exact (f_X8_odds_l197 (fun x5 => X8_odds_b220 μ x2 x3 x4 x5) μ x2 x3 x4 a  (fun x5 h => f_X8_odds_b220 μ x2 x3 x4 x5 a  ha h) ha wd_big x4 x3 h).trans rfl
theorem f_X8_odds_b46 {out : Int32 × wd_Mem} (μ : wd_Mem) (x1 x2 x3 : Int32) (a : Nat)  (ha : ¬ (a = 45 ∨ a = 46 ∨ a = 47)) (h : X8_odds_b46 μ x1 x2 x3 = some out) : out.2 a = μ a := by
  unfold X8_odds_b46 at h
  exact (f_X8_odds_l52 (fun x4 μ => X8_odds_b190 μ x2 x3 x4) x1 x2 x3 a  (fun x4 μ h => f_X8_odds_b190 μ x2 x3 x4 a  ha h) ha wd_big (0 : Int32) (0 : Int32) μ h).trans rfl
theorem f_X8_odds_b0 {out : Int32 × wd_Mem} (μ : wd_Mem) (x1 x2 : Int32) (a : Nat)  (ha : ¬ (a = 45 ∨ a = 46 ∨ a = 47)) (h : X8_odds_b0 μ x1 x2 = some out) : out.2 a = μ a := by
  unfold X8_odds_b0 at h
  by_cases c1 : (X8_in μ x1 (0 : Int32) (10 : Int32)) = 0
  · have h := (if_pos c1).symm.trans h
    exact (f_X8_odds_b19 μ a  ha h).trans rfl
  · have h := (if_neg c1).symm.trans h
    by_cases c2 : (X8_in μ x2 (0 : Int32) (1 : Int32)) = 0
    · have h := (if_pos c2).symm.trans h
      exact (f_X8_odds_b19 μ a  ha h).trans rfl
    · have h := (if_neg c2).symm.trans h
      exact (f_X8_odds_l26 (fun x3 => X8_odds_b46 μ x1 x2 x3) μ x1 x2 a  (fun x3 h => f_X8_odds_b46 μ x1 x2 x3 a  ha h) ha wd_big (1 : Int32) (0 : Int32) h).trans rfl
theorem fr_X8_odds {out : Int32 × wd_Mem} {μ : wd_Mem} {x1 x2 : Int32} (a : Nat)  (ha : ¬ (a = 45 ∨ a = 46 ∨ a = 47)) (h : X8_odds μ x1 x2 = some out) : out.2 a = μ a := f_X8_odds_b0 μ x1 x2 a  ha h
theorem f_X8_keep_c20 {out : Int32 × wd_Mem} (rec : Int32 → wd_Mem → Option (Int32 × wd_Mem)) (k : wd_Mem → Option (Int32 × wd_Mem)) (μ : wd_Mem) (x1 x2 : Int32) (a : Nat) (hrec : ∀ (x2 : Int32) (ν : wd_Mem), rec x2 ν = some out → out.2 a = ν a) (hk : ∀  (ν : wd_Mem), k ν = some out → out.2 a = ν a) (ha : ¬ (a = 36 ∨ a = 37)) (h : X8_keep_c20 rec k μ x1 x2 = some out) : out.2 a = μ a := by
  unfold X8_keep_c20 at h
  by_cases c2 : (30 : Int32) ≤ x2
  · have h := (if_pos c2).symm.trans h
    exact (hk _ h).trans rfl
  · have h := (if_neg c2).symm.trans h
    obtain ⟨-, h⟩ := wd_chk_some h
    obtain ⟨-, h⟩ := wd_chk_some h
    exact (hrec _ _ h).trans (wd_fr1 (by omega) rfl)
theorem f_X8_keep_l20 {out : Int32 × wd_Mem} (k : wd_Mem → Option (Int32 × wd_Mem)) (x1 : Int32) (a : Nat) (hk : ∀  (ν : wd_Mem), k ν = some out → out.2 a = ν a) (ha : ¬ (a = 36 ∨ a = 37)) : ∀ (n : Nat) (x2 : Int32) (μ : wd_Mem), X8_keep_l20 k x1 n x2 μ = some out → out.2 a = μ a := by
  intro n
  induction n with
  | zero => intro x2 μ h; exact absurd h (by unfold X8_keep_l20; simp)
  | succ n ih =>
    intro x2 μ h
    exact f_X8_keep_c20 (X8_keep_l20 k x1 n) k μ x1 x2 a  (fun x2 μ h => ih x2 μ h) hk ha h
theorem f_X8_keep_b49 {out : Int32 × wd_Mem} (μ : wd_Mem) (a : Nat)  (ha : ¬ (a = 36 ∨ a = 37)) (h : X8_keep_b49 μ = some out) : out.2 a = μ a := by
  unfold X8_keep_b49 at h
  have e9 := Option.some.inj h
  subst e9
  exact rfl
theorem f_X8_keep_b0 {out : Int32 × wd_Mem} (μ : wd_Mem) (x1 : Int32) (a : Nat)  (ha : ¬ (a = 36 ∨ a = 37)) (h : X8_keep_b0 μ x1 = some out) : out.2 a = μ a := by
  unfold X8_keep_b0 at h
  by_cases c1 : (X8_in μ x1 (0 : Int32) (1 : Int32)) = 0
  · have h := (if_pos c1).symm.trans h
    have e9 := Option.some.inj h
    subst e9
    exact rfl
  · have h := (if_neg c1).symm.trans h
    obtain ⟨-, h⟩ := wd_chk_some h
    exact (f_X8_keep_l20 (fun μ => X8_keep_b49 μ) x1 a  (fun μ h => f_X8_keep_b49 μ a  ha h) ha wd_big (0 : Int32) (mset μ 36 (Int32.toNatClampNeg x1) (vp_nar .boolean (1 : Int32))) h).trans (wd_fr1 (by omega) rfl)
theorem fr_X8_keep {out : Int32 × wd_Mem} {μ : wd_Mem} {x1 : Int32} (a : Nat)  (ha : ¬ (a = 36 ∨ a = 37)) (h : X8_keep μ x1 = some out) : out.2 a = μ a := f_X8_keep_b0 μ x1 a  ha h
theorem f_X8_back_c25 {out : Int32 × wd_Mem} (rec : Int32 → wd_Mem → Option (Int32 × wd_Mem)) (k : wd_Mem → Option (Int32 × wd_Mem)) (μ : wd_Mem) (x1 x2 : Int32) (a : Nat) (hrec : ∀ (x2 : Int32) (ν : wd_Mem), rec x2 ν = some out → out.2 a = ν a) (hk : ∀  (ν : wd_Mem), k ν = some out → out.2 a = ν a) (ha : ¬ (a = 31 ∨ a = 34)) (h : X8_back_c25 rec k μ x1 x2 = some out) : out.2 a = μ a := by
  unfold X8_back_c25 at h
  by_cases c3 : (30 : Int32) ≤ x2
  · have h := (if_pos c3).symm.trans h
    exact (hk _ h).trans rfl
  · have h := (if_neg c3).symm.trans h
    obtain ⟨-, h⟩ := wd_chk_some h
    obtain ⟨-, h⟩ := wd_chk_some h
    exact (hrec _ _ h).trans (wd_fr1 (by omega) rfl)
theorem f_X8_back_l25 {out : Int32 × wd_Mem} (k : wd_Mem → Option (Int32 × wd_Mem)) (x1 : Int32) (a : Nat) (hk : ∀  (ν : wd_Mem), k ν = some out → out.2 a = ν a) (ha : ¬ (a = 31 ∨ a = 34)) : ∀ (n : Nat) (x2 : Int32) (μ : wd_Mem), X8_back_l25 k x1 n x2 μ = some out → out.2 a = μ a := by
  intro n
  induction n with
  | zero => intro x2 μ h; exact absurd h (by unfold X8_back_l25; simp)
  | succ n ih =>
    intro x2 μ h
    exact f_X8_back_c25 (X8_back_l25 k x1 n) k μ x1 x2 a  (fun x2 μ h => ih x2 μ h) hk ha h
theorem f_X8_back_b54 {out : Int32 × wd_Mem} (μ : wd_Mem) (a : Nat)  (ha : ¬ (a = 31 ∨ a = 34)) (h : X8_back_b54 μ = some out) : out.2 a = μ a := by
  unfold X8_back_b54 at h
  have e9 := Option.some.inj h
  subst e9
  exact (wd_fr1 (by omega) rfl)
theorem f_X8_back_b0 {out : Int32 × wd_Mem} (μ : wd_Mem) (x1 : Int32) (a : Nat)  (ha : ¬ (a = 31 ∨ a = 34)) (h : X8_back_b0 μ x1 = some out) : out.2 a = μ a := by
  unfold X8_back_b0 at h
  by_cases c1 : (X8_in μ x1 (0 : Int32) (1 : Int32)) = 0
  · have h := (if_pos c1).symm.trans h
    have e9 := Option.some.inj h
    subst e9
    exact rfl
  · have h := (if_neg c1).symm.trans h
    obtain ⟨-, h⟩ := wd_chk_some h
    by_cases c2 : (μ 36 (Int32.toNatClampNeg x1)) = 0
    · have h := (if_pos c2).symm.trans h
      have e9 := Option.some.inj h
      subst e9
      exact rfl
    · have h := (if_neg c2).symm.trans h
      exact (f_X8_back_l25 (fun μ => X8_back_b54 μ) x1 a  (fun μ h => f_X8_back_b54 μ a  ha h) ha wd_big (0 : Int32) μ h).trans rfl
theorem fr_X8_back {out : Int32 × wd_Mem} {μ : wd_Mem} {x1 : Int32} (a : Nat)  (ha : ¬ (a = 31 ∨ a = 34)) (h : X8_back μ x1 = some out) : out.2 a = μ a := f_X8_back_b0 μ x1 a  ha h
theorem f_X8_countSchedules_b0 {out : Int32 × wd_Mem} (μ : wd_Mem) (a : Nat)  (ha : ¬ (a = 45 ∨ a = 46 ∨ a = 47)) (h : X8_countSchedules_b0 μ = some out) : out.2 a = μ a := by
  unfold X8_countSchedules_b0 at h
  obtain ⟨r1, er1, h⟩ := wd_bind_some h
  have fr1 : r1 a = μ a := (fr_X8_plain a  (by omega) er1).trans rfl
  obtain ⟨r2, er2, h⟩ := wd_bind_some h
  have fr2 : r2.2 a = μ a := (fr_X8_schedules a  (by omega) er2).trans fr1
  have e9 := Option.some.inj h
  subst e9
  exact fr2
theorem fr_X8_countSchedules {out : Int32 × wd_Mem} {μ : wd_Mem} (a : Nat)  (ha : ¬ (a = 45 ∨ a = 46 ∨ a = 47)) (h : X8_countSchedules μ = some out) : out.2 a = μ a := f_X8_countSchedules_b0 μ  a  ha h
theorem f_X8_shortest_c6 {out : Int32 × wd_Mem} (rec : Int32 → wd_Mem → Option (Int32 × wd_Mem)) (k : wd_Mem → Option (Int32 × wd_Mem)) (μ : wd_Mem) (x1 : Int32) (a : Nat) (hrec : ∀ (x1 : Int32) (ν : wd_Mem), rec x1 ν = some out → out.2 a = ν a) (hk : ∀  (ν : wd_Mem), k ν = some out → out.2 a = ν a) (ha : ¬ (a = 45 ∨ a = 46 ∨ a = 47)) (h : X8_shortest_c6 rec k μ x1 = some out) : out.2 a = μ a := by
  unfold X8_shortest_c6 at h
  by_cases c2 : (16 : Int32) < x1
  · have h := (if_pos c2).symm.trans h
    exact (hk _ h).trans rfl
  · have h := (if_neg c2).symm.trans h
    obtain ⟨r3, er3, h⟩ := wd_bind_some h
    have fr3 : r3.2 a = μ a := (fr_X8_schedules a  (by omega) er3).trans rfl
    by_cases c4 : r3.1 ≤ 0
    · have h := (if_pos c4).symm.trans h
      exact (hrec _ _ h).trans fr3
    · have h := (if_neg c4).symm.trans h
      have e9 := Option.some.inj h
      subst e9
      exact fr3
theorem f_X8_shortest_l6 {out : Int32 × wd_Mem} (k : wd_Mem → Option (Int32 × wd_Mem)) (a : Nat) (hk : ∀  (ν : wd_Mem), k ν = some out → out.2 a = ν a) (ha : ¬ (a = 45 ∨ a = 46 ∨ a = 47)) : ∀ (n : Nat) (x1 : Int32) (μ : wd_Mem), X8_shortest_l6 k n x1 μ = some out → out.2 a = μ a := by
  intro n
  induction n with
  | zero => intro x1 μ h; exact absurd h (by unfold X8_shortest_l6; simp)
  | succ n ih =>
    intro x1 μ h
    exact f_X8_shortest_c6 (X8_shortest_l6 k n) k μ x1 a  (fun x1 μ h => ih x1 μ h) hk ha h
theorem f_X8_shortest_b32 {out : Int32 × wd_Mem} (μ : wd_Mem) (a : Nat)  (ha : ¬ (a = 45 ∨ a = 46 ∨ a = 47)) (h : X8_shortest_b32 μ = some out) : out.2 a = μ a := by
  unfold X8_shortest_b32 at h
  have e9 := Option.some.inj h
  subst e9
  exact rfl
theorem f_X8_shortest_b0 {out : Int32 × wd_Mem} (μ : wd_Mem) (a : Nat)  (ha : ¬ (a = 45 ∨ a = 46 ∨ a = 47)) (h : X8_shortest_b0 μ = some out) : out.2 a = μ a := by
  unfold X8_shortest_b0 at h
  obtain ⟨r1, er1, h⟩ := wd_bind_some h
  have fr1 : r1 a = μ a := (fr_X8_plain a  (by omega) er1).trans rfl
  exact (f_X8_shortest_l6 (fun μ => X8_shortest_b32 μ) a  (fun μ h => f_X8_shortest_b32 μ a  ha h) ha wd_big (0 : Int32) r1 h).trans fr1
theorem fr_X8_shortest {out : Int32 × wd_Mem} {μ : wd_Mem} (a : Nat)  (ha : ¬ (a = 45 ∨ a = 46 ∨ a = 47)) (h : X8_shortest μ = some out) : out.2 a = μ a := f_X8_shortest_b0 μ  a  ha h
theorem f_X8_heavy_c44 {out : Int32 × wd_Mem} (rec : Int32 → Int32 → Option (Int32 × wd_Mem)) (k : Int32 → Option (Int32 × wd_Mem)) (μ : wd_Mem) (x1 x2 x3 x4 x5 x6 : Int32) (a : Nat) (hrec : ∀ (x5 x6 : Int32), rec x5 x6 = some out → out.2 a = μ a) (hk : ∀ (x5 : Int32), k x5 = some out → out.2 a = μ a) (ha : ¬ (a = 40 ∨ a = 41)) (h : X8_heavy_c44 rec k μ x1 x2 x3 x4 x5 x6 = some out) : out.2 a = μ a := by
  unfold X8_heavy_c44 at h
  by_cases c4 : (μ 31 0) ≤ x6
  · have h := (if_pos c4).symm.trans h
    exact (hk _ h)
  · have h := (if_neg c4).symm.trans h
    obtain ⟨r5, er5, h⟩ := wd_bind_some h
    exact (hrec _ _ h)
theorem f_X8_heavy_l44 {out : Int32 × wd_Mem} (k : Int32 → Option (Int32 × wd_Mem)) (μ : wd_Mem) (x1 x2 x3 x4 : Int32) (a : Nat) (hk : ∀ (x5 : Int32), k x5 = some out → out.2 a = μ a) (ha : ¬ (a = 40 ∨ a = 41)) : ∀ (n : Nat) (x5 x6 : Int32), X8_heavy_l44 k μ x1 x2 x3 x4 n x5 x6 = some out → out.2 a = μ a := by
  intro n
  induction n with
  | zero => intro x5 x6 h; exact absurd h (by unfold X8_heavy_l44; simp)
  | succ n ih =>
    intro x5 x6 h
    exact f_X8_heavy_c44 (X8_heavy_l44 k μ x1 x2 x3 x4 n) k μ x1 x2 x3 x4 x5 x6 a  (fun x5 x6 h => ih x5 x6 h) hk ha h
theorem f_X8_heavy_b103 {out : Int32 × wd_Mem} (rec : Int32 → Int32 → Int32 → Option (Int32 × wd_Mem)) (k : Int32 → Int32 → Option (Int32 × wd_Mem)) (μ : wd_Mem) (x1 x3 x4 s0 : Int32) (a : Nat) (hrec : ∀ (x1 x2 x4 : Int32), rec x1 x2 x4 = some out → out.2 a = μ a) (hk : ∀ (x1 x2 : Int32), k x1 x2 = some out → out.2 a = μ a) (ha : ¬ (a = 40 ∨ a = 41)) (h : X8_heavy_b103 rec k μ x1 x3 x4 s0 = some out) : out.2 a = μ a := by
  unfold X8_heavy_b103 at h
  exact (hrec _ _ _ h)
theorem f_X8_heavy_b90 {out : Int32 × wd_Mem} (rec : Int32 → Int32 → Int32 → Option (Int32 × wd_Mem)) (k : Int32 → Int32 → Option (Int32 × wd_Mem)) (μ : wd_Mem) (x2 x3 x4 x5 s0 : Int32) (a : Nat) (hrec : ∀ (x1 x2 x4 : Int32), rec x1 x2 x4 = some out → out.2 a = μ a) (hk : ∀ (x1 x2 : Int32), k x1 x2 = some out → out.2 a = μ a) (ha : ¬ (a = 40 ∨ a = 41)) (h : X8_heavy_b90 rec k μ x2 x3 x4 x5 s0 = some out) : out.2 a = μ a := by
  unfold X8_heavy_b90 at h
  by_cases c7 : x5 ≤ x2
  · have h := (if_pos c7).symm.trans h
    exact (f_X8_heavy_b103 rec k μ s0 x3 x4 x2 a hrec hk ha h).trans rfl
  · have h := (if_neg c7).symm.trans h
    exact (f_X8_heavy_b103 rec k μ s0 x3 x4 x5 a hrec hk ha h).trans rfl
theorem f_X8_heavy_b73 {out : Int32 × wd_Mem} (rec : Int32 → Int32 → Int32 → Option (Int32 × wd_Mem)) (k : Int32 → Int32 → Option (Int32 × wd_Mem)) (μ : wd_Mem) (x1 x2 x3 x4 x5 : Int32) (a : Nat) (hrec : ∀ (x1 x2 x4 : Int32), rec x1 x2 x4 = some out → out.2 a = μ a) (hk : ∀ (x1 x2 : Int32), k x1 x2 = some out → out.2 a = μ a) (ha : ¬ (a = 40 ∨ a = 41)) (h : X8_heavy_b73 rec k μ x1 x2 x3 x4 x5 = some out) : out.2 a = μ a := by
  unfold X8_heavy_b73 at h
  by_cases c6 : x5 ≤ x2
  · have h := (if_pos c6).symm.trans h
    exact (f_X8_heavy_b90 rec k μ x2 x3 x4 x5 x1 a hrec hk ha h).trans rfl
  · have h := (if_neg c6).symm.trans h
    exact (f_X8_heavy_b90 rec k μ x2 x3 x4 x5 (((100 : Int32) * x3) + x4) a hrec hk ha h).trans rfl
theorem f_X8_heavy_c22 {out : Int32 × wd_Mem} (rec : Int32 → Int32 → Int32 → Option (Int32 × wd_Mem)) (k : Int32 → Int32 → Option (Int32 × wd_Mem)) (μ : wd_Mem) (x1 x2 x3 x4 : Int32) (a : Nat) (hrec : ∀ (x1 x2 x4 : Int32), rec x1 x2 x4 = some out → out.2 a = μ a) (hk : ∀ (x1 x2 : Int32), k x1 x2 = some out → out.2 a = μ a) (ha : ¬ (a = 40 ∨ a = 41)) (h : X8_heavy_c22 rec k μ x1 x2 x3 x4 = some out) : out.2 a = μ a := by
  unfold X8_heavy_c22 at h
  by_cases c3 : (16 : Int32) < x4
  · have h := (if_pos c3).symm.trans h
    exact (hk _ _ h)
  · have h := (if_neg c3).symm.trans h
    exact (f_X8_heavy_l44 (fun x5 => X8_heavy_b73 rec k μ x1 x2 x3 x4 x5) μ x1 x2 x3 x4 a  (fun x5 h => f_X8_heavy_b73 rec k μ x1 x2 x3 x4 x5 a hrec hk ha h) ha wd_big ((-(μ 31 1)) * (x4 - x3)) (0 : Int32) h).trans rfl
theorem f_X8_heavy_l22 {out : Int32 × wd_Mem} (k : Int32 → Int32 → Option (Int32 × wd_Mem)) (μ : wd_Mem) (x3 : Int32) (a : Nat) (hk : ∀ (x1 x2 : Int32), k x1 x2 = some out → out.2 a = μ a) (ha : ¬ (a = 40 ∨ a = 41)) : ∀ (n : Nat) (x1 x2 x4 : Int32), X8_heavy_l22 k μ x3 n x1 x2 x4 = some out → out.2 a = μ a := by
  intro n
  induction n with
  | zero => intro x1 x2 x4 h; exact absurd h (by unfold X8_heavy_l22; simp)
  | succ n ih =>
    intro x1 x2 x4 h
    exact f_X8_heavy_c22 (X8_heavy_l22 k μ x3 n) k μ x1 x2 x3 x4 a  (fun x1 x2 x4 h => ih x1 x2 x4 h) hk ha h
theorem f_X8_heavy_b110 {out : Int32 × wd_Mem} (rec : Int32 → Int32 → Int32 → Option (Int32 × wd_Mem)) (k : Int32 → Option (Int32 × wd_Mem)) (μ : wd_Mem) (x1 x2 x3 : Int32) (a : Nat) (hrec : ∀ (x1 x2 x3 : Int32), rec x1 x2 x3 = some out → out.2 a = μ a) (hk : ∀ (x1 : Int32), k x1 = some out → out.2 a = μ a) (ha : ¬ (a = 40 ∨ a = 41)) (h : X8_heavy_b110 rec k μ x1 x2 x3 = some out) : out.2 a = μ a := by
  unfold X8_heavy_b110 at h
  exact (hrec _ _ _ h)
theorem f_X8_heavy_c11 {out : Int32 × wd_Mem} (rec : Int32 → Int32 → Int32 → Option (Int32 × wd_Mem)) (k : Int32 → Option (Int32 × wd_Mem)) (μ : wd_Mem) (x1 x2 x3 : Int32) (a : Nat) (hrec : ∀ (x1 x2 x3 : Int32), rec x1 x2 x3 = some out → out.2 a = μ a) (hk : ∀ (x1 : Int32), k x1 = some out → out.2 a = μ a) (ha : ¬ (a = 40 ∨ a = 41)) (h : X8_heavy_c11 rec k μ x1 x2 x3 = some out) : out.2 a = μ a := by
  unfold X8_heavy_c11 at h
  by_cases c2 : (16 : Int32) ≤ x3
  · have h := (if_pos c2).symm.trans h
    exact (hk _ h)
  · have h := (if_neg c2).symm.trans h
    exact (f_X8_heavy_l22 (fun x1 x2 => X8_heavy_b110 rec k μ x1 x2 x3) μ x3 a  (fun x1 x2 h => f_X8_heavy_b110 rec k μ x1 x2 x3 a hrec hk ha h) ha wd_big x1 x2 (x3 + (1 : Int32)) h).trans rfl
theorem f_X8_heavy_l11 {out : Int32 × wd_Mem} (k : Int32 → Option (Int32 × wd_Mem)) (μ : wd_Mem) (a : Nat) (hk : ∀ (x1 : Int32), k x1 = some out → out.2 a = μ a) (ha : ¬ (a = 40 ∨ a = 41)) : ∀ (n : Nat) (x1 x2 x3 : Int32), X8_heavy_l11 k μ n x1 x2 x3 = some out → out.2 a = μ a := by
  intro n
  induction n with
  | zero => intro x1 x2 x3 h; exact absurd h (by unfold X8_heavy_l11; simp)
  | succ n ih =>
    intro x1 x2 x3 h
    exact f_X8_heavy_c11 (X8_heavy_l11 k μ n) k μ x1 x2 x3 a  (fun x1 x2 x3 h => ih x1 x2 x3 h) hk ha h
theorem f_X8_heavy_b116 {out : Int32 × wd_Mem} (μ : wd_Mem) (x1 : Int32) (a : Nat)  (ha : ¬ (a = 40 ∨ a = 41)) (h : X8_heavy_b116 μ x1 = some out) : out.2 a = μ a := by
  unfold X8_heavy_b116 at h
  have e9 := Option.some.inj h
  subst e9
  exact rfl
theorem f_X8_heavy_b0 {out : Int32 × wd_Mem} (μ : wd_Mem) (a : Nat)  (ha : ¬ (a = 40 ∨ a = 41)) (h : X8_heavy_b0 μ = some out) : out.2 a = μ a := by
  unfold X8_heavy_b0 at h
  obtain ⟨r1, er1, h⟩ := wd_bind_some h
  have fr1 : r1 a = μ a := (fr_X8_asIs a  (by omega) er1).trans rfl
  exact (f_X8_heavy_l11 (fun x1 => X8_heavy_b116 r1 x1) r1 a  (fun x1 h => f_X8_heavy_b116 r1 x1 a  ha h) ha wd_big (-9 : Int32) (0 : Int32) (0 : Int32) h).trans fr1
theorem fr_X8_heavy {out : Int32 × wd_Mem} {μ : wd_Mem} (a : Nat)  (ha : ¬ (a = 40 ∨ a = 41)) (h : X8_heavy μ = some out) : out.2 a = μ a := f_X8_heavy_b0 μ  a  ha h
theorem f_X8_count_b0 {out : Int32 × wd_Mem} (μ : wd_Mem) (x1 : Int32) (a : Nat)  (ha : ¬ (a = 40 ∨ a = 41 ∨ a = 45 ∨ a = 46 ∨ a = 47)) (h : X8_count_b0 μ x1 = some out) : out.2 a = μ a := by
  unfold X8_count_b0 at h
  by_cases n1_0 : x1 = nI 0
  · have h := (if_pos n1_0).symm.trans h
    have e9 := Option.some.inj h
    subst e9
    exact rfl
  · have h := (if_neg n1_0).symm.trans h
    by_cases n1_1 : x1 = nI 1
    · have h := (if_pos n1_1).symm.trans h
      have e9 := Option.some.inj h
      subst e9
      exact rfl
    · have h := (if_neg n1_1).symm.trans h
      by_cases n1_2 : x1 = nI 2
      · have h := (if_pos n1_2).symm.trans h
        obtain ⟨r1, er1, h⟩ := wd_bind_some h
        by_cases c2 : r1 = 0
        · have h := (if_pos c2).symm.trans h
          have e9 := Option.some.inj h
          subst e9
          exact rfl
        · have h := (if_neg c2).symm.trans h
          have e9 := Option.some.inj h
          subst e9
          exact rfl
      · have h := (if_neg n1_2).symm.trans h
        by_cases n1_3 : x1 = nI 3
        · have h := (if_pos n1_3).symm.trans h
          obtain ⟨r3, er3, h⟩ := wd_bind_some h
          have fr3 : r3.2 a = μ a := (fr_X8_countSchedules a  (by omega) er3).trans rfl
          have e9 := Option.some.inj h
          subst e9
          exact fr3
        · have h := (if_neg n1_3).symm.trans h
          by_cases n1_4 : x1 = nI 4
          · have h := (if_pos n1_4).symm.trans h
            obtain ⟨r4, er4, h⟩ := wd_bind_some h
            have fr4 : r4.2 a = μ a := (fr_X8_shortest a  (by omega) er4).trans rfl
            have e9 := Option.some.inj h
            subst e9
            exact fr4
          · have h := (if_neg n1_4).symm.trans h
            by_cases n1_5 : x1 = nI 5
            · have h := (if_pos n1_5).symm.trans h
              obtain ⟨r5, er5, h⟩ := wd_bind_some h
              have fr5 : r5.2 a = μ a := (fr_X8_heavy a  (by omega) er5).trans rfl
              have e9 := Option.some.inj h
              subst e9
              exact fr5
            · have h := (if_neg n1_5).symm.trans h
              by_cases n1_6 : x1 = nI 6
              · have h := (if_pos n1_6).symm.trans h
                obtain ⟨r6, er6, h⟩ := wd_bind_some h
                have e9 := Option.some.inj h
                subst e9
                exact rfl
              · have h := (if_neg n1_6).symm.trans h
                by_cases n1_7 : x1 = nI 7
                · have h := (if_pos n1_7).symm.trans h
                  have e9 := Option.some.inj h
                  subst e9
                  exact rfl
                · have h := (if_neg n1_7).symm.trans h
                  by_cases n1_8 : x1 = nI 8
                  · have h := (if_pos n1_8).symm.trans h
                    have e9 := Option.some.inj h
                    subst e9
                    exact rfl
                  · have h := (if_neg n1_8).symm.trans h
                    have e9 := Option.some.inj h
                    subst e9
                    exact rfl
theorem fr_X8_count {out : Int32 × wd_Mem} {μ : wd_Mem} {x1 : Int32} (a : Nat)  (ha : ¬ (a = 40 ∨ a = 41 ∨ a = 45 ∨ a = 46 ∨ a = 47)) (h : X8_count μ x1 = some out) : out.2 a = μ a := f_X8_count_b0 μ x1 a  ha h
