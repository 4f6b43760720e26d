/-! ===== items ===== -/
abbrev pSt : Type := Nat × Nat × (Nat → Nat) × (Nat → Nat) × (Nat → Nat) × (Nat → Nat)
def roomI (T : Nat → Nat) (len m : Nat) (e l d c : Nat → Nat) (p : Nat) : Option pSt × Nat := if rnB T len 1 20 p = true then (if tkK T len (tkN T len p) = 59 then (some (m, tkV T len p, e, l, d, c), tkN T len (tkN T len p)) else (none, tkP T len (tkN T len p))) else (none, tkP T len p)
def taskI (T : Nat → Nat) (len m r : Nat) (e l d c : Nat → Nat) (p1 p2 p3 p4 p5 : Nat) : Option pSt × Nat := if rnB T len 0 15 p1 = true then (if rnB T len (tkV T len p1 + 1) 16 p2 = true then (if rnB T len 1 (min 9 (tkV T len p2 - tkV T len p1)) p3 = true then (if rnB T len 1 (min 9 r) p4 = true then (if tkK T len p5 = 59 then (some (m + 1, r, bset e m (tkV T len p1), bset l m (tkV T len p2), bset d m (tkV T len p3), bset c m (tkV T len p4)), tkN T len p5) else (none, tkP T len p5)) else (none, tkP T len p4)) else (none, tkP T len p3)) else (none, tkP T len p2)) else (none, tkP T len p1)
def itm (T : Nat → Nat) (len : Nat) (fst : Bool) (m r : Nat) (e l d c : Nat → Nat) (p : Nat) : Option pSt × Nat := if tkK T len p = 99 then (if fst = true then roomI T len m e l d c (tkN T len p) else (none, tkP T len p)) else if tkK T len p = 116 then (if 5 ≤ m then (none, tkP T len p) else taskI T len m r e l d c (tkN T len p) (tkN T len (tkN T len p)) (tkN T len (tkN T len (tkN T len p))) (tkN T len (tkN T len (tkN T len (tkN T len p)))) (tkN T len (tkN T len (tkN T len (tkN T len (tkN T len p)))))) else (none, tkP T len p)
def okSt (m r : Nat) (e l d c : Nat → Nat) : Prop := m ≤ 5 ∧ 1 ≤ r ∧ r ≤ 20 ∧ ∀ i, i < m → e i ≤ 16 ∧ l i ≤ 16 ∧ 1 ≤ d i ∧ d i ≤ 9 ∧ 1 ≤ c i ∧ c i ≤ 9 ∧ c i ≤ r
def toldX (ν : wd_Mem) (m r : Nat) (e l d c : Nat → Nat) : Prop := ν 6 1 = zI (m : Nat) ∧ ν 6 0 = zI (r : Nat) ∧ ∀ i, i < m → ν 53 i = zI (e i : Nat) ∧ ν 53 (5 + i) = zI (l i : Nat) ∧ ν 54 i = -9 ∧ ν 54 (5 + i) = -9 ∧ ν 55 i = -9 ∧ ν 55 (5 + i) = -9 ∧ ν 7 i = zI (d i : Nat) ∧ ν 8 i = zI (c i : Nat)
def toldM (ν : wd_Mem) (m r : Nat) (e l d c : Nat → Nat) : Prop := ν 31 17 = zI (m : Nat) ∧ ν 31 18 = zI (r : Nat) ∧ ∀ i, i < m → ν 39 (4 * i) = zI (e i : Nat) ∧ ν 39 (4 * i + 1) = zI (l i : Nat) ∧ ν 39 (4 * i + 2) = zI (d i : Nat) ∧ ν 39 (4 * i + 3) = zI (c i : Nat)
def frD (ν τ : wd_Mem) : Prop := τ 1 1 = ν 1 1 ∧ ∀ a, a ≠ 1 → ¬ (6 ≤ a ∧ a ≤ 8) → ¬ (53 ≤ a ∧ a ≤ 55) → τ a = ν a
theorem frD_trans {a b c : wd_Mem} (h : frD a b) (k : frD b c) : frD a c := ⟨by rw [k.1, h.1], fun x h1 h2 h3 => by rw [k.2 x h1 h2 h3, h.2 x h1 h2 h3]⟩
theorem frD_1 {a b : wd_Mem} (h : fr1 a b) : frD a b := ⟨h.1, fun x h1 _ _ => h.2 x h1⟩
theorem txX_D {T : Nat → Nat} {len : Nat} {ν τ : wd_Mem} (f : frD ν τ) (h : txX ν T len) : txX τ T len := by
  unfold txX
  rw [f.1, f.2 2 (by decide) (by omega) (by omega)]
  exact h
theorem toldX_1 {m r : Nat} {e l d c : Nat → Nat} {ν τ : wd_Mem} (f : fr1 ν τ) (h : toldX ν m r e l d c) : toldX τ m r e l d c := by
  unfold toldX
  rw [f.2 6 (by decide), f.2 53 (by decide), f.2 54 (by decide), f.2 55 (by decide), f.2 7 (by decide), f.2 8 (by decide)]
  exact h
def frR (ν τ : wd_Mem) : Prop := (∀ j, ¬ (12 ≤ j ∧ j ≤ 18) → τ 31 j = ν 31 j) ∧ ∀ a, a ≠ 31 → a ≠ 39 → τ a = ν a
theorem frR_trans {a b c : wd_Mem} (h : frR a b) (k : frR b c) : frR a c := ⟨fun j hj => by rw [k.1 j hj, h.1 j hj], fun x h1 h2 => by rw [k.2 x h1 h2, h.2 x h1 h2]⟩
theorem frR_N {a b : wd_Mem} (h : frN a b) : frR a b := ⟨fun j hj => h.1 j (by omega), fun x h1 _ => h.2 x h1⟩
theorem txM_R {T : Nat → Nat} {len : Nat} {ν τ : wd_Mem} (f : frR ν τ) (h : txM ν T len) : txM τ T len := by
  unfold txM
  rw [f.1 10 (by omega), f.2 38 (by decide) (by decide)]
  exact h
theorem toldM_N {m r : Nat} {e l d c : Nat → Nat} {ν τ : wd_Mem} (f : frN ν τ) (h : toldM ν m r e l d c) : toldM τ m r e l d c := by
  unfold toldM
  rw [f.1 17 (by omega), f.1 18 (by omega), f.2 39 (by decide)]
  exact h
section
variable {T : Nat → Nat} {len : Nat}
theorem faultX {ν : wd_Mem} {f : Nat} {rec : Int32 → wd_Mem → Option (Int32 × wd_Mem)} {K : wd_Mem → Option (Int32 × wd_Mem)} {x3 : Int32} (h : ν 1 4 = zI (f : Nat)) : X5_read_b69 rec K 6 52 ν x3 0 = some (zI (-10 - (f : Int)), ν) := by
  unfold X5_read_b69
  rw [if_pos rfl, h, show (-10 : Int32) = zI (-10) from rfl, zI_sub]
theorem endSX {ν : wd_Mem} {p : Nat} {rec : Int32 → wd_Mem → Option (Int32 × wd_Mem)} {K : wd_Mem → Option (Int32 × wd_Mem)} {x3 : Int32} (hp : p ≤ len) (ht : txX ν T len) (hpl : ν 1 2 = zI (p : Nat)) : ∃ τ : wd_Mem, X5_read_b69 rec K 6 52 ν x3 1 = (if tkK T len p = 59 then rec (x3 + 1) τ else some (zI (-10 - (tkP T len p : Int)), τ)) ∧ τ 1 2 = zI (tkN T len p : Nat) ∧ fr1 ν τ := by
  obtain ⟨τ, a1, a2, a3, a4⟩ := endX' hp ht hpl
  refine ⟨τ, ?_, a2, a4⟩
  unfold X5_read_b69
  rw [if_neg (by decide), a1]
  simp only [Option.bind_some]
  rw [a3, show (-10 : Int32) = zI (-10) from rfl, zI_sub]
  by_cases q : tkK T len p = 59
  · rw [decide_eq_true q, if_neg (by decide), if_pos q]
  · rw [decide_eq_false q, if_pos (by decide), if_neg q]
def outX (ν : wd_Mem) (rec : Int32 → wd_Mem → Option (Int32 × wd_Mem)) (x3 : Int32) (L : Option (Int32 × wd_Mem)) (o : Option pSt × Nat) : Prop := ∃ τ : wd_Mem, frD ν τ ∧ ((∃ f : Nat, o = (none, f) ∧ L = some (zI (-10 - (f : Int)), τ)) ∨ ∃ (m r : Nat) (e l d c : Nat → Nat) (p : Nat), o = (some (m, r, e, l, d, c), p) ∧ L = rec (x3 + 1) τ ∧ toldX τ m r e l d c ∧ τ 1 2 = zI (p : Nat))
theorem roomX' {ν : wd_Mem} {p m r : Nat} {e l d c : Nat → Nat} {rec : Int32 → wd_Mem → Option (Int32 × wd_Mem)} {K : wd_Mem → Option (Int32 × wd_Mem)} {x3 : Int32} (hp : p ≤ len) (ht : txX ν T len) (hpl : ν 1 2 = zI (p : Nat)) (ho : toldX ν m r e l d c) : outX ν rec x3 ((X5_readRoom 6 ν).bind (fun r11 => (if r11.1 = 0 then X5_read_b59 rec K 6 52 r11.2 x3 else X5_read_b69 rec K 6 52 r11.2 x3 (1 : Int32)))) (roomI T len m e l d c p) := by
  obtain ⟨τ1, a1, a2, a3, a4, a5⟩ := numX (lo := 1) (hi := 20) (by omega) (by omega) hp ht hpl
  have bd := tk_bd (T := T) hp
  have a1' : X5_readNumber ν 1 20 = _ := a1
  unfold X5_readRoom X5_readRoom_b0 roomI X5_read_b59
  rw [a1']
  simp only [Option.bind_some]
  by_cases hr : rnB T len 1 20 p = true
  · rw [hr] at a4 ⊢
    rw [if_neg (by decide), if_pos rfl]
    simp only [Option.bind_some]
    rw [if_neg (by decide)]
    have fR : frD τ1 (mset τ1 6 0 (τ1 1 5)) := ⟨mset_h _ _ _ _ (by decide), fun a h1 h2 h3 => mset_ne (by omega)⟩
    have ho1 := toldX_1 a5 ho
    obtain ⟨τ2, b1, b2, b3⟩ := endSX (rec := rec) (K := K) (x3 := x3) (p := tkN T len p) (by omega) (txX_D fR (txX_f a5 ht)) (by rw [mset_h _ _ _ _ (by decide)]; exact a2)
    rw [b1]
    refine ⟨τ2, frD_trans (frD_1 a5) (frD_trans fR (frD_1 b3)), ?_⟩
    by_cases q : tkK T len (tkN T len p) = 59
    · rw [if_pos q, if_pos q]
      refine Or.inr ⟨m, tkV T len p, e, l, d, c, _, rfl, rfl, toldX_1 b3 ⟨?_, ?_, fun i hi => ?_⟩, b2⟩
      · rw [mset_j _ _ _ _ (by decide)]; exact ho1.1
      · rw [mset_eq]; exact a4 rfl
      · rw [mset_ne (show 53 ≠ 6 by decide), mset_ne (show 54 ≠ 6 by decide), mset_ne (show 55 ≠ 6 by decide), mset_ne (show 7 ≠ 6 by decide), mset_ne (show 8 ≠ 6 by decide)]
        exact ho1.2.2 i hi
    · rw [if_neg q, if_neg q]
      exact Or.inl ⟨_, rfl, rfl⟩
  · have hr' : rnB T len 1 20 p = false := Bool.eq_false_iff.mpr hr
    rw [hr', if_pos (by decide), if_neg (by decide)]
    simp only [Option.bind_some, if_true]
    exact ⟨τ1, frD_1 a5, Or.inl ⟨_, rfl, faultX a3⟩⟩
theorem addTX {ν : wd_Mem} {m r a b x y : Nat} {e l d c : Nat → Nat} (hm : m < 5) (ho : toldX ν m r e l d c) (hy : ν 1 5 = zI (y : Nat)) : ∃ τ : wd_Mem, (X6_open 52 ν (ν 6 1) (zI (a : Nat)) (zI (b : Nat))).bind (fun r11 => (X4_add 6 r11 (zI (x : Nat)) (r11 1 5)).bind (fun r12 => some ((1 : Int32), r12))) = some (1, τ) ∧ toldX τ (m + 1) r (bset e m a) (bset l m b) (bset d m x) (bset c m y) ∧ τ 1 = ν 1 ∧ ∀ k, ¬ (6 ≤ k ∧ k ≤ 8) → ¬ (53 ≤ k ∧ k ≤ 55) → τ k = ν k := by
  obtain ⟨o1, o2, o3⟩ := ho
  have v0 := move_eq (μ := ν) (h := 52) (i := m) (s := 0) hm (by omega) (zI (a : Nat)) (-9) (-9)
  simp only [Nat.mul_zero, Nat.zero_add, Nat.reduceAdd] at v0
  obtain ⟨ν1, h1⟩ : ∃ q, q = mset (mset (mset ν 53 m (zI (a : Nat))) 54 m (-9)) 55 m (-9) := ⟨_, rfl⟩
  rw [← h1] at v0
  have v1 := move_eq (μ := ν1) (h := 52) (i := m) (s := 1) hm (by omega) (zI (b : Nat)) (-9) (-9)
  simp only [Nat.mul_one, Nat.reduceAdd] at v1
  obtain ⟨ν2, h2⟩ : ∃ q, q = mset (mset (mset ν1 53 (5 + m) (zI (b : Nat))) 54 (5 + m) (-9)) 55 (5 + m) (-9) := ⟨_, rfl⟩
  rw [← h2] at v1
  have g : ∀ k, k ≠ 53 → k ≠ 54 → k ≠ 55 → ν2 k = ν k := fun k p q w => by rw [h2, mset_ne w, mset_ne q, mset_ne p, h1, mset_ne w, mset_ne q, mset_ne p]
  obtain ⟨ν3, h3⟩ : ∃ q, q = mset (mset (mset ν2 7 m (zI (x : Nat))) 8 m (zI (y : Nat))) 6 1 (zI ((m + 1 : Nat) : Int)) := ⟨_, rfl⟩
  refine ⟨ν3, ?_, ?_, ?_, fun k p q => by rw [h3, mset_ne (by omega), mset_ne (by omega), mset_ne (by omega), g k (by omega) (by omega) (by omega)]⟩
  · unfold X6_open X6_open_b0
    rw [o1, show X6_move 52 ν (zI (m : Nat)) 0 (zI (a : Nat)) (-9) (-9) = some ν1 from v0]
    simp only [Option.bind_some]
    rw [show X6_move 52 ν1 (zI (m : Nat)) 1 (zI (b : Nat)) (-9) (-9) = some ν2 from v1]
    simp only [Option.bind_some]
    have k61 : ν2 6 1 = zI (m : Nat) := by rw [g 6 (by decide) (by decide) (by decide)]; exact o1
    have k15 : ν2 1 5 = zI (y : Nat) := by rw [g 1 (by decide) (by decide) (by decide)]; exact hy
    have e1 : zI (m : Int) + (1 : Int32) = zI ((m + 1 : Nat) : Int) := by rw [z_1, zI_add]; rfl
    unfold X4_add X4_add_b0
    simp only [Nat.reduceAdd]
    rw [k61, k15, if_neg (by rw [z_5, zI_le (zR_small (by omega) (by omega)) (zR_small (by omega) (by omega))]; omega), wd_chk_in (by omega) (by omega) (by omega), zI_clN (by omega)]
    have k2 : mset ν2 7 m (zI (x : Nat)) 6 1 = zI (m : Nat) := by rw [mset_h _ _ _ _ (by decide)]; exact k61
    rw [k2, wd_chk_in (by omega) (by omega) (by omega), zI_clN (by omega)]
    have k3 : mset (mset ν2 7 m (zI (x : Nat))) 8 m (zI (y : Nat)) 6 1 = zI (m : Nat) := by rw [mset_h _ _ _ _ (by decide)]; exact k2
    rw [k3, e1, ← h3]
    rfl
  · have r53 : ν3 53 = ν2 53 := by rw [h3, mset_ne (by decide), mset_ne (by decide), mset_ne (by decide)]
    have r54 : ν3 54 = ν2 54 := by rw [h3, mset_ne (by decide), mset_ne (by decide), mset_ne (by decide)]
    have r55 : ν3 55 = ν2 55 := by rw [h3, mset_ne (by decide), mset_ne (by decide), mset_ne (by decide)]
    have w53 : ∀ k, ν2 53 k = if k = 5 + m then zI (b : Nat) else if k = m then zI (a : Nat) else ν 53 k := fun k => by rw [h2, mset_h _ _ _ _ (by decide), mset_h _ _ _ _ (by decide), mset_if, h1, mset_h _ _ _ _ (by decide), mset_h _ _ _ _ (by decide), mset_if]
    have w54 : ∀ k, ν2 54 k = if k = 5 + m then -9 else if k = m then -9 else ν 54 k := fun k => by rw [h2, mset_h _ _ _ _ (by decide), mset_if, mset_h _ _ _ _ (by decide), h1, mset_h _ _ _ _ (by decide), mset_if, mset_h _ _ _ _ (by decide)]
    have w55 : ∀ k, ν2 55 k = if k = 5 + m then -9 else if k = m then -9 else ν 55 k := fun k => by rw [h2, mset_if, mset_h _ _ _ _ (by decide), mset_h _ _ _ _ (by decide), h1, mset_if, mset_h _ _ _ _ (by decide), mset_h _ _ _ _ (by decide)]
    have w7 : ∀ k, ν3 7 k = if k = m then zI (x : Nat) else ν 7 k := fun k => by rw [h3, mset_h _ _ _ _ (by decide), mset_h _ _ _ _ (by decide), mset_if, g 7 (by decide) (by decide) (by decide)]
    have w8 : ∀ k, ν3 8 k = if k = m then zI (y : Nat) else ν 8 k := fun k => by rw [h3, mset_h _ _ _ _ (by decide), mset_if, mset_h _ _ _ _ (by decide), g 8 (by decide) (by decide) (by decide)]
    refine ⟨by rw [h3, mset_eq], by rw [h3, mset_j _ _ _ _ (by decide), mset_h _ _ _ _ (by decide), mset_h _ _ _ _ (by decide), g 6 (by decide) (by decide) (by decide)]; exact o2, fun i hi => ?_⟩
    rw [r53, r54, r55, w53, w53, w54, w54, w55, w55, w7, w8]
    by_cases z : i = m
    · subst z
      rw [if_neg (by omega), if_pos rfl, if_pos rfl, if_neg (by omega), if_pos rfl, if_pos rfl, if_neg (by omega), if_pos rfl, if_pos rfl, if_pos rfl, if_pos rfl, bset_eq, bset_eq, bset_eq, bset_eq]
      exact ⟨rfl, rfl, rfl, rfl, rfl, rfl, rfl, rfl⟩
    · rw [if_neg (by omega), if_neg z, if_neg (by omega), if_neg (by omega), if_neg (by omega), if_neg z, if_neg (by omega), if_neg (by omega), if_neg (by omega), if_neg z, if_neg (by omega), if_neg (by omega), if_neg z, if_neg z, bset_ne z, bset_ne z, bset_ne z, bset_ne z]
      exact o3 i (by omega)
  · rw [h3, mset_ne (by decide), mset_ne (by decide), mset_ne (by decide), g 1 (by decide) (by decide) (by decide)]
theorem rn_bd {lo hi p : Nat} (h : rnB T len lo hi p = true) : lo ≤ tkV T len p ∧ tkV T len p ≤ hi := (of_decide_eq_true h).2
theorem taskX' {ν : wd_Mem} {p m r : Nat} {e l d c : Nat → Nat} {rec : Int32 → wd_Mem → Option (Int32 × wd_Mem)} {K : wd_Mem → Option (Int32 × wd_Mem)} {x3 : Int32} (hp : p ≤ len) (ht : txX ν T len) (hpl : ν 1 2 = zI (p : Nat)) (hk : ν 1 3 = 116) (hm : m < 5) (hr : 1 ≤ r ∧ r ≤ 20) (ho : toldX ν m r e l d c) : outX ν rec x3 ((X5_readTask 6 52 ν).bind (fun r6 => X5_read_b69 rec K 6 52 r6.2 x3 r6.1)) (taskI T len m r e l d c p (tkN T len p) (tkN T len (tkN T len p)) (tkN T len (tkN T len (tkN T len p))) (tkN T len (tkN T len (tkN T len (tkN T len p))))) := by
  have b1 := tk_bd (T := T) hp
  obtain ⟨p2, hp2⟩ : ∃ q, q = tkN T len p := ⟨_, rfl⟩
  rw [← hp2] at b1 ⊢
  have b2 := tk_bd (T := T) (show p2 ≤ len by omega)
  obtain ⟨p3, hp3⟩ : ∃ q, q = tkN T len p2 := ⟨_, rfl⟩
  rw [← hp3] at b2 ⊢
  have b3 := tk_bd (T := T) (show p3 ≤ len by omega)
  obtain ⟨p4, hp4⟩ : ∃ q, q = tkN T len p3 := ⟨_, rfl⟩
  rw [← hp4] at b3 ⊢
  have b4 := tk_bd (T := T) (show p4 ≤ len by omega)
  obtain ⟨p5, hp5⟩ : ∃ q, q = tkN T len p4 := ⟨_, rfl⟩
  rw [← hp5] at b4 ⊢
  unfold X5_readTask X5_readTask_b0 X5_readTask_b27 taskI
  rw [if_pos hk, ho.1, if_neg (by rw [z_5, zI_le (zR_small (by omega) (by omega)) (zR_small (by omega) (by omega))]; omega)]
  obtain ⟨τ1, a1, a2, a3, a4, a5⟩ := numX (lo := 0) (hi := 15) (by omega) (by omega) hp ht hpl
  have a1' : X5_readNumber ν 0 15 = _ := a1
  rw [a1']
  simp only [Option.bind_some]
  by_cases q1 : rnB T len 0 15 p = true
  · rw [q1] at a4 ⊢
    rw [if_neg (by decide), if_pos rfl, a4 rfl]
    have r1 := rn_bd q1
    have t1 := txX_f a5 ht
    rw [← hp2] at a2
    obtain ⟨τ2, c1, c2, c3, c4, c5⟩ := numX (lo := tkV T len p + 1) (hi := 16) (by omega) (by omega) (show p2 ≤ len by omega) t1 a2
    have c1' : X5_readNumber τ1 (zI (tkV T len p : Nat) + 1) 16 = some (bI (rnB T len (tkV T len p + 1) 16 p2), τ2) := by rw [z_1, zI_add]; exact c1
    rw [c1']
    simp only [Option.bind_some]
    by_cases q2 : rnB T len (tkV T len p + 1) 16 p2 = true
    · rw [q2] at c4 ⊢
      rw [if_neg (by decide), if_pos rfl, c4 rfl]
      have r2 := rn_bd q2
      have t2 := txX_f c5 t1
      rw [← hp3] at c2
      obtain ⟨τ3, d1, d2, d3, d4, d5⟩ := numX (lo := 1) (hi := min 9 (tkV T len p2 - tkV T len p)) (by omega) (by omega) (show p3 ≤ len by omega) t2 c2
      have ehi : (if zI (tkV T len p2 : Nat) - zI (tkV T len p : Nat) < (9 : Int32) then zI (tkV T len p2 : Nat) - zI (tkV T len p : Nat) else (9 : Int32)) = zI ((min 9 (tkV T len p2 - tkV T len p) : Nat) : Int) := by
        rw [zI_sub, z_9]
        by_cases z : tkV T len p2 - tkV T len p < 9
        · rw [if_pos (by rw [zI_lt (zR_small (by omega) (by omega)) (zR_small (by omega) (by omega))]; omega)]; congr 1; omega
        · rw [if_neg (by rw [zI_lt (zR_small (by omega) (by omega)) (zR_small (by omega) (by omega))]; omega)]; congr 1; omega
      rw [ehi]
      have d1' : X5_readNumber τ2 1 (zI ((min 9 (tkV T len p2 - tkV T len p) : Nat) : Int)) = _ := d1
      rw [d1']
      simp only [Option.bind_some]
      by_cases q3 : rnB T len 1 (min 9 (tkV T len p2 - tkV T len p)) p3 = true
      · rw [q3] at d4 ⊢
        rw [if_neg (by decide), if_pos rfl, d4 rfl]
        have t3 := txX_f d5 t2
        rw [← hp4] at d2
        have f3 := fr1_trans a5 (fr1_trans c5 d5)
        have o3 := toldX_1 f3 ho
        have ehi2 : (if τ3 6 0 < (9 : Int32) then τ3 6 0 else (9 : Int32)) = zI ((min 9 r : Nat) : Int) := by
          rw [o3.2.1, z_9]
          by_cases z : r < 9
          · rw [if_pos (by rw [zI_lt (zR_small (by omega) (by omega)) (zR_small (by omega) (by omega))]; omega)]; congr 1; omega
          · rw [if_neg (by rw [zI_lt (zR_small (by omega) (by omega)) (zR_small (by omega) (by omega))]; omega)]; congr 1; omega
        rw [ehi2]
        obtain ⟨τ4, e1, e2, e3, e4, e5⟩ := numX (lo := 1) (hi := min 9 r) (by omega) (by omega) (show p4 ≤ len by omega) t3 d2
        have e1' : X5_readNumber τ3 1 (zI ((min 9 r : Nat) : Int)) = _ := e1
        rw [e1']
        simp only [Option.bind_some]
        by_cases q4 : rnB T len 1 (min 9 r) p4 = true
        · rw [q4] at e4 ⊢
          rw [if_neg (by decide), if_pos rfl]
          rw [← hp5] at e2
          obtain ⟨τ5, g1, g2, g3, g4⟩ := addTX (a := tkV T len p) (b := tkV T len p2) (x := tkV T len p3) hm (toldX_1 e5 o3) (e4 rfl)
          have f5 : frD τ4 τ5 := ⟨by rw [g3], fun k _ k2 k3 => g4 k k2 k3⟩
          rw [g1]
          simp only [Option.bind_some]
          obtain ⟨τ6, h1, h2, h3⟩ := endSX (rec := rec) (K := K) (x3 := x3) (p := p5) (by omega) (txX_D f5 (txX_f e5 t3)) (by rw [g3]; exact e2)
          rw [h1]
          refine ⟨τ6, frD_trans (frD_1 (fr1_trans f3 e5)) (frD_trans f5 (frD_1 h3)), ?_⟩
          by_cases q5 : tkK T len p5 = 59
          · rw [if_pos q5, if_pos q5]
            exact Or.inr ⟨_, _, _, _, _, _, _, rfl, rfl, toldX_1 h3 g2, h2⟩
          · rw [if_neg q5, if_neg q5]
            exact Or.inl ⟨_, rfl, rfl⟩
        · have q4' := Bool.eq_false_iff.mpr q4
          rw [q4', if_pos (by decide), if_neg (by decide)]
          simp only [Option.bind_some]
          exact ⟨τ4, frD_1 (fr1_trans f3 e5), Or.inl ⟨_, rfl, faultX e3⟩⟩
      · have q3' := Bool.eq_false_iff.mpr q3
        rw [q3', if_pos (by decide), if_neg (by decide)]
        simp only [Option.bind_some]
        exact ⟨τ3, frD_1 (fr1_trans a5 (fr1_trans c5 d5)), Or.inl ⟨_, rfl, faultX d3⟩⟩
    · have q2' := Bool.eq_false_iff.mpr q2
      rw [q2', if_pos (by decide), if_neg (by decide)]
      simp only [Option.bind_some]
      exact ⟨τ2, frD_1 (fr1_trans a5 c5), Or.inl ⟨_, rfl, faultX c3⟩⟩
  · have q1' := Bool.eq_false_iff.mpr q1
    rw [q1', if_pos (by decide), if_neg (by decide)]
    simp only [Option.bind_some]
    exact ⟨τ1, frD_1 a5, Or.inl ⟨_, rfl, faultX a3⟩⟩
end
