/-! ===== a rule, one way: what it tells ===== -/
def tpX (r n : Nat) (R : Int) (e l D C : Nat → Int) (i : Nat) (p : Int × Int) : Int × Int := if r = 0 then tl ((muO n R e l D C i).getD (l i - D i + 1)) 0 p else if r = 1 then foF (edB n R e l D C i) (2 ^ n - 1) p else if r = 2 then foF (fiB n R e l D C i) (2 ^ n - 1) p else foF (spI n R e l D C i) 16 p
def tpM (r n : Nat) (R : Int) (e l D C : Nat → Int) (i : Nat) (p : Int × Int) : Int × Int := if r = 0 then tl ((muO n R e l D C i).getD 99) 0 p else if r = 1 then foF (edB n R e l D C i) (2 ^ n - 1) p else if r = 2 then foF (fiB n R e l D C i) (2 ^ n - 1) p else foF (spI n R e l D C i) 16 p
theorem muO_cases {n : Nat} {R : Int} {e l D C : Nat → Int} {i : Nat} (hw : e i + D i ≤ l i) : muO n R e l D C i = none ∨ ∃ v, muO n R e l D C i = some v ∧ e i ≤ v ∧ v ≤ l i - D i := by
  cases h : muO n R e l D C i with
  | none => exact Or.inl rfl
  | some v =>
    have := muF_some _ _ _ h
    exact Or.inr ⟨v, rfl, by omega, by omega⟩
theorem tp_rest {r n : Nat} {R : Int} {e l D C : Nat → Int} {i : Nat} (hb : bnd n R e l D C) (hi : i < n) (hr : r ≠ 0) : ∃ f : Int × Int → Int × Int, inR f ∧ (∀ p, bP p → bP (f p)) ∧ (∀ p, tpX r n R e l D C i p = f p) ∧ ∀ p, tpM r n R e l D C i p = f p := by
  unfold tpX tpM
  simp only [hr, if_false]
  by_cases h1 : r = 1
  · simp only [h1, if_true]
    exact ⟨_, inR_foF (fun k => edB_in k) _, fun p hp => foF_bd (edB_bd hb hi) hp _, fun _ => rfl, fun _ => rfl⟩
  · by_cases h2 : r = 2
    · simp only [h1, h2, if_true, if_false]
      exact ⟨_, inR_foF (fun k => fiB_in k) _, fun p hp => foF_bd (fiB_bd hb) hp _, fun _ => rfl, fun _ => rfl⟩
    · simp only [h1, h2, if_false]
      exact ⟨_, inR_foF (fun k => spI_in) _, fun p hp => spO_bd hb hi hp (Nat.le_refl _), fun _ => rfl, fun _ => rfl⟩
theorem tp_rel {r n : Nat} {R : Int} {e l D C : Nat → Int} {i : Nat} {c : Int} (hb : bnd n R e l D C) (hi : i < n) (hw : e i + D i ≤ l i) : bP (tpX r n R e l D C i (e i, 0)) ∧ bP (tpM r n R e l D C i (e i, c)) ∧ e i ≤ (tpX r n R e l D C i (e i, 0)).1 ∧ (e i < (tpM r n R e l D C i (e i, c)).1 ↔ e i < (tpX r n R e l D C i (e i, 0)).1) ∧ (if (tpM r n R e l D C i (e i, c)).1 ≤ l i - D i then (tpM r n R e l D C i (e i, c)).1 else l i - D i + 1) = min (tpX r n R e l D C i (e i, 0)).1 (l i - D i + 1) ∧ (e i < (tpX r n R e l D C i (e i, 0)).1 → (tpM r n R e l D C i (e i, c)).2 = (tpX r n R e l D C i (e i, 0)).2) := by
  have y := hb.2.2.2 i hi
  have b0 : ∀ c, bP (e i, c) := fun c => ⟨by show -100000 ≤ e i; omega, by show e i ≤ 100000; omega⟩
  by_cases hr : r = 0
  · unfold tpX tpM
    simp only [hr, if_true]
    rcases muO_cases (n := n) (R := R) (C := C) hw with h | ⟨v, h, h1, h2⟩
    · rw [h]
      simp only [Option.getD_none]
      unfold tl
      rw [if_pos (show (e i, (0 : Int)).1 < l i - D i + 1 by show e i < _; omega), if_pos (show (e i, c).1 < 99 by show e i < _; omega)]
      refine ⟨⟨?_, ?_⟩, ⟨?_, ?_⟩, ?_, ?_, ?_, fun _ => rfl⟩
      · show -100000 ≤ l i - D i + 1; omega
      · show l i - D i + 1 ≤ 100000; omega
      · show (-100000 : Int) ≤ 99; omega
      · show (99 : Int) ≤ 100000; omega
      · show e i ≤ l i - D i + 1; omega
      · show e i < 99 ↔ e i < l i - D i + 1; omega
      · show (if (99 : Int) ≤ l i - D i then (99 : Int) else l i - D i + 1) = min (l i - D i + 1) (l i - D i + 1)
        rw [if_neg (by omega)]; omega
    · rw [h]
      simp only [Option.getD_some]
      have t1 := tl_bd (v := v) (b := 0) (b0 0) (by omega) (by omega)
      have t2 := tl_bd (v := v) (b := 0) (b0 c) (by omega) (by omega)
      refine ⟨t1, t2, ?_⟩
      unfold tl
      by_cases hv : e i < v
      · rw [if_pos (show (e i, (0 : Int)).1 < v from hv), if_pos (show (e i, c).1 < v from hv)]
        refine ⟨?_, Iff.rfl, ?_, fun _ => rfl⟩
        · show e i ≤ v; omega
        · show (if v ≤ l i - D i then v else l i - D i + 1) = min v (l i - D i + 1)
          rw [if_pos h2]; omega
      · rw [if_neg (show ¬ (e i, (0 : Int)).1 < v from hv), if_neg (show ¬ (e i, c).1 < v from hv)]
        refine ⟨Int.le_refl _, Iff.rfl, ?_, fun q => absurd q (Int.lt_irrefl _)⟩
        show (if e i ≤ l i - D i then e i else l i - D i + 1) = min (e i) (l i - D i + 1)
        rw [if_pos (by omega)]; omega
  · obtain ⟨f, f1, f2, f3, f4⟩ := tp_rest (r := r) hb hi hr
    rw [f3, f4]
    obtain ⟨a1, a2, a3, a4⟩ := f1 (e i) 0 c
    refine ⟨f2 _ (b0 _), f2 _ (b0 _), a2, by rw [a1], ?_, fun h => (a3 h).symm⟩
    rw [← a1]
    by_cases h : (f (e i, 0)).1 ≤ l i - D i
    · rw [if_pos h]; omega
    · rw [if_neg h]; omega
def tnF (r n : Nat) (R : Int) (e l D C : Nat → Int) (i : Nat) : Int := min (tpX r n R e l D C i (e i, 0)).1 (l i - D i + 1)
def tcF (r n : Nat) (R : Int) (e l D C : Nat → Int) (i : Nat) : Int := (tpX r n R e l D C i (e i, 0)).2
theorem tn_bd {r n : Nat} {R : Int} {e l D C : Nat → Int} {i : Nat} (hb : bnd n R e l D C) (hi : i < n) (hw : e i + D i ≤ l i) : e i ≤ tnF r n R e l D C i ∧ tnF r n R e l D C i ≤ l i - D i + 1 ∧ (e i < tnF r n R e l D C i ↔ e i < (tpX r n R e l D C i (e i, 0)).1) := by
  have h := tp_rel (r := r) (c := 0) hb hi hw
  unfold tnF
  omega
theorem disX {s : wd_Mem} {r n i : Nat} {R : Int} {e l D C : Nat → Int} {p : Int × Int} {α : Type} (F : wd_Mem → Option α) (hb : bnd n R e l D C) (hs : sgx s n R e l D C) (hi : i < n) (hp : bP p) (hw : e i + D i ≤ l i) (hr : r < 4) : (if zI (r : Nat) = nI 0 then (X1_byMust (tMX s i p) (zI i)).bind F else if zI (r : Nat) = nI 1 then (X1_byEdge (tMX s i p) (zI i)).bind F else if zI (r : Nat) = nI 2 then (X1_byFirst (tMX s i p) (zI i)).bind F else if zI (r : Nat) = nI 3 then (X1_bySpan (tMX s i p) (zI i)).bind F else F (tMX s i p)) = F (tMX s i (tpX r n R e l D C i p)) := by
  rw [mustX hb hs hi hp hw, edgeX hb hs hi hp, firstX hb hs hi hp, spanX hb hs hi hp]
  simp only [Option.bind_some]
  unfold tpX
  rcases (show r = 0 ∨ r = 1 ∨ r = 2 ∨ r = 3 by omega) with rfl | rfl | rfl | rfl
  · rw [if_pos (by decide), if_pos rfl]
  · rw [if_neg (by decide), if_pos (by decide), if_neg (by decide), if_pos rfl]
  · rw [if_neg (by decide), if_neg (by decide), if_pos (by decide), if_neg (by decide), if_neg (by decide), if_pos rfl]
  · rw [if_neg (by decide), if_neg (by decide), if_neg (by decide), if_pos (by decide), if_neg (by decide), if_neg (by decide), if_neg (by decide)]
theorem disM {s : wd_Mem} {r n i : Nat} {R : Int} {e l D C : Nat → Int} {p : Int × Int} {α : Type} (F : wd_Mem → Option α) (hb : bnd n R e l D C) (hs : datV s n R e l D C) (hi : i < n) (hp : bP p) (hw : e i + D i ≤ l i) (hr : r < 4) : (if zI (r : Nat) = nI 0 then (X8_musts (tMM s i p) (zI i)).bind F else if zI (r : Nat) = nI 1 then (X8_edges (tMM s i p) (zI i)).bind F else if zI (r : Nat) = nI 2 then (X8_firsts (tMM s i p) (zI i)).bind F else (X8_spans (tMM s i p) (zI i)).bind F) = F (tMM s i (tpM r n R e l D C i p)) := by
  rw [mustsM hb hs hi hp hw, edgeM hb hs hi hp, firstM hb hs hi hp, spanM hb hs hi hp]
  simp only [Option.bind_some]
  unfold tpM
  rcases (show r = 0 ∨ r = 1 ∨ r = 2 ∨ r = 3 by omega) with rfl | rfl | rfl | rfl
  · rw [if_pos (by decide), if_pos rfl]
  · rw [if_neg (by decide), if_pos (by decide), if_neg (by decide), if_pos rfl]
  · rw [if_neg (by decide), if_neg (by decide), if_pos (by decide), if_neg (by decide), if_neg (by decide), if_pos rfl]
  · rw [if_neg (by decide), if_neg (by decide), if_neg (by decide), if_neg (by decide), if_neg (by decide), if_neg (by decide)]
/-! rows that are changed where a rule told -/
def upA (o i : Nat) (b : Nat → Bool) (f g : Nat → Int32) : Nat → Int32 := fun k => if o ≤ k ∧ k < o + i ∧ b (k - o) = true then f (k - o) else g k
theorem upA_0 {o : Nat} {b : Nat → Bool} {f g : Nat → Int32} : upA o 0 b f g = g := by
  funext k
  unfold upA
  rw [if_neg (by omega)]
theorem upA_t {o i : Nat} {b : Nat → Bool} {f g : Nat → Int32} (h : b i = true) (k : Nat) : upA o (i + 1) b f g k = if k = o + i then f i else upA o i b f g k := by
  unfold upA
  by_cases hk : k = o + i
  · subst hk
    rw [if_pos rfl, show o + i - o = i by omega, if_pos ⟨by omega, by omega, h⟩]
  · rw [if_neg hk]
    by_cases hc : o ≤ k ∧ k < o + i ∧ b (k - o) = true
    · rw [if_pos hc, if_pos ⟨hc.1, by omega, hc.2.2⟩]
    · rw [if_neg hc, if_neg (fun q => hc ⟨q.1, by omega, q.2.2⟩)]
theorem upA_f {o i : Nat} {b : Nat → Bool} {f g : Nat → Int32} (h : b i = false) : upA o (i + 1) b f g = upA o i b f g := by
  funext k
  unfold upA
  by_cases hc : o ≤ k ∧ k < o + i ∧ b (k - o) = true
  · rw [if_pos hc, if_pos ⟨hc.1, by omega, hc.2.2⟩]
  · rw [if_neg hc, if_neg (fun q => by
      by_cases hk : k = o + i
      · have := q.2.2
        rw [hk, show o + i - o = i by omega, h] at this
        cases this
      · exact hc ⟨q.1, by omega, q.2.2⟩)]
def orF (b : Nat → Bool) : Nat → Bool
  | 0 => false
  | k + 1 => orF b k || b k
theorem orF_f {b : Nat → Bool} : ∀ k, orF b k = false → ∀ j, j < k → b j = false
  | 0, _, j, hj => by omega
  | k + 1, h, j, hj => by
    simp only [orF, Bool.or_eq_false_iff] at h
    by_cases q : j = k
    · rw [q]; exact h.2
    · exact orF_f k h.1 j (by omega)
theorem mset_row (μ : wd_Mem) (k j : Nat) (x : Int32) : mset μ k j x k = fun b => if b = j then x else μ k b := by
  funext b
  simp [mset]
def vvF (s : Nat) (x : Int) : Int := if s = 0 then x else 16 - x
theorem vv_eq {s : Nat} {x : Int} (hs : s < 2) : (if zI (s : Nat) = 0 then zI x else (16 : Int32) - zI x) = zI (vvF s x) := by
  unfold vvF
  rcases (show s = 0 ∨ s = 1 by omega) with rfl | rfl
  · rw [if_pos (by decide), if_pos rfl]
  · rw [if_neg (by decide), if_neg (by decide), z_16, zI_sub]
