/-! ===== from a world of cells, as a constructor leaves it, to the light judgement's world ===== -/
def wd_shk (k : Nat) : wd_Sh := (wd_sh[k]?).getD (.inl (.int, 0))
def wd_Wl (hl : List Nat) (ad : Nat → Nat) (ca : Nat → ClassId) (μ : wd_Mem) : va_W := hl.map (fun k => (ad k, wd_cell ad ca μ k (wd_shk k)))
def wd_Kk (D : va_G) (ca : Nat → ClassId) (U : State) (k : Nat) (sh : wd_Sh) : Prop := match sh with
  | .inl q => va_K D vwCl [(ca k, q.1)] U
  | .inr (.inl _) => va_K D vwCl [(ca k, .object "WindowDesk$Windows")] U
  | .inr (.inr _) => True
theorem wd_Kk.moved {D : va_G} {ca : Nat → ClassId} {u U : State} (hvm : u.vm.Alike U.vm) {k : Nat} {sh : wd_Sh} (h : wd_Kk D ca u k sh) : wd_Kk D ca U k sh := by
  rcases sh with q | hs | q
  · exact va_K.moved hvm h
  · exact va_K.moved hvm h
  · trivial
def wd_Kl (hl : List Nat) (D : va_G) (ca : Nat → ClassId) (U : State) : Prop := ∀ k ∈ hl, wd_Kk D ca U k (wd_shk k)
def wd_all1 : List Nat → (Nat → Prop) → Prop
  | [], _ => True
  | k :: t, F => F k ∧ wd_all1 t F
theorem wd_all1_at : ∀ (l : List Nat) (F : Nat → Prop), wd_all1 l F → ∀ k ∈ l, F k
  | [], _, _, k, h => by simp at h
  | a :: t, F, hl, k, h => by
    rcases List.mem_cons.mp h with rfl | h
    · exact hl.1
    · exact wd_all1_at t F hl.2 k h
def wd_all2 : List Nat → List Nat → (Nat → Nat → Prop) → Prop
  | [], [], _ => True
  | k :: t, i :: u, F => F k i ∧ wd_all2 t u F
  | _, _, _ => False
theorem wd_all2_at : ∀ (l u : List Nat) (F : Nat → Nat → Prop), wd_all2 l u F → ∀ (j k : Nat), l[j]? = some k → ∃ i, u[j]? = some i ∧ F k i
  | [], [], _, _, j, k, h => by simp at h
  | [], _ :: _, _, hl, _, _, _ => hl.elim
  | _ :: _, [], _, hl, _, _, _ => hl.elim
  | a :: t, b :: u, F, hl, j, k, h => by
    cases j with
    | zero => simp only [List.getElem?_cons_zero, Option.some.injEq] at h; subst h; exact ⟨b, rfl, hl.1⟩
    | succ j => simpa using wd_all2_at t u F hl.2 j k (by simpa using h)
theorem wl_conv {D : va_G} {ws : va_W} {H : Heap} {A : Nat → Prop} (hl perm : List Nat) (ad : Nat → Nat) (ca : Nat → ClassId) (μ : wd_Mem) (hP : va_P D vwCl ws H) (hD : va_D A ws) (hn : perm.Nodup) (h : wd_all2 hl perm (fun k i => ws[i]? = some (ad k, wd_cell ad ca μ k (wd_shk k)))) : va_P D vwCl (wd_Wl hl ad ca μ) H ∧ va_D A (wd_Wl hl ad ca μ) := by
  have key : ∀ (j : Nat) (q : Nat × va_E), (wd_Wl hl ad ca μ)[j]? = some q → ∃ i, perm[j]? = some i ∧ ws[i]? = some q := by
    intro j q hq
    simp only [wd_Wl, List.getElem?_map] at hq
    cases hj : hl[j]? with
    | none => rw [hj] at hq; cases hq
    | some k =>
      rw [hj] at hq
      simp only [Option.map_some, Option.some.injEq] at hq
      obtain ⟨i, h1, h2⟩ := wd_all2_at hl perm _ h j k hj
      exact ⟨i, h1, by rw [h2, hq]⟩
  refine ⟨fun j q hq => ?_, fun j1 j2 p q hp hq e => ?_, fun j q hq => ?_⟩
  · obtain ⟨i, -, h2⟩ := key j q hq
    exact hP i q h2
  · obtain ⟨i1, a1, b1⟩ := key j1 p hp
    obtain ⟨i2, a2, b2⟩ := key j2 q hq
    have := hD.1 i1 i2 p q b1 b2 e
    subst this
    exact (List.getElem?_inj (List.getElem?_eq_some_iff.mp a1).1 hn).mp (a1.trans a2.symm)
  · obtain ⟨i, -, h2⟩ := key j q hq
    exact hD.2 i q h2
def wd_hx : List Nat := [0, 1, 2, 3, 4, 5, 6, 7, 8, 9, 10, 11, 12, 13, 14, 15, 16, 17, 18, 19, 20, 21, 22, 23, 24, 25, 26, 27, 28, 29, 30, 48, 49, 50, 51, 52, 53, 54, 55, 56, 57, 58, 59, 60, 61, 62, 63, 64, 65, 66, 67, 68, 69, 70, 71, 72, 73, 74, 75, 76, 77, 78, 79, 80, 81, 82, 83, 84, 85, 86, 87, 88, 89, 90, 91, 92, 93, 94, 95, 96, 97, 98, 99, 100, 101, 102, 103]
def wd_hm : List Nat := [31, 32, 33, 34, 35, 36, 37, 38, 39, 40, 41, 42, 43, 44, 45, 46, 47]
def wd_mem0L : List (Nat → Int32) := [(fun _ => (0 : Int32)), (fun _ => (0 : Int32)), (fun _ => (0 : Int32)), (fun j => if j = 0 then (3 : Int32) else 0), (fun _ => (0 : Int32)), (fun _ => (0 : Int32)), (fun j => if j = 0 then (3 : Int32) else 0), (fun _ => (0 : Int32)), (fun _ => (0 : Int32)), (fun _ => (0 : Int32)), (fun _ => (0 : Int32)), (fun _ => (0 : Int32)), (fun _ => (0 : Int32)), (fun _ => (0 : Int32)), (upd (fun _ => (0 : Int32)) (Int32.toNatClampNeg (0 : Int32)) (1000 : Int32)), (upd (fun _ => (0 : Int32)) (Int32.toNatClampNeg (0 : Int32)) (-1000 : Int32)), (upd (fun _ => (0 : Int32)) (Int32.toNatClampNeg (0 : Int32)) (1000 : Int32)), (fun _ => (0 : Int32)), (fun _ => (0 : Int32)), (fun _ => (0 : Int32)), (fun _ => (0 : Int32)), (fun _ => (0 : Int32)), (fun _ => (0 : Int32)), (fun _ => (0 : Int32)), (fun _ => (0 : Int32)), (fun _ => (0 : Int32)), (fun _ => (0 : Int32)), (fun _ => (0 : Int32)), (fun _ => (0 : Int32)), (fun _ => (0 : Int32)), (fun _ => (0 : Int32)), (fun j => if j = 1 then (3 : Int32) else 0), (fun _ => (0 : Int32)), (fun _ => (0 : Int32)), (fun _ => (0 : Int32)), (fun _ => (0 : Int32)), (fun _ => (0 : Int32)), (fun _ => (0 : Int32)), (fun _ => (0 : Int32)), (fun _ => (0 : Int32)), (fun _ => (0 : Int32)), (fun _ => (0 : Int32)), (fun _ => (0 : Int32)), (fun _ => (0 : Int32)), (fun _ => (0 : Int32)), (fun _ => (0 : Int32)), (fun _ => (0 : Int32)), (fun _ => (0 : Int32))]
def wd_mem0 : wd_Mem := fun k => (wd_mem0L[k]?).getD (fun _ => 0)
theorem wl_cl0 : Int32.toNatClampNeg (0 : Int32) = 0 := by decide
theorem wl_cl1 : Int32.toNatClampNeg (1 : Int32) = 1 := by decide
theorem wl_cl2 : Int32.toNatClampNeg (2 : Int32) = 2 := by decide
theorem wl_cl3 : Int32.toNatClampNeg (3 : Int32) = 3 := by decide
theorem wl_cl4 : Int32.toNatClampNeg (4 : Int32) = 4 := by decide
theorem wl_cl5 : Int32.toNatClampNeg (5 : Int32) = 5 := by decide
theorem wl_cl6 : Int32.toNatClampNeg (6 : Int32) = 6 := by decide
theorem wl_cl7 : Int32.toNatClampNeg (7 : Int32) = 7 := by decide
theorem wl_cl8 : Int32.toNatClampNeg (8 : Int32) = 8 := by decide
theorem wl_cl9 : Int32.toNatClampNeg (9 : Int32) = 9 := by decide
