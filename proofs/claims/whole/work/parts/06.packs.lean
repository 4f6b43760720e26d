/-! ===== packed rows: fields by handle, calls by contract, guards ===== -/
def wd_GI (own : String) (idx k j : Nat) : Prop := ∃ (ci : Nat) (sl : List (Option Nat)), wd_FL own idx ci j ∧ wd_sh[k]? = some (.inr (.inr (ci, sl))) ∧ sl[j]? = some none
def wd_GR (own : String) (idx k j h : Nat) : Prop := ∃ (ci : Nat) (sl : List (Option Nat)), wd_FL own idx ci j ∧ wd_sh[k]? = some (.inr (.inr (ci, sl))) ∧ sl[j]? = some (some h)
def wd_PI (own : String) (idx k j : Nat) : Prop := ∃ (ci : Nat) (sl : List (Option Nat)), wd_FP own idx ci j ∧ wd_sh[k]? = some (.inr (.inr (ci, sl))) ∧ sl[j]? = some none
def wd_RC (k : Nat) (C : String) : Prop := ∃ (ci : Nat) (sl : List (Option Nat)), wd_sh[k]? = some (.inr (.inr (ci, sl))) ∧ (vwCl[ci]?).map (fun q => q.1) = some C
def wd_in (i : Int32) (n : Nat) : Bool := decide (¬ (i < 0 ∨ n ≤ i.toNatClampNeg))
theorem wd_in_vp {i : Int32} {n : Nat} (h : wd_in i n = true) : vp_in i n := of_decide_eq_true (p := ¬ (i < 0 ∨ n ≤ i.toNatClampNeg)) h
def wd_nz (x : Int32) : Bool := decide (¬ x = 0)
theorem wd_nz_ne {x : Int32} (h : wd_nz x = true) : ¬ x = 0 := of_decide_eq_true h
def wd_bit (x : Int32) : Bool := decide (x = 0 ∨ x = 1)
theorem wd_bit_ok {x : Int32} (h : wd_bit x = true) : narrow .boolean (.int x) = .int x := by
  rcases of_decide_eq_true h with rfl | rfl <;> rfl
def wd_chk {α : Type} (b : Bool) (k : Option α) : Option α := if b = true then k else none
theorem wd_chk_some {α : Type} {b : Bool} {k : Option α} {o : α} (h : wd_chk b k = some o) : b = true ∧ k = some o := by
  unfold wd_chk at h
  split at h
  · exact ⟨by assumption, h⟩
  · cases h
theorem wd_bind_some {α β : Type} {x : Option α} {f : α → Option β} {o : β} (h : x.bind f = some o) : ∃ a, x = some a ∧ f a = some o := by
  cases x with
  | none => cases h
  | some a => exact ⟨a, rfl, h⟩
def wd_le : List (Option wd_AV) → List (Option wd_AV) → Prop
  | [], _ => True
  | none :: t, [] => wd_le t []
  | none :: t, _ :: u => wd_le t u
  | some _ :: _, [] => False
  | some v :: t, o :: u => o = some v ∧ wd_le t u
theorem wd_le_ok : ∀ (L' L : List (Option wd_AV)), wd_le L' L → ∀ (i : Nat) (v : wd_AV), L'[i]? = some (some v) → L[i]? = some (some v)
  | [], _, _, i, v, h => by simp at h
  | none :: t, [], hl, i, v, h => by
    cases i with
    | zero => simp at h
    | succ i => simpa using wd_le_ok t [] hl i v (by simpa using h)
  | none :: t, _ :: u, hl, i, v, h => by
    cases i with
    | zero => simp at h
    | succ i => simpa using wd_le_ok t u hl i v (by simpa using h)
  | some _ :: _, [], hl, _, _, _ => hl.elim
  | some w :: t, o :: u, hl, i, v, h => by
    obtain ⟨rfl, h2⟩ := hl
    cases i with
    | zero => simpa using h
    | succ i => simpa using wd_le_ok t u h2 i v (by simpa using h)
def wd_big : Nat := 1000000000000
def wd_wins : List Nat := [48, 52, 56, 60, 64, 68, 72, 76, 80, 84, 88, 92, 96, 100]
def wd_isW (h : Nat) : Prop := h ∈ wd_wins
def wd_isT (h : Nat) : Prop := h = 3 ∨ h = 6
def wd_ring : List Nat := [64, 68, 72, 76, 80, 84, 88, 92, 96, 100]
def wd_imgs : List Nat := [56, 60]
theorem wd_shW {h : Nat} (w : wd_isW h) : wd_sh[h]? = some (.inr (.inr (6, [some (h + 1), some (h + 2), some (h + 3)]))) ∧ wd_sh[h + 1]? = some (.inl (.int, 10)) ∧ wd_sh[h + 2]? = some (.inl (.int, 10)) ∧ wd_sh[h + 3]? = some (.inl (.int, 10)) := by
  simp only [wd_isW, wd_wins, List.mem_cons, List.not_mem_nil, or_false] at w
  rcases w with rfl | rfl | rfl | rfl | rfl | rfl | rfl | rfl | rfl | rfl | rfl | rfl | rfl | rfl <;> exact ⟨rfl, rfl, rfl, rfl⟩
theorem wd_shT {h : Nat} (w : wd_isT h) : wd_sh[h]? = some (.inr (.inr (4, [none, none, some (h + 1), some (h + 2)]))) ∧ wd_sh[h + 1]? = some (.inl (.int, 5)) ∧ wd_sh[h + 2]? = some (.inl (.int, 5)) := by
  rcases w with rfl | rfl <;> exact ⟨rfl, rfl, rfl⟩
theorem wd_rcW {h : Nat} (w : wd_isW h) : wd_RC h RX6 := ⟨6, _, (wd_shW w).1, rfl⟩
theorem wd_rcT {h : Nat} (w : wd_isT h) : wd_RC h RX4 := ⟨4, _, (wd_shT w).1, rfl⟩
theorem wd_ringW {i h : Nat} (e : wd_ring[i]? = some h) : wd_isW h := by
  have := List.mem_of_getElem? e
  simp only [wd_ring, List.mem_cons, List.not_mem_nil, or_false] at this
  rcases this with rfl | rfl | rfl | rfl | rfl | rfl | rfl | rfl | rfl | rfl <;> (unfold wd_isW wd_wins; simp)
theorem wd_imgsW {i h : Nat} (e : wd_imgs[i]? = some h) : wd_isW h := by
  have := List.mem_of_getElem? e
  simp only [wd_imgs, List.mem_cons, List.not_mem_nil, or_false] at this
  rcases this with rfl | rfl <;> (unfold wd_isW wd_wins; simp)
section WE
variable {G : wd_G} {d : Nat} {own : String} {cc : ByteArray} {nL : Nat} {ret : Option FieldType} {Q : Option wd_AV → wd_Mem → Prop} {pc pc' : Nat} {L L' : List (Option wd_AV)} {S : List wd_AV} {μ : wd_Mem}
theorem wv_weak (h : wd_le L' L) (k : wd_V G d own cc nL ret Q pc L' S μ) : wd_V G d own cc nL ret Q pc L S μ := wv_less (wd_le_ok L' L h) k
theorem wv_inc {i : Nat} {n : Int} {x cst : Int32} (hdg : decode cc pc = .ok (.iinc i n, 3)) (hc : Int32.ofInt n = cst) (h : L[i]? = some (some (.inl x))) (hn : i < nL) (hL : L.set i (some (.inl (x + cst))) = L') (hp : pc + 3 = pc') (k : wd_V G d own cc nL ret Q pc' L' S μ) : wd_V G d own cc nL ret Q pc L S μ := wv_iinc hdg h (by rw [hc]) hn hL hp k
theorem wv_gi {idx k j : Nat} (F : wd_GI own idx k j) (hdg : decode cc pc = .ok (.getfield idx, 3)) (hp : pc + 3 = pc') (kk : wd_V G d own cc nL ret Q pc' L (.inl (μ k j) :: S) μ) : wd_V G d own cc nL ret Q pc L (.inr k :: S) μ := by
  obtain ⟨ci, sl, f, hs, hj⟩ := F
  exact wv_geti f hs hj hdg hp kk
theorem wv_gr {idx k j h : Nat} (F : wd_GR own idx k j h) (hdg : decode cc pc = .ok (.getfield idx, 3)) (hp : pc + 3 = pc') (kk : wd_V G d own cc nL ret Q pc' L (.inr h :: S) μ) : wd_V G d own cc nL ret Q pc L (.inr k :: S) μ := by
  obtain ⟨ci, sl, f, hs, hj⟩ := F
  exact wv_getr f hs hj hdg hp kk
theorem wv_pi {idx k j : Nat} {x : Int32} (F : wd_PI own idx k j) (hdg : decode cc pc = .ok (.putfield idx, 3)) (hp : pc + 3 = pc') (kk : wd_V G d own cc nL ret Q pc' L S (mset μ k j x)) : wd_V G d own cc nL ret Q pc L (.inl x :: .inr k :: S) μ := by
  obtain ⟨ci, sl, f, hs, hj⟩ := F
  exact wv_puti f hs hj hdg hp kk
theorem wv_callVi {idx k : Nat} {x : Int32} {ν : wd_Mem} {y : MethodName} {St : List wd_AV} (as : List wd_AV) (M : wd_MV own idx y as.length) (hr : wd_RC k y.cls) (hst : as.reverse ++ .inr k :: S = St) (h8 : S.length ≤ 8) (hdg : decode cc pc = .ok (.invokevirtual idx, 3)) (hp : pc + 3 = pc') (hC : wd_C G d y (.inr k :: as) μ (fun r u => r = some (.inl x) ∧ u = ν)) (kk : wd_V G (d + 1) own cc nL ret Q pc' L (.inl x :: S) ν) : wd_V G (d + 1) own cc nL ret Q pc L St μ := by
  obtain ⟨ci, sl, hs, hcl⟩ := hr
  exact wv_callV as M hs hcl hst h8 hdg hp hC (fun r u hq => by obtain ⟨rfl, rfl⟩ := hq; exact kk)
theorem wv_callVr {idx k h : Nat} {ν : wd_Mem} {y : MethodName} {St : List wd_AV} (as : List wd_AV) (M : wd_MV own idx y as.length) (hr : wd_RC k y.cls) (hst : as.reverse ++ .inr k :: S = St) (h8 : S.length ≤ 8) (hdg : decode cc pc = .ok (.invokevirtual idx, 3)) (hp : pc + 3 = pc') (hC : wd_C G d y (.inr k :: as) μ (fun r u => r = some (.inr h) ∧ u = ν)) (kk : wd_V G (d + 1) own cc nL ret Q pc' L (.inr h :: S) ν) : wd_V G (d + 1) own cc nL ret Q pc L St μ := by
  obtain ⟨ci, sl, hs, hcl⟩ := hr
  exact wv_callV as M hs hcl hst h8 hdg hp hC (fun r u hq => by obtain ⟨rfl, rfl⟩ := hq; exact kk)
theorem wv_callVv {idx k : Nat} {ν : wd_Mem} {y : MethodName} {St : List wd_AV} (as : List wd_AV) (M : wd_MV own idx y as.length) (hr : wd_RC k y.cls) (hst : as.reverse ++ .inr k :: S = St) (h8 : S.length ≤ 8) (hdg : decode cc pc = .ok (.invokevirtual idx, 3)) (hp : pc + 3 = pc') (hC : wd_C G d y (.inr k :: as) μ (fun r u => r = none ∧ u = ν)) (kk : wd_V G (d + 1) own cc nL ret Q pc' L S ν) : wd_V G (d + 1) own cc nL ret Q pc L St μ := by
  obtain ⟨ci, sl, hs, hcl⟩ := hr
  exact wv_callV as M hs hcl hst h8 hdg hp hC (fun r u hq => by obtain ⟨rfl, rfl⟩ := hq; exact kk)
theorem wv_callSi {idx : Nat} {x : Int32} {ν : wd_Mem} {y : MethodName} {St : List wd_AV} (as : List wd_AV) (M : wd_MS own idx y as.length) (hst : as.reverse ++ S = St) (h8 : S.length ≤ 8) (hdg : decode cc pc = .ok (.invokestatic idx, 3)) (hp : pc + 3 = pc') (hC : wd_C G d y as μ (fun r u => r = some (.inl x) ∧ u = ν)) (kk : wd_V G (d + 1) own cc nL ret Q pc' L (.inl x :: S) ν) : wd_V G (d + 1) own cc nL ret Q pc L St μ :=
  wv_callS as M hst h8 hdg hp hC (fun r u hq => by obtain ⟨rfl, rfl⟩ := hq; exact kk)
end WE
