/-! what the tables say of a field, of a method -/
def wd_cls (ci : Nat) (C : String) (T : u_T) (N : Nat) : Prop := vwCl[ci]? = some (C, T, N) ∧ (∀ w ∈ u_ws C T N, w ∈ wd_tab) ∧ (∃ ty0 : Nat → FieldType, ∀ k, k < N → parseFieldDescriptor (T k).2.2.1 = some (ty0 k)) ∧ (∀ a, a < N → ∀ b, b < N → a ≠ b → (T a).2.1 ≠ (T b).2.1)
def wd_FL (own : String) (idx ci j : Nat) : Prop := ∃ (C : String) (T : u_T) (N : Nat), wd_cls ci C T N ∧ j < N ∧ Cond.fieldLink own idx (T j).1 (T j).2.1 (T j).2.2.1 ∈ wd_tab
def wd_FP (own : String) (idx ci j : Nat) : Prop := ∃ (C : String) (T : u_T) (N : Nat), wd_cls ci C T N ∧ j < N ∧ Cond.fieldLink own idx (T j).1 (T j).2.1 (T j).2.2.1 ∈ wd_tab ∧ (T j).2.2.2 = false ∧ parseFieldDescriptor (T j).2.2.1 = some .int
def wd_ML (own : String) (idx : Nat) (y : MethodName) (n : Nat) : Prop := Cond.methodLink own idx y ∈ wd_tab ∧ Cond.initialized y.cls ∈ wd_tab ∧ (y.cls ≠ "java/lang/invoke/MethodHandle" ∧ y.cls ≠ "java/lang/invoke/VarHandle" ∧ (parseMethodDescriptor y.desc).map (fun d => d.parameters.length) = some n)
def wd_MV (own : String) (idx : Nat) (y : MethodName) (n : Nat) : Prop := wd_ML own idx y n ∧ Cond.instanceMethod y ∈ wd_tab ∧ Cond.selects y.cls y y ∈ wd_tab
def wd_MS (own : String) (idx : Nat) (y : MethodName) (n : Nat) : Prop := wd_ML own idx y n ∧ Cond.static y ∈ wd_tab
def wd_MM (own : String) (idx : Nat) (y : MethodName) (code : ByteArray) : Prop := Cond.methodLink own idx y ∈ wd_tab ∧ Cond.static y ∈ wd_tab ∧ Cond.initialized "java/lang/Math" ∈ wd_tab ∧ Cond.code y code 2 (some .int) ∈ wd_tab
theorem wd_cats (ad : Nat → Nat) (S : List wd_AV) : ((S.map (wd_cv ad)).map fun v => v.category).sum = S.length := by
  induction S with
  | nil => rfl
  | cons v t ih => simp only [List.map_cons, List.sum_cons, ih, wd_cv_cat, List.length_cons]; omega
section WV
variable {G : wd_G} {d : Nat} {own : String} {cc : ByteArray} {nL : Nat} {ret : Option FieldType} {Q : Option wd_AV → wd_Mem → Prop} {pc pc' : Nat} {L : List (Option wd_AV)} {S : List wd_AV} {μ : wd_Mem}
theorem wv_less {L' : List (Option wd_AV)} (h : ∀ (i : Nat) (v : wd_AV), L'[i]? = some (some v) → L[i]? = some (some v)) (k : wd_V G d own cc nL ret Q pc L' S μ) : wd_V G d own cc nL ret Q pc L S μ := by
  intro p e s m args below meth c H locs ls X hl hP hD hS
  exact k p e s m args below meth c H locs ls X (wd_Lc_less h hl) hP hD hS
theorem wv_iconst {n : Int} {v : Int32} (hdg : decode cc pc = .ok (.iconst n, 1)) (hv : Int32.ofInt n = v) (hp : pc + 1 = pc') (k : wd_V G d own cc nL ret Q pc' L (.inl v :: S) μ) : wd_V G d own cc nL ret Q pc L S μ := by
  subst hp
  intro p e s m args below meth c H locs ls X hl hP hD hS
  exact lv_iconst X.1 X.2.1 hdg hv (k p e s m args below meth c H locs ls X hl hP hD hS)
theorem wv_bipush {n : Int} {v : Int32} (hdg : decode cc pc = .ok (.bipush n, 2)) (hv : (Int8.ofInt n).toInt32 = v) (hp : pc + 2 = pc') (k : wd_V G d own cc nL ret Q pc' L (.inl v :: S) μ) : wd_V G d own cc nL ret Q pc L S μ := by
  subst hp
  intro p e s m args below meth c H locs ls X hl hP hD hS
  exact lv_bipush X.1 X.2.1 hdg hv (k p e s m args below meth c H locs ls X hl hP hD hS)
theorem wv_sipush {n : Int} {v : Int32} (hdg : decode cc pc = .ok (.sipush n, 3)) (hv : (Int16.ofInt n).toInt32 = v) (hp : pc + 3 = pc') (k : wd_V G d own cc nL ret Q pc' L (.inl v :: S) μ) : wd_V G d own cc nL ret Q pc L S μ := by
  subst hp
  intro p e s m args below meth c H locs ls X hl hP hD hS
  exact lv_sipush X.1 X.2.1 hdg hv (k p e s m args below meth c H locs ls X hl hP hD hS)
theorem wv_iload_n {f : Fin 4} {i : Nat} {v : Int32} (hdg : decode cc pc = .ok (.iload_n f, 1)) (hi : (f : Nat) = i) (h : L[i]? = some (some (.inl v))) (hp : pc + 1 = pc') (k : wd_V G d own cc nL ret Q pc' L (.inl v :: S) μ) : wd_V G d own cc nL ret Q pc L S μ := by
  subst hp
  intro p e s m args below meth c H locs ls X hl hP hD hS
  exact lv_iload_n X.1 X.2.1 hdg hi (wd_Lc_at hl h) (k p e s m args below meth c H locs ls X hl hP hD hS)
theorem wv_iload {i : Nat} {v : Int32} (hdg : decode cc pc = .ok (.iload i, 2)) (h : L[i]? = some (some (.inl v))) (hp : pc + 2 = pc') (k : wd_V G d own cc nL ret Q pc' L (.inl v :: S) μ) : wd_V G d own cc nL ret Q pc L S μ := by
  subst hp
  intro p e s m args below meth c H locs ls X hl hP hD hS
  exact lv_iload X.1 X.2.1 hdg (wd_Lc_at hl h) (k p e s m args below meth c H locs ls X hl hP hD hS)
theorem wv_aload_n {f : Fin 4} {i : Nat} {v : Nat} (hdg : decode cc pc = .ok (.aload_n f, 1)) (hi : (f : Nat) = i) (h : L[i]? = some (some (.inr v))) (hp : pc + 1 = pc') (k : wd_V G d own cc nL ret Q pc' L (.inr v :: S) μ) : wd_V G d own cc nL ret Q pc L S μ := by
  subst hp
  intro p e s m args below meth c H locs ls X hl hP hD hS
  exact lv_aload_n X.1 X.2.1 hdg hi (wd_Lc_at hl h) (k p e s m args below meth c H locs ls X hl hP hD hS)
theorem wv_aload {i : Nat} {v : Nat} (hdg : decode cc pc = .ok (.aload i, 2)) (h : L[i]? = some (some (.inr v))) (hp : pc + 2 = pc') (k : wd_V G d own cc nL ret Q pc' L (.inr v :: S) μ) : wd_V G d own cc nL ret Q pc L S μ := by
  subst hp
  intro p e s m args below meth c H locs ls X hl hP hD hS
  exact lv_aload X.1 X.2.1 hdg (wd_Lc_at hl h) (k p e s m args below meth c H locs ls X hl hP hD hS)
theorem wv_istore_n {f : Fin 4} {i : Nat} {v : Int32} {L' : List (Option wd_AV)} (hdg : decode cc pc = .ok (.istore_n f, 1)) (hi : (f : Nat) = i) (hn : i < nL) (hL : L.set i (some (.inl v)) = L') (hp : pc + 1 = pc') (k : wd_V G d own cc nL ret Q pc' L' S μ) : wd_V G d own cc nL ret Q pc L (.inl v :: S) μ := by
  subst hp
  intro p e s m args below meth c H locs ls X hl hP hD hS
  exact lv_istore_n X.1 X.2.1 hdg hi hl hn rfl (fun ls' hl' => k p e s m args below meth c H locs ls' X (wd_Lc_put hL hl') hP hD hS)
theorem wv_istore {i : Nat} {v : Int32} {L' : List (Option wd_AV)} (hdg : decode cc pc = .ok (.istore i, 2)) (hn : i < nL) (hL : L.set i (some (.inl v)) = L') (hp : pc + 2 = pc') (k : wd_V G d own cc nL ret Q pc' L' S μ) : wd_V G d own cc nL ret Q pc L (.inl v :: S) μ := by
  subst hp
  intro p e s m args below meth c H locs ls X hl hP hD hS
  exact lv_istore X.1 X.2.1 hdg hl hn rfl (fun ls' hl' => k p e s m args below meth c H locs ls' X (wd_Lc_put hL hl') hP hD hS)
theorem wv_iinc {i : Nat} {n : Int} {x v : Int32} {L' : List (Option wd_AV)} (hdg : decode cc pc = .ok (.iinc i n, 3)) (h : L[i]? = some (some (.inl x))) (hv : x + Int32.ofInt n = v) (hn : i < nL) (hL : L.set i (some (.inl v)) = L') (hp : pc + 3 = pc') (k : wd_V G d own cc nL ret Q pc' L' S μ) : wd_V G d own cc nL ret Q pc L S μ := by
  subst hp
  intro p e s m args below meth c H locs ls X hl hP hD hS
  obtain ⟨j, hj⟩ := List.getElem?_of_mem (wd_Lc_mem.mpr ⟨Sum.inl x, h, rfl⟩ : (i, wd_cv G.2.2.1 (.inl x)) ∈ wd_Lc G.2.2.1 L)
  exact lv_iinc X.1 X.2.1 hdg hl hj hv hn rfl (fun ls' hl' => k p e s m args below meth c H locs ls' X (wd_Lc_put hL hl') hP hD hS)
theorem wv_iadd {x y : Int32} (hdg : decode cc pc = .ok (.iadd, 1)) (hp : pc + 1 = pc') (k : wd_V G d own cc nL ret Q pc' L (.inl (x + y) :: S) μ) : wd_V G d own cc nL ret Q pc L (.inl y :: .inl x :: S) μ := by
  subst hp
  intro p e s m args below meth c H locs ls X hl hP hD hS
  exact lv_iadd X.1 X.2.1 hdg (k p e s m args below meth c H locs ls X hl hP hD hS)
theorem wv_isub {x y : Int32} (hdg : decode cc pc = .ok (.isub, 1)) (hp : pc + 1 = pc') (k : wd_V G d own cc nL ret Q pc' L (.inl (x - y) :: S) μ) : wd_V G d own cc nL ret Q pc L (.inl y :: .inl x :: S) μ := by
  subst hp
  intro p e s m args below meth c H locs ls X hl hP hD hS
  exact lv_isub X.1 X.2.1 hdg (k p e s m args below meth c H locs ls X hl hP hD hS)
theorem wv_imul {x y : Int32} (hdg : decode cc pc = .ok (.imul, 1)) (hp : pc + 1 = pc') (k : wd_V G d own cc nL ret Q pc' L (.inl (x * y) :: S) μ) : wd_V G d own cc nL ret Q pc L (.inl y :: .inl x :: S) μ := by
  subst hp
  intro p e s m args below meth c H locs ls X hl hP hD hS
  exact lv_imul X.1 X.2.1 hdg (k p e s m args below meth c H locs ls X hl hP hD hS)
theorem wv_iand {x y : Int32} (hdg : decode cc pc = .ok (.iand, 1)) (hp : pc + 1 = pc') (k : wd_V G d own cc nL ret Q pc' L (.inl (x &&& y) :: S) μ) : wd_V G d own cc nL ret Q pc L (.inl y :: .inl x :: S) μ := by
  subst hp
  intro p e s m args below meth c H locs ls X hl hP hD hS
  exact lv_iand X.1 X.2.1 hdg (k p e s m args below meth c H locs ls X hl hP hD hS)
theorem wv_ior {x y : Int32} (hdg : decode cc pc = .ok (.ior, 1)) (hp : pc + 1 = pc') (k : wd_V G d own cc nL ret Q pc' L (.inl (x ||| y) :: S) μ) : wd_V G d own cc nL ret Q pc L (.inl y :: .inl x :: S) μ := by
  subst hp
  intro p e s m args below meth c H locs ls X hl hP hD hS
  exact lv_ior X.1 X.2.1 hdg (k p e s m args below meth c H locs ls X hl hP hD hS)
theorem wv_ishl {x y : Int32} (hdg : decode cc pc = .ok (.ishl, 1)) (hp : pc + 1 = pc') (k : wd_V G d own cc nL ret Q pc' L (.inl (x <<< (y &&& 31)) :: S) μ) : wd_V G d own cc nL ret Q pc L (.inl y :: .inl x :: S) μ := by
  subst hp
  intro p e s m args below meth c H locs ls X hl hP hD hS
  exact lv_ishl X.1 X.2.1 hdg (k p e s m args below meth c H locs ls X hl hP hD hS)
theorem wv_ishr {x y : Int32} (hdg : decode cc pc = .ok (.ishr, 1)) (hp : pc + 1 = pc') (k : wd_V G d own cc nL ret Q pc' L (.inl (x >>> (y &&& 31)) :: S) μ) : wd_V G d own cc nL ret Q pc L (.inl y :: .inl x :: S) μ := by
  subst hp
  intro p e s m args below meth c H locs ls X hl hP hD hS
  exact lv_ishr X.1 X.2.1 hdg (k p e s m args below meth c H locs ls X hl hP hD hS)
theorem wv_idiv {x y : Int32} (hdg : decode cc pc = .ok (.idiv, 1)) (hne : ¬ y = 0) (hp : pc + 1 = pc') (k : wd_V G d own cc nL ret Q pc' L (.inl (x / y) :: S) μ) : wd_V G d own cc nL ret Q pc L (.inl y :: .inl x :: S) μ := by
  subst hp
  intro p e s m args below meth c H locs ls X hl hP hD hS
  exact lv_idiv X.1 X.2.1 hdg hne (k p e s m args below meth c H locs ls X hl hP hD hS)
theorem wv_irem {x y : Int32} (hdg : decode cc pc = .ok (.irem, 1)) (hne : ¬ y = 0) (hp : pc + 1 = pc') (k : wd_V G d own cc nL ret Q pc' L (.inl (x - x / y * y) :: S) μ) : wd_V G d own cc nL ret Q pc L (.inl y :: .inl x :: S) μ := by
  subst hp
  intro p e s m args below meth c H locs ls X hl hP hD hS
  exact lv_irem X.1 X.2.1 hdg hne (k p e s m args below meth c H locs ls X hl hP hD hS)
theorem wv_iushr {x y : Int32} (hdg : decode cc pc = .ok (.iushr, 1)) (hp : pc + 1 = pc') (k : wd_V G d own cc nL ret Q pc' L (.inl ((x.toUInt32 >>> (y.toUInt32 &&& Int32.toUInt32 31)).toInt32) :: S) μ) : wd_V G d own cc nL ret Q pc L (.inl y :: .inl x :: S) μ := by
  subst hp
  intro p e s m args below meth c H locs ls X hl hP hD hS
  exact lv_iushr X.1 X.2.1 hdg rfl (k p e s m args below meth c H locs ls X hl hP hD hS)
theorem wv_ineg {x : Int32} (hdg : decode cc pc = .ok (.ineg, 1)) (hp : pc + 1 = pc') (k : wd_V G d own cc nL ret Q pc' L (.inl (-x) :: S) μ) : wd_V G d own cc nL ret Q pc L (.inl x :: S) μ := by
  subst hp
  intro p e s m args below meth c H locs ls X hl hP hD hS
  exact lv_ineg X.1 X.2.1 hdg (k p e s m args below meth c H locs ls X hl hP hD hS)
theorem wv_dup {v : wd_AV} (hdg : decode cc pc = .ok (.dup, 1)) (hp : pc + 1 = pc') (k : wd_V G d own cc nL ret Q pc' L (v :: v :: S) μ) : wd_V G d own cc nL ret Q pc L (v :: S) μ := by
  subst hp
  intro p e s m args below meth c H locs ls X hl hP hD hS
  exact lv_dup X.1 X.2.1 hdg (wd_cv_cat _ v) (k p e s m args below meth c H locs ls X hl hP hD hS)
theorem wv_dup2 {v w : wd_AV} (hdg : decode cc pc = .ok (.dup2, 1)) (hp : pc + 1 = pc') (k : wd_V G d own cc nL ret Q pc' L (v :: w :: v :: w :: S) μ) : wd_V G d own cc nL ret Q pc L (v :: w :: S) μ := by
  subst hp
  intro p e s m args below meth c H locs ls X hl hP hD hS
  exact lv_dup2_11 X.1 X.2.1 hdg (wd_cv_cat _ v) (wd_cv_cat _ w) (k p e s m args below meth c H locs ls X hl hP hD hS)
theorem wv_pop {v : wd_AV} (hdg : decode cc pc = .ok (.pop, 1)) (hp : pc + 1 = pc') (k : wd_V G d own cc nL ret Q pc' L S μ) : wd_V G d own cc nL ret Q pc L (v :: S) μ := by
  subst hp
  intro p e s m args below meth c H locs ls X hl hP hD hS
  exact lv_pop X.1 X.2.1 hdg (wd_cv_cat _ v) (k p e s m args below meth c H locs ls X hl hP hD hS)
theorem wv_goto {off : Int} (hdg : decode cc pc = .ok (.goto off, 3)) (ht : (pc : Int) + off = (pc' : Int)) (k : wd_V G d own cc nL ret Q pc' L S μ) : wd_V G d own cc nL ret Q pc L S μ := by
  intro p e s m args below meth c H locs ls X hl hP hD hS
  exact lv_goto X.1 X.2.1 hdg ht (k p e s m args below meth c H locs ls X hl hP hD hS)
theorem wv_icmp_eq {x y : Int32} {off : Int} {tgt : Nat} (hdg : decode cc pc = .ok (.if_icmp .eq off, 3)) (ht : (pc : Int) + off = (tgt : Int)) (hp : pc + 3 = pc') (kt : x = y → wd_V G d own cc nL ret Q tgt L S μ) (kf : ¬ x = y → wd_V G d own cc nL ret Q pc' L S μ) : wd_V G d own cc nL ret Q pc L (.inl y :: .inl x :: S) μ := by
  subst hp
  intro p e s m args below meth c H locs ls X hl hP hD hS
  exact lv_icmp_eq X.1 X.2.1 hdg ht (fun h => kt h p e s m args below meth c H locs ls X hl hP hD hS) (fun h => kf h p e s m args below meth c H locs ls X hl hP hD hS)
theorem wv_icmp_ne {x y : Int32} {off : Int} {tgt : Nat} (hdg : decode cc pc = .ok (.if_icmp .ne off, 3)) (ht : (pc : Int) + off = (tgt : Int)) (hp : pc + 3 = pc') (kt : ¬ x = y → wd_V G d own cc nL ret Q tgt L S μ) (kf : x = y → wd_V G d own cc nL ret Q pc' L S μ) : wd_V G d own cc nL ret Q pc L (.inl y :: .inl x :: S) μ := by
  subst hp
  intro p e s m args below meth c H locs ls X hl hP hD hS
  exact lv_icmp_ne X.1 X.2.1 hdg ht (fun h => kt h p e s m args below meth c H locs ls X hl hP hD hS) (fun h => kf h p e s m args below meth c H locs ls X hl hP hD hS)
theorem wv_icmp_lt {x y : Int32} {off : Int} {tgt : Nat} (hdg : decode cc pc = .ok (.if_icmp .lt off, 3)) (ht : (pc : Int) + off = (tgt : Int)) (hp : pc + 3 = pc') (kt : x < y → wd_V G d own cc nL ret Q tgt L S μ) (kf : ¬ x < y → wd_V G d own cc nL ret Q pc' L S μ) : wd_V G d own cc nL ret Q pc L (.inl y :: .inl x :: S) μ := by
  subst hp
  intro p e s m args below meth c H locs ls X hl hP hD hS
  exact lv_icmp_lt X.1 X.2.1 hdg ht (fun h => kt h p e s m args below meth c H locs ls X hl hP hD hS) (fun h => kf h p e s m args below meth c H locs ls X hl hP hD hS)
theorem wv_icmp_ge {x y : Int32} {off : Int} {tgt : Nat} (hdg : decode cc pc = .ok (.if_icmp .ge off, 3)) (ht : (pc : Int) + off = (tgt : Int)) (hp : pc + 3 = pc') (kt : y ≤ x → wd_V G d own cc nL ret Q tgt L S μ) (kf : ¬ y ≤ x → wd_V G d own cc nL ret Q pc' L S μ) : wd_V G d own cc nL ret Q pc L (.inl y :: .inl x :: S) μ := by
  subst hp
  intro p e s m args below meth c H locs ls X hl hP hD hS
  exact lv_icmp_ge X.1 X.2.1 hdg ht (fun h => kt h p e s m args below meth c H locs ls X hl hP hD hS) (fun h => kf h p e s m args below meth c H locs ls X hl hP hD hS)
theorem wv_icmp_gt {x y : Int32} {off : Int} {tgt : Nat} (hdg : decode cc pc = .ok (.if_icmp .gt off, 3)) (ht : (pc : Int) + off = (tgt : Int)) (hp : pc + 3 = pc') (kt : y < x → wd_V G d own cc nL ret Q tgt L S μ) (kf : ¬ y < x → wd_V G d own cc nL ret Q pc' L S μ) : wd_V G d own cc nL ret Q pc L (.inl y :: .inl x :: S) μ := by
  subst hp
  intro p e s m args below meth c H locs ls X hl hP hD hS
  exact lv_icmp_gt X.1 X.2.1 hdg ht (fun h => kt h p e s m args below meth c H locs ls X hl hP hD hS) (fun h => kf h p e s m args below meth c H locs ls X hl hP hD hS)
theorem wv_icmp_le {x y : Int32} {off : Int} {tgt : Nat} (hdg : decode cc pc = .ok (.if_icmp .le off, 3)) (ht : (pc : Int) + off = (tgt : Int)) (hp : pc + 3 = pc') (kt : x ≤ y → wd_V G d own cc nL ret Q tgt L S μ) (kf : ¬ x ≤ y → wd_V G d own cc nL ret Q pc' L S μ) : wd_V G d own cc nL ret Q pc L (.inl y :: .inl x :: S) μ := by
  subst hp
  intro p e s m args below meth c H locs ls X hl hP hD hS
  exact lv_icmp_le X.1 X.2.1 hdg ht (fun h => kt h p e s m args below meth c H locs ls X hl hP hD hS) (fun h => kf h p e s m args below meth c H locs ls X hl hP hD hS)
theorem wv_if_eq {x : Int32} {off : Int} {tgt : Nat} (hdg : decode cc pc = .ok (.ifCond .eq off, 3)) (ht : (pc : Int) + off = (tgt : Int)) (hp : pc + 3 = pc') (kt : x = 0 → wd_V G d own cc nL ret Q tgt L S μ) (kf : ¬ x = 0 → wd_V G d own cc nL ret Q pc' L S μ) : wd_V G d own cc nL ret Q pc L (.inl x :: S) μ := by
  subst hp
  intro p e s m args below meth c H locs ls X hl hP hD hS
  exact lv_if_eq X.1 X.2.1 hdg ht (fun h => kt h p e s m args below meth c H locs ls X hl hP hD hS) (fun h => kf h p e s m args below meth c H locs ls X hl hP hD hS)
theorem wv_if_ne {x : Int32} {off : Int} {tgt : Nat} (hdg : decode cc pc = .ok (.ifCond .ne off, 3)) (ht : (pc : Int) + off = (tgt : Int)) (hp : pc + 3 = pc') (kt : ¬ x = 0 → wd_V G d own cc nL ret Q tgt L S μ) (kf : x = 0 → wd_V G d own cc nL ret Q pc' L S μ) : wd_V G d own cc nL ret Q pc L (.inl x :: S) μ := by
  subst hp
  intro p e s m args below meth c H locs ls X hl hP hD hS
  exact lv_if_ne X.1 X.2.1 hdg ht (fun h => kt h p e s m args below meth c H locs ls X hl hP hD hS) (fun h => kf h p e s m args below meth c H locs ls X hl hP hD hS)
theorem wv_if_lt {x : Int32} {off : Int} {tgt : Nat} (hdg : decode cc pc = .ok (.ifCond .lt off, 3)) (ht : (pc : Int) + off = (tgt : Int)) (hp : pc + 3 = pc') (kt : x < 0 → wd_V G d own cc nL ret Q tgt L S μ) (kf : ¬ x < 0 → wd_V G d own cc nL ret Q pc' L S μ) : wd_V G d own cc nL ret Q pc L (.inl x :: S) μ := by
  subst hp
  intro p e s m args below meth c H locs ls X hl hP hD hS
  exact lv_if_lt X.1 X.2.1 hdg ht (fun h => kt h p e s m args below meth c H locs ls X hl hP hD hS) (fun h => kf h p e s m args below meth c H locs ls X hl hP hD hS)
theorem wv_if_ge {x : Int32} {off : Int} {tgt : Nat} (hdg : decode cc pc = .ok (.ifCond .ge off, 3)) (ht : (pc : Int) + off = (tgt : Int)) (hp : pc + 3 = pc') (kt : 0 ≤ x → wd_V G d own cc nL ret Q tgt L S μ) (kf : ¬ 0 ≤ x → wd_V G d own cc nL ret Q pc' L S μ) : wd_V G d own cc nL ret Q pc L (.inl x :: S) μ := by
  subst hp
  intro p e s m args below meth c H locs ls X hl hP hD hS
  exact lv_if_ge X.1 X.2.1 hdg ht (fun h => kt h p e s m args below meth c H locs ls X hl hP hD hS) (fun h => kf h p e s m args below meth c H locs ls X hl hP hD hS)
theorem wv_if_gt {x : Int32} {off : Int} {tgt : Nat} (hdg : decode cc pc = .ok (.ifCond .gt off, 3)) (ht : (pc : Int) + off = (tgt : Int)) (hp : pc + 3 = pc') (kt : 0 < x → wd_V G d own cc nL ret Q tgt L S μ) (kf : ¬ 0 < x → wd_V G d own cc nL ret Q pc' L S μ) : wd_V G d own cc nL ret Q pc L (.inl x :: S) μ := by
  subst hp
  intro p e s m args below meth c H locs ls X hl hP hD hS
  exact lv_if_gt X.1 X.2.1 hdg ht (fun h => kt h p e s m args below meth c H locs ls X hl hP hD hS) (fun h => kf h p e s m args below meth c H locs ls X hl hP hD hS)
theorem wv_if_le {x : Int32} {off : Int} {tgt : Nat} (hdg : decode cc pc = .ok (.ifCond .le off, 3)) (ht : (pc : Int) + off = (tgt : Int)) (hp : pc + 3 = pc') (kt : x ≤ 0 → wd_V G d own cc nL ret Q tgt L S μ) (kf : ¬ x ≤ 0 → wd_V G d own cc nL ret Q pc' L S μ) : wd_V G d own cc nL ret Q pc L (.inl x :: S) μ := by
  subst hp
  intro p e s m args below meth c H locs ls X hl hP hD hS
  exact lv_if_le X.1 X.2.1 hdg ht (fun h => kt h p e s m args below meth c H locs ls X hl hP hD hS) (fun h => kf h p e s m args below meth c H locs ls X hl hP hD hS)
theorem wv_ldcw {idx : Nat} {v : Int32} (hw : Cond.constant own idx v ∈ wd_tab) (hdg : decode cc pc = .ok (.ldc_w idx, 3)) (hp : pc + 3 = pc') (k : wd_V G d own cc nL ret Q pc' L (.inl v :: S) μ) : wd_V G d own cc nL ret Q pc L S μ := by
  subst hp
  intro p e s m args below meth c H locs ls X hl hP hD hS
  exact lv_ldcw X.1 X.2.1 X.2.2.2.1 (X.2.2.2.2.1 _ hw) hdg (k p e s m args below meth c H locs ls X hl hP hD hS)
theorem wv_case {dflt hi off : Int} {offs : Array Int} {len i tgt : Nat} {x : Int32} (hdg : decode cc pc = .ok (.tableswitch dflt 0 hi offs, len)) (hx : x = nI i) (hi' : (i : Int) ≤ hi) (hsm : i < 2 ^ 31) (ho : offs[i]? = some off) (ht : (pc : Int) + off = (tgt : Int)) (k : wd_V G d own cc nL ret Q tgt L S μ) : wd_V G d own cc nL ret Q pc L (.inl x :: S) μ := by
  intro p e s m args below meth c H locs ls X hl hP hD hS
  have hxi : x.toInt = (i : Int) := by rw [hx]; exact nI_toInt hsm
  exact lv_tableIn X.1 X.2.1 hdg (by rw [hxi]; omega) (by rw [hxi]; omega) (by rw [hxi]; simpa using ho) ht (k p e s m args below meth c H locs ls X hl hP hD hS)
theorem wv_dflt {dflt hi : Int} {offs : Array Int} {len N tgt : Nat} {x : Int32} (hdg : decode cc pc = .ok (.tableswitch dflt 0 hi offs, len)) (hN : hi + 1 = (N : Int)) (hx : ∀ i, i < N → ¬ x = nI i) (ht : (pc : Int) + dflt = (tgt : Int)) (k : wd_V G d own cc nL ret Q tgt L S μ) : wd_V G d own cc nL ret Q pc L (.inl x :: S) μ := by
  intro p e s m args below meth c H locs ls X hl hP hD hS
  refine lv_tableOut X.1 X.2.1 hdg ?_ ht (k p e s m args below meth c H locs ls X hl hP hD hS)
  by_cases h0 : x < 0
  · left
    simpa [Int32.lt_iff_toInt_lt] using h0
  · obtain ⟨j, hj, e⟩ := nI_of h0
    right
    have : N ≤ j := Nat.le_of_not_lt (fun h => hx j h e)
    rw [e, nI_toInt hj]
    omega
/-! fields -/
theorem wv_geti {idx k j ci : Nat} {sl : List (Option Nat)} (F : wd_FL own idx ci j) (hs : wd_sh[k]? = some (.inr (.inr (ci, sl)))) (hj : sl[j]? = some none) (hdg : decode cc pc = .ok (.getfield idx, 3)) (hp : pc + 3 = pc') (kk : wd_V G d own cc nL ret Q pc' L (.inl (μ k j) :: S) μ) : wd_V G d own cc nL ret Q pc L (.inr k :: S) μ := by
  subst hp
  intro p e s m args below meth c H locs ls X hl hP hD hS
  obtain ⟨C, T, N, ⟨hc, hin, -, -⟩, hjN, hlink⟩ := F
  exact va_get X.1 X.2.1 X.2.2.2.2.1 hin X.2.2.2.1 X.2.2.2.2.2.2.2.1 hP k (wd_W_get G μ hs) hc j hjN (X.2.2.2.2.1 _ hlink) (fun _ h => h) (v := .int (μ k j)) (by simp [List.getElem?_mapIdx, hj]) hdg (kk p e s m args below meth c H locs ls X hl hP hD hS)
theorem wv_getr {idx k j ci h : Nat} {sl : List (Option Nat)} (F : wd_FL own idx ci j) (hs : wd_sh[k]? = some (.inr (.inr (ci, sl)))) (hj : sl[j]? = some (some h)) (hdg : decode cc pc = .ok (.getfield idx, 3)) (hp : pc + 3 = pc') (kk : wd_V G d own cc nL ret Q pc' L (.inr h :: S) μ) : wd_V G d own cc nL ret Q pc L (.inr k :: S) μ := by
  subst hp
  intro p e s m args below meth c H locs ls X hl hP hD hS
  obtain ⟨C, T, N, ⟨hc, hin, -, -⟩, hjN, hlink⟩ := F
  exact va_get X.1 X.2.1 X.2.2.2.2.1 hin X.2.2.2.1 X.2.2.2.2.2.2.2.1 hP k (wd_W_get G μ hs) hc j hjN (X.2.2.2.2.1 _ hlink) (fun _ h => h) (v := .ref (G.2.2.1 h)) (by simp [List.getElem?_mapIdx, hj]) hdg (kk p e s m args below meth c H locs ls X hl hP hD hS)
theorem mset_ne {ν : wd_Mem} {a k j : Nat} {x : Int32} (h : a ≠ k) : mset ν k j x a = ν a := by
  funext b
  simp [mset, h]
theorem mset_upd {ν : wd_Mem} {k j : Nat} {x : Int32} : mset ν k j x k = upd (ν k) j x := by
  funext b
  simp [mset, upd]
theorem wd_cell_put {ad : Nat → Nat} {ca : Nat → ClassId} {ν : wd_Mem} {k j ci : Nat} {x : Int32} {sl : List (Option Nat)} (hj : sl[j]? = some none) : (Sum.inr (ci, (sl.mapIdx (fun j o => match o with
    | none => Value.int (ν k j)
    | some h => Value.ref (ad h))).set j (.int x)) : va_E) = wd_cell ad ca (mset ν k j x) k (.inr (.inr (ci, sl))) := by
  simp only [wd_cell]
  congr 2
  apply List.ext_getElem?
  intro i
  rw [List.getElem?_set]
  have hlen := (List.getElem?_eq_some_iff.mp hj).1
  by_cases hi : j = i
  · subst hi
    rw [if_pos rfl, if_pos (by simpa using hlen)]
    simp [List.getElem?_mapIdx, hj, mset]
  · rw [if_neg hi]
    simp only [List.getElem?_mapIdx]
    cases hs : sl[i]? with
    | none => rfl
    | some o =>
      cases o with
      | none => simp [mset, Ne.symm hi]
      | some h => rfl
theorem wv_puti {idx k j ci : Nat} {x : Int32} {sl : List (Option Nat)} (F : wd_FP own idx ci j) (hs : wd_sh[k]? = some (.inr (.inr (ci, sl)))) (hj : sl[j]? = some none) (hdg : decode cc pc = .ok (.putfield idx, 3)) (hp : pc + 3 = pc') (kk : wd_V G d own cc nL ret Q pc' L S (mset μ k j x)) : wd_V G d own cc nL ret Q pc L (.inl x :: .inr k :: S) μ := by
  subst hp
  intro p e s m args below meth c H locs ls X hl hP hD hS
  obtain ⟨C, T, N, ⟨hc, hin, ⟨ty0, hty⟩, hnm⟩, hjN, hlink, hfin, hd⟩ := F
  have e1 : (wd_W G μ).set k (G.2.2.1 k, .inr (ci, (sl.mapIdx (fun j o => match o with
    | none => Value.int (μ k j)
    | some h => Value.ref (G.2.2.1 h))).set j (.int x))) = wd_W G (mset μ k j x) := by
    rw [wd_cell_put (ca := G.2.2.2) hj]
    exact wd_W_set G hs (fun a ha => mset_ne ha)
  refine va_put X.1 X.2.1 X.2.2.2.2.1 hin ty0 hty hnm X.2.2.2.1 X.2.2.2.2.2.2.2.1 hP hD hS k (wd_W_get G μ hs) hc j hjN (X.2.2.2.2.1 _ hlink) (fun _ h => h) hfin (v := .int x) hd rfl rfl (by simpa using (List.getElem?_eq_some_iff.mp hj).1) hdg (fun H1 locs1 hP1 hD1 hS1 => ?_)
  exact kk p e s m args below meth c H1 locs1 ls X hl (e1 ▸ hP1) (e1 ▸ hD1) hS1
/-! rows of numbers and of references -/
theorem wv_iald {k n : Nat} {i : Int32} (hs : wd_sh[k]? = some (.inl (.int, n))) (hin : vp_in i n) (hdg : decode cc pc = .ok (.iaload, 1)) (hp : pc + 1 = pc') (kk : wd_V G d own cc nL ret Q pc' L (.inl (μ k i.toNatClampNeg) :: S) μ) : wd_V G d own cc nL ret Q pc L (.inl i :: .inr k :: S) μ := by
  subst hp
  intro p e s m args below meth c H locs ls X hl hP hD hS
  exact va_iald X.1 X.2.1 (X.2.2.2.2.2.2.2.2.1 k _ hs) hP k 0 (wd_W_get G μ hs) rfl hin hdg (kk p e s m args below meth c H locs ls X hl hP hD hS)
theorem wv_zald {k n : Nat} {i : Int32} (hs : wd_sh[k]? = some (.inl (.boolean, n))) (hin : vp_in i n) (hdg : decode cc pc = .ok (.baload, 1)) (hp : pc + 1 = pc') (kk : wd_V G d own cc nL ret Q pc' L (.inl (μ k i.toNatClampNeg) :: S) μ) : wd_V G d own cc nL ret Q pc L (.inl i :: .inr k :: S) μ := by
  subst hp
  intro p e s m args below meth c H locs ls X hl hP hD hS
  exact va_zald X.1 X.2.1 (X.2.2.2.2.2.2.2.2.1 k _ hs) hP k 0 (wd_W_get G μ hs) rfl hin hdg (kk p e s m args below meth c H locs ls X hl hP hD hS)
theorem wd_W_row {ν : wd_Mem} {k j : Nat} {x : Int32} {q : FieldType × Nat} (hs : wd_sh[k]? = some (.inl q)) : (wd_W G ν).set k (G.2.2.1 k, .inl (G.2.2.2 k, q.2, .inl (upd (ν k) j x))) = wd_W G (mset ν k j x) := by
  have e1 : (Sum.inl (G.2.2.2 k, q.2, Sum.inl (upd (ν k) j x)) : va_E) = wd_cell G.2.2.1 G.2.2.2 (mset ν k j x) k (.inl q) := by simp only [wd_cell, mset_upd]
  rw [e1]
  exact wd_W_set G hs (fun a ha => mset_ne ha)
theorem wv_iast {k n : Nat} {i x : Int32} (hs : wd_sh[k]? = some (.inl (.int, n))) (hin : vp_in i n) (hdg : decode cc pc = .ok (.iastore, 1)) (hp : pc + 1 = pc') (kk : wd_V G d own cc nL ret Q pc' L S (mset μ k i.toNatClampNeg x)) : wd_V G d own cc nL ret Q pc L (.inl x :: .inl i :: .inr k :: S) μ := by
  subst hp
  intro p e s m args below meth c H locs ls X hl hP hD hS
  have e1 := wd_W_row (G := G) (ν := μ) (j := i.toNatClampNeg) (x := x) hs
  exact va_iast X.1 X.2.1 (X.2.2.2.2.2.2.2.2.1 k _ hs) hP hD hS k 0 (wd_W_get G μ hs) rfl hin hdg (fun H1 locs1 hP1 hD1 hS1 => kk p e s m args below meth c H1 locs1 ls X hl (e1 ▸ hP1) (e1 ▸ hD1) hS1)
theorem wv_zast {k n : Nat} {i x : Int32} (hs : wd_sh[k]? = some (.inl (.boolean, n))) (hin : vp_in i n) (hdg : decode cc pc = .ok (.bastore, 1)) (hp : pc + 1 = pc') (kk : wd_V G d own cc nL ret Q pc' L S (mset μ k i.toNatClampNeg (vp_nar .boolean x))) : wd_V G d own cc nL ret Q pc L (.inl x :: .inl i :: .inr k :: S) μ := by
  subst hp
  intro p e s m args below meth c H locs ls X hl hP hD hS
  have e1 := wd_W_row (G := G) (ν := μ) (j := i.toNatClampNeg) (x := vp_nar .boolean x) hs
  exact va_zast X.1 X.2.1 (X.2.2.2.2.2.2.2.2.1 k _ hs) hP hD hS k 0 (wd_W_get G μ hs) rfl hin hdg (fun H1 locs1 hP1 hD1 hS1 => kk p e s m args below meth c H1 locs1 ls X hl (e1 ▸ hP1) (e1 ▸ hD1) hS1)
theorem wv_aald {k h : Nat} {i : Int32} {hs : List Nat} (hs' : wd_sh[k]? = some (.inr (.inl hs))) (hin : vp_in i hs.length) (hh : hs[i.toNatClampNeg]? = some h) (hdg : decode cc pc = .ok (.aaload, 1)) (hp : pc + 1 = pc') (kk : wd_V G d own cc nL ret Q pc' L (.inr h :: S) μ) : wd_V G d own cc nL ret Q pc L (.inl i :: .inr k :: S) μ := by
  subst hp
  intro p e s m args below meth c H locs ls X hl hP hD hS
  refine va_aldq X.1 X.2.1 (X.2.2.2.2.2.2.2.2.2.1 k _ hs') hP k 0 (wd_W_get G μ hs') rfl hin hdg ?_
  rw [hh]
  exact kk p e s m args below meth c H locs ls X hl hP hD hS
/-! ends -/
theorem wv_ireturn {v : Int32} (hr : ret = some .int) (hdg : decode cc pc = .ok (.ireturn, 1)) (hQ : Q (some (.inl v)) μ) : wd_V G d own cc nL ret Q pc L [.inl v] μ := by
  intro p e s m args below meth c H locs ls X hl hP hD hS
  exact W.iret X.1 X.2.1 (X.2.2.2.2.2.1.trans hr) (fun t ht hW => ⟨⟨some (.inl v), μ, rfl, hQ, by rw [ht]; exact hP⟩, hS.F ht⟩) hS.2.2 hdg X.2.2.2.2.2.2.1
theorem wv_zreturn {v : Int32} (hr : ret = some .boolean) (hb : narrow .boolean (.int v) = .int v) (hdg : decode cc pc = .ok (.ireturn, 1)) (hQ : Q (some (.inl v)) μ) : wd_V G d own cc nL ret Q pc L [.inl v] μ := by
  intro p e s m args below meth c H locs ls X hl hP hD hS
  exact W.zret X.1 X.2.1 (X.2.2.2.2.2.1.trans hr) hb (fun t ht hW => ⟨⟨some (.inl v), μ, rfl, hQ, by rw [ht]; exact hP⟩, hS.F ht⟩) hS.2.2 hdg X.2.2.2.2.2.2.1
theorem wv_return (hr : ret = none) (hdg : decode cc pc = .ok (.return_, 1)) (hQ : Q none μ) : wd_V G d own cc nL ret Q pc L [] μ := by
  intro p e s m args below meth c H locs ls X hl hP hD hS
  exact W.vret X.1 X.2.1 (X.2.2.2.2.2.1.trans hr) (fun t ht hW => ⟨⟨none, μ, rfl, hQ, by rw [ht]; exact hP⟩, hS.F ht⟩) hS.2.2 hdg X.2.2.2.2.2.2.1
theorem wv_areturn {k : Nat} {C : String} (hr : ret = some (.object C)) (hdg : decode cc pc = .ok (.areturn, 1)) (hQ : Q (some (.inr k)) μ) : wd_V G d own cc nL ret Q pc L [.inr k] μ := by
  intro p e s m args below meth c H locs ls X hl hP hD hS
  exact W.aret X.1 X.2.1 (X.2.2.2.2.2.1.trans hr) (Or.inl ⟨_, rfl⟩) (Or.inr ⟨_, rfl⟩) (fun t ht hW => ⟨⟨some (.inr k), μ, rfl, hQ, by rw [ht]; exact hP⟩, hS.F ht⟩) hS.2.2 hdg X.2.2.2.2.2.2.1
/-! Math -/
theorem wv_min {idx : Nat} {x y : Int32} (hw : wd_MM own idx Lib.Math.min.name Lib.Math.min.code) (h8 : S.length ≤ 8) (hdg : decode cc pc = .ok (.invokestatic idx, 3)) (hp : pc + 3 = pc') (k : wd_V G (d + 1) own cc nL ret Q pc' L (.inl (if y < x then y else x) :: S) μ) : wd_V G (d + 1) own cc nL ret Q pc L (.inl y :: .inl x :: S) μ := by
  subst hp
  intro p e s m args below meth c H locs ls X hl hP hD hS
  obtain ⟨h1, h2, h3, h4⟩ := hw
  have hts := X.2.2.2.2.1
  exact va_mmin X.1 X.2.1 (X.2.2.1.trans hl.1.symm) X.2.2.2.1 (hts _ h1) (hts _ h2) (hts _ h3) (hts _ h4) (by simp [wd_room]) (by rw [wd_cats]; simp only [wd_room]; omega) (Nat.le_refl _) (Nat.le_refl _) hdg (k p e s m args below meth c H locs ls X hl hP hD hS)
theorem wv_max {idx : Nat} {x y : Int32} (hw : wd_MM own idx Lib.Math.max.name Lib.Math.max.code) (h8 : S.length ≤ 8) (hdg : decode cc pc = .ok (.invokestatic idx, 3)) (hp : pc + 3 = pc') (k : wd_V G (d + 1) own cc nL ret Q pc' L (.inl (if x < y then y else x) :: S) μ) : wd_V G (d + 1) own cc nL ret Q pc L (.inl y :: .inl x :: S) μ := by
  subst hp
  intro p e s m args below meth c H locs ls X hl hP hD hS
  obtain ⟨h1, h2, h3, h4⟩ := hw
  have hts := X.2.2.2.2.1
  exact va_mmax X.1 X.2.1 (X.2.2.1.trans hl.1.symm) X.2.2.2.1 (hts _ h1) (hts _ h2) (hts _ h3) (hts _ h4) (by simp [wd_room]) (by rw [wd_cats]; simp only [wd_room]; omega) (Nat.le_refl _) (Nat.le_refl _) hdg (k p e s m args below meth c H locs ls X hl hP hD hS)
end WV
section WC
variable {p : Program} {l : Launch} {e : Env} {R : Room} {s : State} {m : MethodId} {args : Array Value} {below : List Frame} {meth : Method} {c : Code} {H : Heap} {locs : List Loc}
/-- behind a call -/
theorem wd_goes {G : wd_G} {Qw : State → Prop} {Q' : Option wd_AV → wd_Mem → Prop} {a : Array Value} {pc cells slots : Nat} {ls : Array Slot} {st0 rest : List Value} {A0 : Nat → Prop} {H0 : Heap} (hr : va_Run p l e R s m args below meth c H locs cells slots 0 0 (F0 m pc ls st0) rest (wd_Post G Q' H.size a) (wd_A G H.size)) (hS : va_S A0 H0 H locs) (hA0 : ∀ k, k < wd_sh.length → A0 (G.2.2.1 k)) (hA1 : ∀ q, H0.size ≤ q → A0 q)
    (kk : ∀ (r : Option wd_AV) (u : wd_Mem) (H1 : Heap) (locs1 : List Loc), Q' r u → va_P G.2.1 vwCl (wd_W G u) H1 → H.size ≤ H1.size → (∀ q : Nat, q < H.size → ¬ wd_A G H.size q → H1[q]? = H[q]?) → va_S A0 H0 H1 locs1 → W p l e R s m args below meth c H1 locs1 cells slots Qw (F0 m (pc + 3) ls ((r.map (wd_cv G.2.2.1)).toList ++ rest))) : W p l e R s m args below meth c H locs cells slots Qw (F0 m pc ls st0) := by
  intro T hT X
  obtain ⟨v, st₀, t, T', L, h0, X', hL, e1, e2, ⟨⟨r, u, hv, hp, hb⟩, hz, hk⟩, st⟩ := hr T hT X
  simp only [Outcome.returned.injEq] at hv
  subst hv
  rw [h0] at hz hk
  have hAA : ∀ q, wd_A G H.size q → A0 q := fun q h => by
    rcases h with ⟨k, hk, rfl⟩ | h
    · exact hA0 k hk
    · exact hA1 q (Nat.le_trans hS.1 h)
  obtain ⟨t2, a1, b1⟩ := kk r u T'.heap (locs ++ L) hp (by rw [e1]; exact hb) (by rw [e1]; exact hz) (fun q h1 h2 => by rw [e1]; exact hk q h1 h2)
    ⟨Nat.le_trans hS.1 (by rw [e1]; exact hz), fun q h1 h2 => by rw [e1, hk q (Nat.lt_of_lt_of_le h1 hS.1) (fun z => h2 (hAA q z))]; exact hS.2.1 q h1 h2, fun q hq => by
      rcases List.mem_append.mp hq with h | h
      · exact hS.2.2 q h
      · exact hAA _ (hL q h)⟩ T' rfl X'
  exact ⟨t2, st t2 a1, b1⟩
theorem wd_blind (G : wd_G) (as : List wd_AV) (μ : wd_Mem) (sz : Nat) : FrameBlind (wd_Pre G as μ sz) := fun a U g mk q => by
  obtain ⟨q0, q1, qP, qK, qD⟩ := q
  exact ⟨q0, q1, qP, wd_KK.same rfl qK, qD⟩
/-- a call of an object's method, at any room that has place for it -/
theorem wd_runV {G : wd_G} {own : String} {cc : ByteArray} {nL idx k ci pc d cells slots : Nat} {sl : List (Option Nat)} {y : MethodName} {as : List wd_AV} {μ : wd_Mem} {Q' : Option wd_AV → wd_Mem → Prop} {ls : Array Slot} {st0 rest : List Value} {A : Nat → Prop}
    (X : p.tables.exec = Jvm.exec ∧ c.code = cc ∧ c.maxLocals = nL ∧ s.vm.findClass own = some m.cls ∧ (∀ w ∈ wd_tab, w.before args s = true)) (hKK : wd_KK G s) (hz : ls.size = nL) (hP : va_P G.2.1 vwCl (wd_W G μ) H) (hD : va_D A (wd_W G μ)) (M : wd_MV own idx y as.length) (hs : wd_sh[k]? = some (.inr (.inr (ci, sl)))) (hcl : (vwCl[ci]?).map (fun q => q.1) = some y.cls)
    (hst : st0 = (as.map (wd_cv G.2.2.1)).reverse ++ .ref (G.2.2.1 k) :: rest) (h8 : (rest.map fun v => v.category).sum ≤ 8) (hdg : decode cc pc = .ok (.invokevirtual idx, 3)) (hC : wd_C G d y (.inr k :: as) μ Q') (hR1 : d + 1 ≤ R.frames) (hR2 : 40 * (d + 1) ≤ R.locals) (hR3 : cells ≤ R.cells) (hR4 : slots ≤ R.slots) :
    va_Run p G.1 e R s m args below meth c H locs cells slots 0 0 (F0 m pc ls st0) rest (wd_Post G Q' H.size (Value.ref (G.2.2.1 k) :: as.map (wd_cv G.2.2.1)).toArray) (wd_A G H.size) := by
  obtain ⟨bytes, n, rt, hcode, hn, hM⟩ := hC
  obtain ⟨⟨m1, m2, m3⟩, m4, m5⟩ := M
  have hts := X.2.2.2.2
  have cw : CallW R s args own y.cls idx y bytes n rt (wd_ws y bytes n rt) (wd_room d) 0 0 as.length := ⟨callB_of _ hts (wd_goodT hcode) rfl rfl rfl (hts _ m2) (hts _ m1) m3 ⟨hR1, by simp only [wd_room]; omega⟩, hts _ m4, hts _ m5⟩
  have hrc : ∃ cellB : Cell, H[G.2.2.1 k]? = some cellB ∧ cellB.vm.isStatics = false ∧ s.vm.findClass y.cls = some cellB.cls := by
    cases hq : vwCl[ci]? with
    | none => rw [hq] at hcl; cases hcl
    | some q =>
      rw [hq] at hcl
      simp only [Option.map_some, Option.some.injEq] at hcl
      rw [← hcl]
      exact va_recv hKK.1 hP hq (wd_W_get G μ hs)
  exact va_runV (As := as.map (wd_cv G.2.2.1)) (rest := rest) ⟨X.1, X.2.1, X.2.2.1, X.2.2.2.1, hts⟩ (hM H.size) cw ⟨wd_blind G _ μ _, hrc, fun U hU hW => ⟨rfl, by rw [hU], by rw [hU]; exact hP, wd_KK.warm hW hKK, wd_D_any G hD (fun _ _ => trivial)⟩⟩ rfl (by simp) hz hst (lv_room h8) hdg ⟨hR3, hR4⟩
theorem wd_runS {G : wd_G} {own : String} {cc : ByteArray} {nL idx pc d cells slots : Nat} {y : MethodName} {as : List wd_AV} {μ : wd_Mem} {Q' : Option wd_AV → wd_Mem → Prop} {ls : Array Slot} {st0 rest : List Value} {A : Nat → Prop}
    (X : p.tables.exec = Jvm.exec ∧ c.code = cc ∧ c.maxLocals = nL ∧ s.vm.findClass own = some m.cls ∧ (∀ w ∈ wd_tab, w.before args s = true)) (hKK : wd_KK G s) (hz : ls.size = nL) (hP : va_P G.2.1 vwCl (wd_W G μ) H) (hD : va_D A (wd_W G μ)) (M : wd_MS own idx y as.length)
    (hst : st0 = (as.map (wd_cv G.2.2.1)).reverse ++ rest) (h8 : (rest.map fun v => v.category).sum ≤ 8) (hdg : decode cc pc = .ok (.invokestatic idx, 3)) (hC : wd_C G d y as μ Q') (hR1 : d + 1 ≤ R.frames) (hR2 : 40 * (d + 1) ≤ R.locals) (hR3 : cells ≤ R.cells) (hR4 : slots ≤ R.slots) :
    va_Run p G.1 e R s m args below meth c H locs cells slots 0 0 (F0 m pc ls st0) rest (wd_Post G Q' H.size (as.map (wd_cv G.2.2.1)).toArray) (wd_A G H.size) := by
  obtain ⟨bytes, n, rt, hcode, hn, hM⟩ := hC
  obtain ⟨⟨m1, m2, m3⟩, m4⟩ := M
  have hts := X.2.2.2.2
  have cw : CallB R s args own idx y bytes n rt (wd_ws y bytes n rt) (wd_room d) 0 0 as.length ∧ (Cond.static y).before args s = true := ⟨callB_of _ hts (wd_goodT hcode) rfl rfl rfl (hts _ m2) (hts _ m1) m3 ⟨hR1, by simp only [wd_room]; omega⟩, hts _ m4⟩
  exact va_runS (As := as.map (wd_cv G.2.2.1)) (rest := rest) ⟨X.1, X.2.1, X.2.2.1, X.2.2.2.1, hts⟩ (hM H.size) cw ⟨wd_blind G _ μ _, fun U hU hW => ⟨rfl, by rw [hU], by rw [hU]; exact hP, wd_KK.warm hW hKK, wd_D_any G hD (fun _ _ => trivial)⟩⟩ rfl (by simp) hz hst (lv_room h8) hdg ⟨hR3, hR4⟩
theorem wd_runSN {G : wd_G} {cc : ByteArray} {nL pc d cells slots : Nat} {as : List wd_AV} {μ : wd_Mem} {Q' : Option wd_AV → wd_Mem → Prop} {ls : Array Slot} {st0 rest : List Value} {A : Nat → Prop}
    (X : p.tables.exec = Jvm.exec ∧ c.code = cc ∧ c.maxLocals = nL ∧ s.vm.findClass RX2 = some m.cls ∧ (∀ w ∈ wd_tab, w.before args s = true)) (hKK : wd_KK G s) (hz : ls.size = nL) (hP : va_P G.2.1 vwCl (wd_W G μ) H) (hD : va_D A (wd_W G μ)) (m2 : Cond.initialized yX7_power.cls ∈ wd_tab) (m4 : Cond.static yX7_power ∈ wd_tab) (m3 : yX7_power.cls ≠ "java/lang/invoke/MethodHandle" ∧ yX7_power.cls ≠ "java/lang/invoke/VarHandle" ∧ (parseMethodDescriptor yX7_power.desc).map (fun d => d.parameters.length) = some as.length)
    (hst : st0 = (as.map (wd_cv G.2.2.1)).reverse ++ rest) (h8 : (rest.map fun v => v.category).sum ≤ 8) (hdg : decode cc pc = .ok (.invokestatic 100, 3)) (hC : wd_C G d yX7_power as μ Q') (hR1 : d + 1 ≤ R.frames) (hR2 : 40 * (d + 1) ≤ R.locals) (hR3 : cells ≤ R.cells) (hR4 : slots ≤ R.slots) :
    va_Run p G.1 e R s m args below meth c H locs cells slots 0 0 (F0 m pc ls st0) rest (wd_Post G Q' H.size (as.map (wd_cv G.2.2.1)).toArray) (wd_A G H.size) := by
  obtain ⟨bytes, n, rt, hcode, hn, hM⟩ := hC
  have hts := X.2.2.2.2
  have cw : va_CN R s args RX2 100 yX7_power "WindowDesk" bytes n rt (wd_ws yX7_power bytes n rt) (wd_room d) 0 0 as.length ∧ (Cond.static yX7_power).before args s = true ∧ True := ⟨va_cnB _ hts (wd_goodT hcode) rfl rfl rfl hKK.2.2.2 (hts _ m2) m3 ⟨hR1, by simp only [wd_room]; omega⟩, hts _ m4, trivial⟩
  exact va_runSN (As := as.map (wd_cv G.2.2.1)) (rest := rest) ⟨X.1, X.2.1, X.2.2.1, X.2.2.2.1, hts⟩ (hM H.size) cw ⟨wd_blind G _ μ _, fun U hU hW => ⟨rfl, by rw [hU], by rw [hU]; exact hP, wd_KK.warm hW hKK, wd_D_any G hD (fun _ _ => trivial)⟩⟩ rfl (by simp) hz hst (lv_room h8) hdg ⟨hR3, hR4⟩
end WC
section WD
variable {G : wd_G} {d : Nat} {own : String} {cc : ByteArray} {nL : Nat} {ret : Option FieldType} {Q : Option wd_AV → wd_Mem → Prop} {pc pc' : Nat} {L : List (Option wd_AV)} {S : List wd_AV} {μ : wd_Mem}
theorem wd_back (r : Option wd_AV) (ad : Nat → Nat) (S : List wd_AV) : (r.map (wd_cv ad)).toList ++ S.map (wd_cv ad) = (r.toList ++ S).map (wd_cv ad) := by
  cases r <;> simp
theorem wv_callV {idx k ci : Nat} {sl : List (Option Nat)} {y : MethodName} {St : List wd_AV} (as : List wd_AV) {Q' : Option wd_AV → wd_Mem → Prop} (M : wd_MV own idx y as.length) (hs : wd_sh[k]? = some (.inr (.inr (ci, sl)))) (hcl : (vwCl[ci]?).map (fun q => q.1) = some y.cls) (hst : as.reverse ++ .inr k :: S = St) (h8 : S.length ≤ 8) (hdg : decode cc pc = .ok (.invokevirtual idx, 3)) (hp : pc + 3 = pc') (hC : wd_C G d y (.inr k :: as) μ Q')
    (kk : ∀ (r : Option wd_AV) (u : wd_Mem), Q' r u → wd_V G (d + 1) own cc nL ret Q pc' L (r.toList ++ S) u) : wd_V G (d + 1) own cc nL ret Q pc L St μ := by
  subst hp
  intro p e s m args below meth c H locs ls X hl hP hD hS
  refine wd_goes (G := G) (Q' := Q') (a := (Value.ref (G.2.2.1 k) :: as.map (wd_cv G.2.2.1)).toArray) (rest := S.map (wd_cv G.2.2.1)) (wd_runV ⟨X.1, X.2.1, X.2.2.1, X.2.2.2.1, X.2.2.2.2.1⟩ X.2.2.2.2.2.2.2 hl.1 hP hD M hs hcl ?_ ?_ hdg hC ?_ ?_ ?_ ?_) hS (fun k hk => Or.inl ⟨k, hk, rfl⟩) (fun q h => Or.inr h) (fun r u H1 locs1 hq hP1 _ _ hS1 => ?_)
  · rw [← hst]; simp [wd_cv]
  · rw [wd_cats]; exact h8
  · exact Nat.le_refl _
  · exact Nat.le_refl _
  · exact Nat.le_refl _
  · exact Nat.le_refl _
  · rw [wd_back]
    exact kk r u hq p e s m args below meth c H1 locs1 ls X hl hP1 (wd_D_A G _ hD) hS1
theorem wv_callS {idx : Nat} {y : MethodName} {St : List wd_AV} (as : List wd_AV) {Q' : Option wd_AV → wd_Mem → Prop} (M : wd_MS own idx y as.length) (hst : as.reverse ++ S = St) (h8 : S.length ≤ 8) (hdg : decode cc pc = .ok (.invokestatic idx, 3)) (hp : pc + 3 = pc') (hC : wd_C G d y as μ Q')
    (kk : ∀ (r : Option wd_AV) (u : wd_Mem), Q' r u → wd_V G (d + 1) own cc nL ret Q pc' L (r.toList ++ S) u) : wd_V G (d + 1) own cc nL ret Q pc L St μ := by
  subst hp
  intro p e s m args below meth c H locs ls X hl hP hD hS
  refine wd_goes (G := G) (Q' := Q') (a := (as.map (wd_cv G.2.2.1)).toArray) (rest := S.map (wd_cv G.2.2.1)) (wd_runS ⟨X.1, X.2.1, X.2.2.1, X.2.2.2.1, X.2.2.2.2.1⟩ X.2.2.2.2.2.2.2 hl.1 hP hD M ?_ ?_ hdg hC ?_ ?_ ?_ ?_) hS (fun k hk => Or.inl ⟨k, hk, rfl⟩) (fun q h => Or.inr h) (fun r u H1 locs1 hq hP1 _ _ hS1 => ?_)
  · rw [← hst]; simp
  · rw [wd_cats]; exact h8
  · exact Nat.le_refl _
  · exact Nat.le_refl _
  · exact Nat.le_refl _
  · exact Nat.le_refl _
  · rw [wd_back]
    exact kk r u hq p e s m args below meth c H1 locs1 ls X hl hP1 (wd_D_A G _ hD) hS1
theorem wv_callSN {St : List wd_AV} (as : List wd_AV) {Q' : Option wd_AV → wd_Mem → Prop} (hown : own = RX2) (m2 : Cond.initialized yX7_power.cls ∈ wd_tab) (m4 : Cond.static yX7_power ∈ wd_tab) (m3 : yX7_power.cls ≠ "java/lang/invoke/MethodHandle" ∧ yX7_power.cls ≠ "java/lang/invoke/VarHandle" ∧ (parseMethodDescriptor yX7_power.desc).map (fun d => d.parameters.length) = some as.length) (hst : as.reverse ++ S = St) (h8 : S.length ≤ 8) (hdg : decode cc pc = .ok (.invokestatic 100, 3)) (hp : pc + 3 = pc') (hC : wd_C G d yX7_power as μ Q')
    (kk : ∀ (r : Option wd_AV) (u : wd_Mem), Q' r u → wd_V G (d + 1) own cc nL ret Q pc' L (r.toList ++ S) u) : wd_V G (d + 1) own cc nL ret Q pc L St μ := by
  subst hp
  subst hown
  intro p e s m args below meth c H locs ls X hl hP hD hS
  refine wd_goes (G := G) (Q' := Q') (a := (as.map (wd_cv G.2.2.1)).toArray) (rest := S.map (wd_cv G.2.2.1)) (wd_runSN ⟨X.1, X.2.1, X.2.2.1, X.2.2.2.1, X.2.2.2.2.1⟩ X.2.2.2.2.2.2.2 hl.1 hP hD m2 m4 m3 ?_ ?_ hdg hC ?_ ?_ ?_ ?_) hS (fun k hk => Or.inl ⟨k, hk, rfl⟩) (fun q h => Or.inr h) (fun r u H1 locs1 hq hP1 _ _ hS1 => ?_)
  · rw [← hst]; simp
  · rw [wd_cats]; exact h8
  · exact Nat.le_refl _
  · exact Nat.le_refl _
  · exact Nat.le_refl _
  · exact Nat.le_refl _
  · rw [wd_back]
    exact kk r u hq p e s m args below meth c H1 locs1 ls X hl hP1 (wd_D_A G _ hD) hS1
theorem wd_args_mem (ad : Nat → Nat) : ∀ (as : List wd_AV) (i j : Nat) (v : wd_AV), as[j]? = some v → (i + j, wd_cv ad v) ∈ lv_args i (as.map (wd_cv ad)) := by
  intro as
  induction as with
  | nil => intro i j v h; simp at h
  | cons a t ih =>
    intro i j v h
    simp only [List.map_cons, lv_args, wd_cv_cat]
    cases j with
    | zero =>
      simp only [List.getElem?_cons_zero, Option.some.injEq] at h
      subst h
      exact List.mem_cons_self
    | succ j =>
      simp only [List.getElem?_cons_succ] at h
      refine List.mem_cons_of_mem _ ?_
      have := ih (i + 1) j v h
      rw [show i + (j + 1) = i + 1 + j by omega]
      simpa using this
theorem wd_sl_len (ad : Nat → Nat) (as : List wd_AV) : (lg_sl (as.map (wd_cv ad))).length = as.length := by
  induction as with
  | nil => rfl
  | cons a t ih =>
    simp only [lg_sl, List.map_cons, List.flatMap_cons, List.length_append, wd_cv_cat] at ih ⊢
    simp only [ih, List.length_cons]
    simp
    omega
/-- a contract out of a walk from the entry -/
theorem wd_enter {y : MethodName} {as : List wd_AV} {L0 : List (Option wd_AV)} (hcode : Cond.code y cc nL ret ∈ wd_tab) (hn : nL ≤ 20) (hpl : plainName y.cls = true) (hown : y.cls = own) (hlen : as.length ≤ nL) (hL : as.map some ++ List.replicate (nL - as.length) none = L0) (k : wd_V G d own cc nL ret Q 0 L0 [] μ) : wd_C G d y as μ Q := by
  refine ⟨cc, nL, ret, hcode, hn, fun sz => ?_⟩
  subst hown
  refine Met.ofW (cc := cc) (maxL := nL) (ret := ret) hpl rfl ?_
  intro p e s m args below meth c s₁ B hml hv
  obtain ⟨rfl, hsz, hP, hK, hD0⟩ := hv
  subst hsz
  have hts := atoms_spec (ws := wd_ws y cc nL ret) B.pre
  have hown : s.vm.findClass y.cls = some m.cls := findClass_of_methodNamed B.named
  have hl := lv_entry (as.map (wd_cv G.2.2.1)) (n := nL) (by rw [wd_sl_len]; exact hlen)
  rw [lg_entry_eq]
  refine k p e s m _ below meth c s.heap [] _ ⟨B.exec, B.bytes, hml, hown, fun w hw => hts w (List.mem_cons_of_mem _ hw), B.returns, B.notSynchronized, hK⟩ ⟨hl.1, hl.2.1, ?_⟩ hP (wd_D_A G _ hD0) va_S.rf
  rintro ⟨j, w⟩ hq
  obtain ⟨v, hv, rfl⟩ := wd_Lc_mem.mp hq
  have hj : as[j]? = some v := by
    rw [← hL, List.getElem?_append] at hv
    split at hv
    · simpa using hv
    · rw [List.getElem?_replicate] at hv
      split at hv <;> simp at hv
  have := wd_args_mem G.2.2.1 as 0 j v hj
  rw [Nat.zero_add] at this
  exact hl.2.2 _ this
end WD
