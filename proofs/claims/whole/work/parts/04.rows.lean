/-! ===== the light judgement: a method of the system over a memory of ints at fixed handles ===== -/
abbrev wd_AV : Type := Int32 ⊕ Nat
abbrev wd_Mem : Type := Nat → Nat → Int32
abbrev wd_Sh : Type := (FieldType × Nat) ⊕ (List Nat ⊕ (Nat × List (Option Nat)))
abbrev wd_G : Type := Launch × va_G × (Nat → Nat) × (Nat → ClassId)
def mset (μ : wd_Mem) (k j : Nat) (x : Int32) : wd_Mem := fun a b => if a = k ∧ b = j then x else μ a b
def wd_cv (ad : Nat → Nat) (v : wd_AV) : Value := match v with
  | .inl x => .int x
  | .inr k => .ref (ad k)
/-- the shape of the system: a row a handle; a row of numbers (type, length), of references, an object (class, fields: none is a number) -/
def wd_win (h : Nat) : List wd_Sh := [.inr (.inr (6, [some (h + 1), some (h + 2), some (h + 3)])), .inl (.int, 10), .inl (.int, 10), .inl (.int, 10)]
def wd_sh : List wd_Sh := [
  .inr (.inr (7, [some 1, some 3, some 6, some 48, some 52, some 29, some 30, some 27, some 9, some 18, some 21])),
  .inr (.inr (5, [some 2, none, none, none, none, none])), .inl (.int, 100),
  .inr (.inr (4, [none, none, some 4, some 5])), .inl (.int, 5), .inl (.int, 5),
  .inr (.inr (4, [none, none, some 7, some 8])), .inl (.int, 5), .inl (.int, 5),
  .inr (.inr (3, [some 3, some 10, some 11, some 12, some 13, some 14, some 15, some 16, some 17])),
  .inl (.int, 5), .inl (.int, 5), .inl (.int, 5), .inl (.int, 5), .inl (.int, 32), .inl (.int, 32), .inl (.int, 32), .inl (.int, 32),
  .inr (.inr (1, [some 3, some 9, some 19, some 20])), .inl (.int, 5), .inl (.int, 5),
  .inr (.inr (2, [some 3, some 22, some 23, some 24, some 25, some 26, none])), .inl (.int, 5), .inl (.int, 5), .inl (.int, 5), .inl (.int, 5), .inl (.int, 16),
  .inr (.inr (0, [some 28, none, none])), .inr (.inl [64, 68, 72, 76, 80, 84, 88, 92, 96, 100]),
  .inr (.inl [56, 60]), .inl (.boolean, 2),
  .inr (.inr (8, [none, none, some 32, some 33, some 34, none, none, some 35, some 36, some 37, none, some 38, none, none, none, none, none, none, none, some 39, some 40, some 41, some 42, some 43, some 44, some 45, some 46, some 47])),
  .inl (.int, 5), .inl (.int, 5), .inl (.int, 30), .inl (.int, 300), .inl (.boolean, 2), .inl (.int, 60), .inl (.int, 100), .inl (.int, 20),
  .inl (.int, 5), .inl (.int, 5), .inl (.int, 5), .inl (.int, 5), .inl (.int, 30), .inl (.int, 5), .inl (.int, 16), .inl (.int, 5)]
  ++ (wd_win 48 ++ (wd_win 52 ++ (wd_win 56 ++ (wd_win 60 ++ (wd_win 64 ++ (wd_win 68 ++ (wd_win 72 ++ (wd_win 76 ++ (wd_win 80 ++ (wd_win 84 ++ (wd_win 88 ++ (wd_win 92 ++ (wd_win 96 ++ wd_win 100)))))))))))))
def wd_cell (ad : Nat → Nat) (ca : Nat → ClassId) (μ : wd_Mem) (k : Nat) (sh : wd_Sh) : va_E := match sh with
  | .inl q => .inl (ca k, q.2, .inl (μ k))
  | .inr (.inl hs) => .inl (ca k, hs.length, .inr (.inr (.inr (.inr (fun i => (hs[i]?).map ad)))))
  | .inr (.inr q) => .inr (q.1, q.2.mapIdx (fun j o => match o with
    | none => Value.int (μ k j)
    | some h => Value.ref (ad h)))
def wd_W (G : wd_G) (μ : wd_Mem) : va_W := wd_sh.mapIdx (fun k sh => (G.2.2.1 k, wd_cell G.2.2.1 G.2.2.2 μ k sh))
theorem wd_W_get (G : wd_G) (μ : wd_Mem) {k : Nat} {sh : wd_Sh} (h : wd_sh[k]? = some sh) : (wd_W G μ)[k]? = some (G.2.2.1 k, wd_cell G.2.2.1 G.2.2.2 μ k sh) := by
  simp [wd_W, List.getElem?_mapIdx, h]
theorem wd_cell_congr {ad : Nat → Nat} {ca : Nat → ClassId} {μ ν : wd_Mem} {k : Nat} (h : μ k = ν k) (sh : wd_Sh) : wd_cell ad ca μ k sh = wd_cell ad ca ν k sh := by
  rcases sh with q | hs | q
  · simp [wd_cell, h]
  · simp [wd_cell]
  · simp [wd_cell, h]
theorem wd_W_set (G : wd_G) {μ ν : wd_Mem} {k : Nat} {sh : wd_Sh} (h : wd_sh[k]? = some sh) (hk : ∀ a, a ≠ k → ν a = μ a) : (wd_W G μ).set k (G.2.2.1 k, wd_cell G.2.2.1 G.2.2.2 ν k sh) = wd_W G ν := by
  apply List.ext_getElem?
  intro i
  rw [List.getElem?_set]
  by_cases hi : k = i
  · subst hi
    rw [if_pos rfl, wd_W_get G ν h, if_pos]
    simp only [wd_W, List.length_mapIdx]
    exact (List.getElem?_eq_some_iff.mp h).1
  · rw [if_neg hi]
    simp only [wd_W, List.getElem?_mapIdx]
    cases hs : wd_sh[i]? with
    | none => rfl
    | some sh2 => simp only [Option.map_some]; rw [wd_cell_congr (hk i (fun e => hi e.symm)) sh2]
theorem wd_W_ad (G : wd_G) (μ : wd_Mem) {k : Nat} {q : Nat × va_E} (h : (wd_W G μ)[k]? = some q) : k < wd_sh.length ∧ q.1 = G.2.2.1 k := by
  simp only [wd_W, List.getElem?_mapIdx] at h
  cases hs : wd_sh[k]? with
  | none => rw [hs] at h; cases h
  | some sh =>
    rw [hs] at h
    simp only [Option.map_some, Option.some.injEq] at h
    exact ⟨(List.getElem?_eq_some_iff.mp hs).1, by rw [← h]⟩
theorem wd_W_has (G : wd_G) (ν : wd_Mem) {k : Nat} (h : k < wd_sh.length) : ∃ q : Nat × va_E, (wd_W G ν)[k]? = some q ∧ q.1 = G.2.2.1 k := ⟨_, wd_W_get G ν (List.getElem?_eq_getElem h), rfl⟩
theorem wd_D_any (G : wd_G) {μ ν : wd_Mem} {A B : Nat → Prop} (h : va_D A (wd_W G μ)) (hB : ∀ k, k < wd_sh.length → B (G.2.2.1 k)) : va_D B (wd_W G ν) := by
  refine ⟨fun i j p q hp hq e => ?_, fun k q hk => ?_⟩
  · obtain ⟨h1, e1⟩ := wd_W_ad G ν hp
    obtain ⟨h2, e2⟩ := wd_W_ad G ν hq
    obtain ⟨p', hp', e1'⟩ := wd_W_has G μ h1
    obtain ⟨q', hq', e2'⟩ := wd_W_has G μ h2
    exact h.1 i j p' q' hp' hq' (by rw [e1', e2', ← e1, ← e2, e])
  · obtain ⟨h1, e1⟩ := wd_W_ad G ν hk
    rw [e1]
    exact hB k h1
def wd_tab : List Cond := lw_tbl.filter goodWord
theorem wd_tab_in {w : Cond} (h : w ∈ tables_1) (hg : goodWord w = true) : w ∈ wd_tab := List.mem_filter.mpr ⟨List.mem_append_right _ h, hg⟩
theorem wd_tab_sel {i : Nat} {q : MethodName × Nat} (h : lw_privs[i]? = some q) : Cond.selects q.1.cls q.1 q.1 ∈ wd_tab := List.mem_filter.mpr ⟨List.mem_append_left _ (List.mem_map.mpr ⟨q, List.mem_of_getElem? h, rfl⟩), rfl⟩
def wd_ws (y : MethodName) (bytes : ByteArray) (n : Nat) (ret : Option FieldType) : List Cond := Cond.code y bytes n ret :: wd_tab
theorem wd_good {y y2 : MethodName} {b b2 : ByteArray} {n n2 : Nat} {r r2 : Option FieldType} (h : Cond.code y2 b2 n2 r2 ∈ wd_tab) : GoodIn (wd_ws y b n r) (wd_ws y2 b2 n2 r2) := by
  intro w hw
  have h1 : w ∈ wd_tab := by
    rcases List.mem_cons.mp hw with e | e
    · rw [e]; exact h
    · exact e
  exact ⟨List.mem_cons_of_mem _ h1, good_of_word (List.mem_filter.mp h1).2⟩
theorem wd_goodT {y2 : MethodName} {b2 : ByteArray} {n2 : Nat} {r2 : Option FieldType} (h : Cond.code y2 b2 n2 r2 ∈ wd_tab) : GoodIn wd_tab (wd_ws y2 b2 n2 r2) := by
  intro w hw
  have h1 : w ∈ wd_tab := by
    rcases List.mem_cons.mp hw with e | e
    · rw [e]; exact h
    · exact e
  exact ⟨h1, good_of_word (List.mem_filter.mp h1).2⟩
def wd_nest : Cond := .methodLinkNest "WindowDesk$Search" 100 yX7_power "WindowDesk"
def wd_KK (G : wd_G) (U : State) : Prop := va_K G.2.1 vwCl [] U ∧ (∀ (k : Nat) (q : FieldType × Nat), wd_sh[k]? = some (.inl q) → va_K G.2.1 vwCl [(G.2.2.2 k, q.1)] U) ∧ (∀ (k : Nat) (hs : List Nat), wd_sh[k]? = some (.inr (.inl hs)) → va_K G.2.1 vwCl [(G.2.2.2 k, .object "WindowDesk$Windows")] U) ∧ va_Nw wd_nest U
theorem wd_KK.warm {G : wd_G} {s U : State} (hW : s.WarmedH U.vm) (h : wd_KK G s) : wd_KK G U := ⟨va_K.moved hW.alike h.1, fun k q hk => va_K.moved hW.alike (h.2.1 k q hk), fun k hs hk => va_K.moved hW.alike (h.2.2.1 k hs hk), va_Nw.warmM hW h.2.2.2⟩
theorem wd_KK.same {G : wd_G} {s U : State} (hV : s.vm = U.vm) (h : wd_KK G s) : wd_KK G U := by
  have ha : s.vm.Alike U.vm := by rw [hV]; exact Vm.Alike.refl U.vm
  exact ⟨va_K.moved ha h.1, fun k q hk => va_K.moved ha (h.2.1 k q hk), fun k hs hk => va_K.moved ha (h.2.2.1 k hs hk), va_Nw.same rfl hV h.2.2.2⟩
def wd_room (d : Nat) : Room := { frames := d, cells := 0, slots := 0, locals := 40 * d }
def wd_A (G : wd_G) (sz : Nat) : Nat → Prop := fun q => (∃ k, k < wd_sh.length ∧ q = G.2.2.1 k) ∨ sz ≤ q
theorem wd_D_A (G : wd_G) {μ ν : wd_Mem} {A : Nat → Prop} (sz : Nat) (h : va_D A (wd_W G μ)) : va_D (wd_A G sz) (wd_W G ν) := wd_D_any G h (fun k hk => Or.inl ⟨k, hk, rfl⟩)
def wd_Post (G : wd_G) (Q : Option wd_AV → wd_Mem → Prop) (sz : Nat) : Array Value → State → Outcome → State → Prop := fun _ st oc t => (∃ (r : Option wd_AV) (u : wd_Mem), oc = .returned (r.map (wd_cv G.2.2.1)) ∧ Q r u ∧ va_P G.2.1 vwCl (wd_W G u) t.heap) ∧ va_F (wd_A G sz) st t
def wd_Pre (G : wd_G) (as : List wd_AV) (μ : wd_Mem) (sz : Nat) : Array Value → State → Prop := va_Pc (as.map (wd_cv G.2.2.1)) (fun U => U.heap.size = sz ∧ va_P G.2.1 vwCl (wd_W G μ) U.heap ∧ wd_KK G U ∧ va_D (fun _ => True) (wd_W G μ))
/-- a method's contract: from the memory μ, called with as, it comes to an answer and a memory of which Q holds -/
def wd_C (G : wd_G) (d : Nat) (y : MethodName) (as : List wd_AV) (μ : wd_Mem) (Q : Option wd_AV → wd_Mem → Prop) : Prop := ∃ (bytes : ByteArray) (n : Nat) (ret : Option FieldType), Cond.code y bytes n ret ∈ wd_tab ∧ n ≤ 20 ∧ ∀ sz : Nat, Met G.1 y (wd_ws y bytes n ret) (wd_room d) (wd_Pre G as μ sz) (wd_Post G Q sz) 0 0 (wd_A G sz)
def wd_Lc (ad : Nat → Nat) (L : List (Option wd_AV)) : List (Nat × Value) := (List.range L.length).filterMap (fun j => ((L[j]?).bind id).map (fun v => (j, wd_cv ad v)))
theorem wd_Lc_mem {ad : Nat → Nat} {L : List (Option wd_AV)} {j : Nat} {w : Value} : (j, w) ∈ wd_Lc ad L ↔ ∃ v, L[j]? = some (some v) ∧ w = wd_cv ad v := by
  constructor
  · intro h
    obtain ⟨i, -, hi⟩ := List.mem_filterMap.mp h
    cases hL : L[i]? with
    | none => rw [hL] at hi; simp at hi
    | some o =>
      cases o with
      | none => rw [hL] at hi; simp at hi
      | some v =>
        rw [hL] at hi
        simp only [Option.bind_some, id_eq, Option.map_some, Option.some.injEq, Prod.mk.injEq] at hi
        obtain ⟨rfl, rfl⟩ := hi
        exact ⟨v, hL, rfl⟩
  · rintro ⟨v, h, rfl⟩
    exact List.mem_filterMap.mpr ⟨j, List.mem_range.mpr (List.getElem?_eq_some_iff.mp h).1, by rw [h]; rfl⟩
theorem wd_cv_cat (ad : Nat → Nat) (v : wd_AV) : (wd_cv ad v).category = 1 := by
  cases v <;> rfl
theorem wd_Lc_at {ad : Nat → Nat} {ls : Array Slot} {nL : Nat} {L : List (Option wd_AV)} (hl : lv_has ls nL (wd_Lc ad L)) {i : Nat} {v : wd_AV} (h : L[i]? = some (some v)) : ls[i]? = some (.val (wd_cv ad v)) := hl.2.2 (i, wd_cv ad v) (wd_Lc_mem.mpr ⟨v, h, rfl⟩)
theorem wd_Lc_put {ad : Nat → Nat} {ls : Array Slot} {nL i : Nat} {L L' : List (Option wd_AV)} {v : wd_AV} (hL : L.set i (some v) = L') (hl : lv_has ls nL ((i, wd_cv ad v) :: (wd_Lc ad L).filter (fun q => !(q.1 == i) && !(q.1 + 1 == i && q.2.category == 2)))) : lv_has ls nL (wd_Lc ad L') := by
  subst hL
  refine ⟨hl.1, hl.2.1, ?_⟩
  rintro ⟨j, w⟩ hq
  obtain ⟨u, hu, rfl⟩ := wd_Lc_mem.mp hq
  rw [List.getElem?_set] at hu
  by_cases hij : i = j
  · subst hij
    rw [if_pos rfl] at hu
    split at hu
    · simp only [Option.some.injEq] at hu
      subst hu
      exact hl.2.2 _ List.mem_cons_self
    · cases hu
  · rw [if_neg hij] at hu
    refine hl.2.2 _ (List.mem_cons_of_mem _ (List.mem_filter.mpr ⟨wd_Lc_mem.mpr ⟨u, hu, rfl⟩, ?_⟩))
    simp [wd_cv_cat, Ne.symm hij]
theorem wd_Lc_less {ad : Nat → Nat} {ls : Array Slot} {nL : Nat} {L L' : List (Option wd_AV)} (h : ∀ (i : Nat) (v : wd_AV), L'[i]? = some (some v) → L[i]? = some (some v)) (hl : lv_has ls nL (wd_Lc ad L)) : lv_has ls nL (wd_Lc ad L') := by
  refine ⟨hl.1, hl.2.1, ?_⟩
  rintro ⟨j, w⟩ hq
  obtain ⟨u, hu, rfl⟩ := wd_Lc_mem.mp hq
  exact wd_Lc_at hl (h j u hu)
/-- what a method's walk may use at every place -/
def wd_X (G : wd_G) (own : String) (cc : ByteArray) (nL : Nat) (ret : Option FieldType) (p : Program) (s : State) (m : MethodId) (args : Array Value) (meth : Method) (c : Code) : Prop :=
  p.tables.exec = Jvm.exec ∧ c.code = cc ∧ c.maxLocals = nL ∧ s.vm.findClass own = some m.cls ∧ (∀ w ∈ wd_tab, w.before args s = true) ∧ meth.sig.returnType = ret ∧ meth.locks = false ∧ wd_KK G s
def wd_V (G : wd_G) (d : Nat) (own : String) (cc : ByteArray) (nL : Nat) (ret : Option FieldType) (Q : Option wd_AV → wd_Mem → Prop) (pc : Nat) (L : List (Option wd_AV)) (S : List wd_AV) (μ : wd_Mem) : Prop :=
  ∀ (p : Program) (e : Env) (s : State) (m : MethodId) (args : Array Value) (below : List Frame) (meth : Method) (c : Code) (H : Heap) (locs : List Loc) (ls : Array Slot),
    wd_X G own cc nL ret p s m args meth c → lv_has ls nL (wd_Lc G.2.2.1 L) → va_P G.2.1 vwCl (wd_W G μ) H → va_D (wd_A G s.heap.size) (wd_W G μ) → va_S (wd_A G s.heap.size) s.heap H locs →
    W p G.1 e (wd_room d) s m args below meth c H locs 0 0 (MQ below (wd_Post G Q s.heap.size) args s 0 0 (wd_A G s.heap.size)) (F0 m pc ls (S.map (wd_cv G.2.2.1)))
