/-! ===== the two systems side by side: the world of the light judgement ===== -/
def wl_G (l : Launch) (D : va_G) (ad1 : Nat → Nat) (ca1 : Nat → ClassId) (ad2 : Nat → Nat) (ca2 : Nat → ClassId) : wd_G := (l, D, (fun k => if 31 ≤ k ∧ k < 48 then ad2 k else ad1 k), (fun k => if 31 ≤ k ∧ k < 48 then ca2 k else ca1 k))
def wl_tg (sh : wd_Sh) : List Nat := match sh with
  | .inl _ => []
  | .inr (.inl hs) => hs
  | .inr (.inr q) => q.2.filterMap id
theorem wl_cell_ad {ad ad' : Nat → Nat} {ca ca' : Nat → ClassId} {μ : wd_Mem} {k : Nat} (sh : wd_Sh) (hc : ca k = ca' k) (h : ∀ x ∈ wl_tg sh, ad x = ad' x) : wd_cell ad ca μ k sh = wd_cell ad' ca' μ k sh := by
  rcases sh with q | hs | q
  · simp only [wd_cell, hc]
  · have e1 : (fun i : Nat => (hs[i]?).map ad) = (fun i : Nat => (hs[i]?).map ad') := by
      funext i
      cases hi : hs[i]? with
      | none => rfl
      | some x => simp only [Option.map_some]; rw [h x (List.mem_of_getElem? hi)]
    simp only [wd_cell, hc, e1]
  · simp only [wd_cell]
    congr 2
    apply List.ext_getElem?
    intro i
    simp only [List.getElem?_mapIdx]
    cases hi : q.2[i]? with
    | none => rfl
    | some o =>
      cases o with
      | none => rfl
      | some x => simp only [Option.map_some]; rw [h x (List.mem_filterMap.mpr ⟨some x, List.mem_of_getElem? hi, rfl⟩)]
theorem wl_tx : ∀ k ∈ wd_hx, ¬ (31 ≤ k ∧ k < 48) ∧ ∀ x ∈ wl_tg (wd_shk k), ¬ (31 ≤ x ∧ x < 48) := by decide +kernel
theorem wl_tm : ∀ k ∈ wd_hm, (31 ≤ k ∧ k < 48) ∧ ∀ x ∈ wl_tg (wd_shk k), (31 ≤ x ∧ x < 48) := by decide +kernel
theorem wl_len : wd_sh.length = 104 := by decide +kernel
theorem wl_cov : ∀ k, k < 104 → k ∈ wd_hx ∨ k ∈ wd_hm := by decide +kernel
theorem wl_Wl_get {hl : List Nat} {ad : Nat → Nat} {ca : Nat → ClassId} {μ : wd_Mem} {k : Nat} (h : k ∈ hl) : ∃ j : Nat, hl[j]? = some k ∧ (wd_Wl hl ad ca μ)[j]? = some (ad k, wd_cell ad ca μ k (wd_shk k)) := by
  obtain ⟨j, hj⟩ := List.getElem?_of_mem h
  exact ⟨j, hj, by simp [wd_Wl, List.getElem?_map, hj]⟩
theorem wl_app_l {D : va_G} {w1 w2 : va_W} {H : Heap} (h : va_P D vwCl (w1 ++ w2) H) : va_P D vwCl w1 H := fun k q hk => h k q (by rw [List.getElem?_append_left (List.getElem?_eq_some_iff.mp hk).1]; exact hk)
theorem wl_app_r {D : va_G} {w1 w2 : va_W} {H : Heap} (h : va_P D vwCl (w1 ++ w2) H) : va_P D vwCl w2 H := fun k q hk => h (w1.length + k) q (by rw [List.getElem?_append_right (by omega), Nat.add_sub_cancel_left]; exact hk)
theorem wl_appD_l {A : Nat → Prop} {w1 w2 : va_W} (h : va_D A (w1 ++ w2)) : va_D A w1 := ⟨fun i j p q hp hq e => h.1 i j p q (by rw [List.getElem?_append_left (List.getElem?_eq_some_iff.mp hp).1]; exact hp) (by rw [List.getElem?_append_left (List.getElem?_eq_some_iff.mp hq).1]; exact hq) e, fun k q hk => h.2 k q (by rw [List.getElem?_append_left (List.getElem?_eq_some_iff.mp hk).1]; exact hk)⟩
theorem wl_appD_r {A : Nat → Prop} {w1 w2 : va_W} (h : va_D A (w1 ++ w2)) : va_D A w2 := ⟨fun i j p q hp hq e => by
  have := h.1 (w1.length + i) (w1.length + j) p q (by rw [List.getElem?_append_right (by omega), Nat.add_sub_cancel_left]; exact hp) (by rw [List.getElem?_append_right (by omega), Nat.add_sub_cancel_left]; exact hq) e
  omega, fun k q hk => h.2 (w1.length + k) q (by rw [List.getElem?_append_right (by omega), Nat.add_sub_cancel_left]; exact hk)⟩
theorem wl_app_ne {A : Nat → Prop} {D : va_G} {w1 : va_W} {x : Nat × va_E} {H : Heap} (hP : va_P D vwCl (w1 ++ [x]) H) (h : va_D A (w1 ++ [x])) : ∀ (j : Nat) (q : Nat × va_E), w1[j]? = some q → q.1 < H.size ∧ ¬ va_A [x] H.size q.1 := by
  intro j q hq
  have hj := (List.getElem?_eq_some_iff.mp hq).1
  have h1 : (w1 ++ [x])[j]? = some q := by rw [List.getElem?_append_left hj]; exact hq
  have hlt := (hP j q h1).lt
  refine ⟨hlt, fun hA => ?_⟩
  rcases hA with ⟨k, e, hk⟩ | hA
  · have hk0 : k = 0 := by
      have := (List.getElem?_eq_some_iff.mp hk).1
      simp at this
      exact this
    subst hk0
    have h2 : (w1 ++ [x])[w1.length]? = some x := by rw [List.getElem?_append_right (Nat.le_refl _), Nat.sub_self]; rfl
    have hx : x = (q.1, e) := by simpa using hk
    have := h.1 j w1.length q x h1 h2 (by rw [hx])
    omega
  · omega
theorem wl_both {D : va_G} {l : Launch} {s : State} {H H1 : Heap} {x : Nat × va_E} {ad1 ad2 : Nat → Nat} {ca1 ca2 : Nat → ClassId} {μ : wd_Mem} (hP : va_P D vwCl (wd_Wl wd_hx ad1 ca1 μ) H) (hD : va_D (fun q : Nat => s.heap.size ≤ q) (wd_Wl wd_hx ad1 ca1 μ)) (hK1 : wd_Kl wd_hx D ca1 s) (hk1 : ∀ q : Nat, q < H.size → ¬ va_A [x] H.size q → H1[q]? = H[q]?) (hap : ∀ (j : Nat) (q : Nat × va_E), (wd_Wl wd_hx ad1 ca1 μ)[j]? = some q → q.1 < H.size ∧ ¬ va_A [x] H.size q.1)
    (hP2 : va_P D vwCl (wd_Wl wd_hm ad2 ca2 μ) H1) (hD2 : va_D (va_A [x] H.size) (wd_Wl wd_hm ad2 ca2 μ)) (hK2 : wd_Kl wd_hm D ca2 s) (hFc : ∀ q, va_A [x] H.size q → s.heap.size ≤ q) :
    va_P D vwCl (wd_W (wl_G l D ad1 ca1 ad2 ca2) μ) H1 ∧ va_D (fun q : Nat => s.heap.size ≤ q) (wd_W (wl_G l D ad1 ca1 ad2 ca2) μ) ∧ (∀ (k : Nat) (q : FieldType × Nat), wd_sh[k]? = some (.inl q) → va_K D vwCl [((wl_G l D ad1 ca1 ad2 ca2).2.2.2 k, q.1)] s) ∧ (∀ (k : Nat) (hs : List Nat), wd_sh[k]? = some (.inr (.inl hs)) → va_K D vwCl [((wl_G l D ad1 ca1 ad2 ca2).2.2.2 k, .object "WindowDesk$Windows")] s) := by
  have fx : ∀ k ∈ wd_hx, (wl_G l D ad1 ca1 ad2 ca2).2.2.1 k = ad1 k ∧ (wl_G l D ad1 ca1 ad2 ca2).2.2.2 k = ca1 k := fun k hk => ⟨if_neg (wl_tx k hk).1, if_neg (wl_tx k hk).1⟩
  have fm : ∀ k ∈ wd_hm, (wl_G l D ad1 ca1 ad2 ca2).2.2.1 k = ad2 k ∧ (wl_G l D ad1 ca1 ad2 ca2).2.2.2 k = ca2 k := fun k hk => ⟨if_pos (wl_tm k hk).1, if_pos (wl_tm k hk).1⟩
  have cx : ∀ k ∈ wd_hx, wd_cell (wl_G l D ad1 ca1 ad2 ca2).2.2.1 (wl_G l D ad1 ca1 ad2 ca2).2.2.2 μ k (wd_shk k) = wd_cell ad1 ca1 μ k (wd_shk k) := fun k hk => wl_cell_ad _ (fx k hk).2 (fun x hx => if_neg ((wl_tx k hk).2 x hx))
  have cm : ∀ k ∈ wd_hm, wd_cell (wl_G l D ad1 ca1 ad2 ca2).2.2.1 (wl_G l D ad1 ca1 ad2 ca2).2.2.2 μ k (wd_shk k) = wd_cell ad2 ca2 μ k (wd_shk k) := fun k hk => wl_cell_ad _ (fm k hk).2 (fun x hx => if_pos ((wl_tm k hk).2 x hx))
  have key : ∀ (k : Nat) (q : Nat × va_E), (wd_W (wl_G l D ad1 ca1 ad2 ca2) μ)[k]? = some q → k < 104 ∧ q = ((wl_G l D ad1 ca1 ad2 ca2).2.2.1 k, wd_cell (wl_G l D ad1 ca1 ad2 ca2).2.2.1 (wl_G l D ad1 ca1 ad2 ca2).2.2.2 μ k (wd_shk k)) := by
    intro k q hq
    have hk := (wd_W_ad _ μ hq).1
    have h2 := wd_W_get (wl_G l D ad1 ca1 ad2 ca2) μ (List.getElem?_eq_getElem hk)
    rw [hq] at h2
    have h3 : wd_shk k = wd_sh[k] := by simp [wd_shk, List.getElem?_eq_getElem hk]
    exact ⟨by rw [← wl_len]; exact hk, by rw [h3]; exact Option.some.inj h2⟩
  have okx : ∀ k ∈ wd_hx, ad1 k < H.size ∧ ¬ va_A [x] H.size (ad1 k) := fun k hk => by
    obtain ⟨j, -, h2⟩ := wl_Wl_get (ad := ad1) (ca := ca1) (μ := μ) hk
    exact hap j _ h2
  have okm : ∀ k ∈ wd_hm, va_A [x] H.size (ad2 k) := fun k hk => by
    obtain ⟨j, -, h2⟩ := wl_Wl_get (ad := ad2) (ca := ca2) (μ := μ) hk
    exact hD2.2 j _ h2
  refine ⟨fun k q hq => ?_, ⟨fun i j p q hp hq e => ?_, fun k q hq => ?_⟩, fun k q hs => ?_, fun k q hs => ?_⟩
  · obtain ⟨hk, rfl⟩ := key k q hq
    rcases wl_cov k hk with h | h
    · rw [(fx k h).1, cx k h]
      obtain ⟨j, -, h2⟩ := wl_Wl_get (ad := ad1) (ca := ca1) (μ := μ) h
      exact (hP j _ h2).kept (hk1 _ (okx k h).1 (okx k h).2)
    · rw [(fm k h).1, cm k h]
      obtain ⟨j, -, h2⟩ := wl_Wl_get (ad := ad2) (ca := ca2) (μ := μ) h
      exact hP2 j _ h2
  · obtain ⟨hi, rfl⟩ := key i p hp
    obtain ⟨hj, rfl⟩ := key j q hq
    simp only at e
    rcases wl_cov i hi with h | h <;> rcases wl_cov j hj with h' | h'
    · rw [(fx i h).1, (fx j h').1] at e
      obtain ⟨a, a1, a2⟩ := wl_Wl_get (ad := ad1) (ca := ca1) (μ := μ) h
      obtain ⟨b, b1, b2⟩ := wl_Wl_get (ad := ad1) (ca := ca1) (μ := μ) h'
      have := hD.1 a b _ _ a2 b2 e
      subst this
      exact Option.some.inj (a1.symm.trans b1)
    · rw [(fx i h).1, (fm j h').1] at e
      exact absurd (e ▸ okm j h') (okx i h).2
    · rw [(fm i h).1, (fx j h').1] at e
      exact absurd (e ▸ okm i h) (okx j h').2
    · rw [(fm i h).1, (fm j h').1] at e
      obtain ⟨a, a1, a2⟩ := wl_Wl_get (ad := ad2) (ca := ca2) (μ := μ) h
      obtain ⟨b, b1, b2⟩ := wl_Wl_get (ad := ad2) (ca := ca2) (μ := μ) h'
      have := hD2.1 a b _ _ a2 b2 e
      subst this
      exact Option.some.inj (a1.symm.trans b1)
  · obtain ⟨hk, rfl⟩ := key k q hq
    rcases wl_cov k hk with h | h
    · show s.heap.size ≤ _
      rw [(fx k h).1]
      obtain ⟨j, -, h2⟩ := wl_Wl_get (ad := ad1) (ca := ca1) (μ := μ) h
      have h5 := hD.2 j _ h2
      exact h5
    · show s.heap.size ≤ _
      rw [(fm k h).1]
      exact hFc _ (okm k h)
  · have hk : k < 104 := by rw [← wl_len]; exact (List.getElem?_eq_some_iff.mp hs).1
    have h3 : wd_shk k = .inl q := by simp [wd_shk, hs]
    rcases wl_cov k hk with h | h
    · have := hK1 k h
      rw [h3] at this
      rw [(fx k h).2]
      exact this
    · have := hK2 k h
      rw [h3] at this
      rw [(fm k h).2]
      exact this
  · have hk : k < 104 := by rw [← wl_len]; exact (List.getElem?_eq_some_iff.mp hs).1
    have h3 : wd_shk k = .inr (.inl q) := by simp [wd_shk, hs]
    rcases wl_cov k hk with h | h
    · have := hK1 k h
      rw [h3] at this
      rw [(fx k h).2]
      exact this
    · have := hK2 k h
      rw [h3] at this
      rw [(fm k h).2]
      exact this
