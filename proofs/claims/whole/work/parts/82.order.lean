/-! ===== the class's order of tasks is one of all tasks ===== -/
theorem perm_of : ∀ (as l : List Nat), as.Nodup → (∀ a, a ∈ as → a ∈ l) → l.length = as.length → l.Perm as
  | [], l, _, _, h => by
    have : l = [] := List.eq_nil_of_length_eq_zero h
    rw [this]
  | a :: as, l, hn, hs, h => by
    have hn' := List.nodup_cons.mp hn
    have ha : a ∈ l := hs a (List.mem_cons_self ..)
    refine (List.perm_cons_erase ha).trans (List.Perm.cons a (perm_of as (l.erase a) hn'.2 (fun x hx => ?_) ?_))
    · have hne : x ≠ a := fun q => hn'.1 (q ▸ hx)
      exact (List.mem_erase_of_ne hne).mpr (hs x (List.mem_cons_of_mem _ hx))
    · rw [List.length_erase_of_mem ha, h]
      rfl
def aheadB (E : Nat → Nat) (i k : Nat) : Bool := decide (E i < E k ∨ (E k = E i ∧ k < i))
def rkN (E : Nat → Nat) (n i : Nat) : Nat := sN (fun k => if aheadB E i k = true then 1 else 0) n
theorem rk_lt {E : Nat → Nat} {n i : Nat} (hi : i < n) : rkN E n i < n := by
  have h1 := sN_one (f := fun k => if aheadB E i k = true then 1 else 0) (g := fun k => if k = i then 1 else if aheadB E i k = true then 1 else 0) n hi (fun j _ hj => by simp only [if_neg hj])
  have h2 : (if aheadB E i i = true then 1 else 0) = 0 := by
    rw [if_neg]
    intro h
    have := of_decide_eq_true h
    omega
  have h3 := sN_le (f := fun k => if k = i then 1 else if aheadB E i k = true then 1 else 0) (g := fun _ => 1) n (fun j _ => by split <;> (try split) <;> omega)
  rw [sN_1] at h3
  simp only [h2, if_true] at h1
  unfold rkN
  omega
theorem rk_mono {E : Nat → Nat} {n i k : Nat} (hk : k < n) (h : aheadB E i k = true) : rkN E n k < rkN E n i := by
  have h0 := of_decide_eq_true h
  have h1 := sN_one (f := fun m => if aheadB E k m = true then 1 else 0) (g := fun m => if m = k then 1 else if aheadB E k m = true then 1 else 0) n hk (fun j _ hj => by simp only [if_neg hj])
  have h2 : (if aheadB E k k = true then 1 else 0) = 0 := by
    rw [if_neg]
    intro h
    have := of_decide_eq_true h
    omega
  have h3 := sN_le (f := fun m => if m = k then 1 else if aheadB E k m = true then 1 else 0) (g := fun m => if aheadB E i m = true then 1 else 0) n (fun j _ => by
    by_cases q : j = k
    · simp only [if_pos q]
      rw [q, if_pos h]
      exact Nat.le_refl _
    · simp only [if_neg q]
      by_cases q2 : aheadB E k j = true
      · have q3 := of_decide_eq_true q2
        have q4 : aheadB E i j = true := decide_eq_true (by omega)
        rw [if_pos q2, if_pos q4]
        exact Nat.le_refl _
      · rw [if_neg q2]
        exact Nat.zero_le _)
  simp only [h2, if_true] at h1
  unfold rkN
  omega
theorem rk_inj {E : Nat → Nat} {n i k : Nat} (hi : i < n) (hk : k < n) (h : rkN E n i = rkN E n k) : i = k := by
  by_cases q : i = k
  · exact q
  · exfalso
    by_cases h1 : aheadB E i k = true
    · have := rk_mono hk h1
      omega
    · have h2 : aheadB E k i = true := by
        refine decide_eq_true ?_
        have h3 : ¬ (E i < E k ∨ (E k = E i ∧ k < i)) := fun w => h1 (decide_eq_true w)
        omega
      have := rk_mono hi h2
      omega
theorem rk_sur {E : Nat → Nat} {n d : Nat} (hd : d < n) : ∃ i, i < n ∧ rkN E n i = d := by
  have hnd : ((List.range n).map (rkN E n)).Nodup := by
    refine List.pairwise_map.mpr ?_
    refine List.Pairwise.imp_of_mem ?_ (List.nodup_range (n := n))
    intro a b ha hb hne h
    exact hne (rk_inj (List.mem_range.mp ha) (List.mem_range.mp hb) h)
  have hp := perm_of ((List.range n).map (rkN E n)) (List.range n) hnd (fun a ha => by
    obtain ⟨i, hi, rfl⟩ := List.mem_map.mp ha
    exact List.mem_range.mpr (rk_lt (List.mem_range.mp hi))) (by rw [List.length_map])
  have := hp.mem_iff.mp (List.mem_range.mpr hd)
  obtain ⟨i, hi, h⟩ := List.mem_map.mp this
  exact ⟨i, List.mem_range.mp hi, h⟩
theorem ord_perm {E : Nat → Nat} {n : Nat} {o : Nat → Nat} (ho : ∀ i, i < n → o (rkN E n i) = i) : ((List.range' 0 n).map o).Perm (List.range' 0 n) := by
  rw [← List.range_eq_range']
  refine perm_of (List.range n) ((List.range n).map o) List.nodup_range (fun a ha => ?_) (by rw [List.length_map])
  have ha' := List.mem_range.mp ha
  exact List.mem_map.mpr ⟨rkN E n a, List.mem_range.mpr (rk_lt ha'), ho a ha'⟩
section
variable {n R : Nat} {e l D c : Nat → Nat}
def enN (D c : Nat → Nat) (i : Nat) : Nat := D i * c i
def ordX (ν : wd_Mem) (n : Nat) (o : Nat → Nat) : Prop := ∀ d, d < n → ν 25 d = zI (o d : Nat) ∧ o d < n
theorem orderX {ν : wd_Mem} (hb : bdS n R e l D c) (hs : schX ν n R e l D c) (h5 : ∀ i, i < n → ν 5 i = zI (c i : Nat)) : ∃ (τ : wd_Mem) (o : Nat → Nat), X2_putInOrder ν = some τ ∧ ordX τ n o ∧ ((List.range' 0 n).map o).Perm (List.range' 0 n) ∧ ∀ a, a ≠ 25 → τ a = ν a := by
  have hn := hb.1
  have en : ∀ (m : wd_Mem) (i : Nat), (∀ a, a ≠ 25 → m a = ν a) → i < n → X4_energy 3 m (zI (i : Nat)) = some (zI (enN D c i : Nat)) := by
    intro m i hf hi
    have := energyX (μ := m) (h := 3) (i := i) (d := (D i : Int)) (c := (c i : Int)) (by omega) (by show m 4 i = _; rw [hf 4 (by decide)]; exact (hs.2.2 i hi).1) (by show m 5 i = _; rw [hf 5 (by decide)]; exact h5 i hi)
    rw [this]
    unfold enN
    congr 2
  have enb : ∀ i, i < n → enN D c i ≤ 180 := by
    intro i hi
    have y := hb.2.2 i hi
    have : D i * c i ≤ 9 * 20 := Nat.mul_le_mul y.2.2.2.1 y.2.2.2.2
    unfold enN
    omega
  have inner : ∀ (m : wd_Mem) (i : Nat) (K : Int32 → Option wd_Mem), (∀ a, a ≠ 25 → m a = ν a) → i < n → X2_putInOrder_l17 K m (zI (i : Nat)) wd_big 0 0 = K (zI (rkN (enN D c) n i : Nat)) := by
    intro m i K hf hi
    have key := wd_forF (fun q k x => X2_putInOrder_l17 K m (zI (i : Nat)) q x (zI (k : Nat))) K (fun k => zI ((sN (fun k => if aheadB (enN D c) i k = true then 1 else 0) k : Nat) : Int)) n (by omega) (fun k q hk => by
      show X2_putInOrder_c17 _ _ m (zI (i : Nat)) (zI ((sN _ k : Nat) : Int)) (zI (k : Nat)) = _
      have e1 : zI (k : Int) + (1 : Int32) = zI ((k + 1 : Nat) : Int) := by rw [z_1, zI_add]; rfl
      have b1 := enb i hi
      have b2 := enb k hk
      unfold X2_putInOrder_c17
      rw [hf 3 (by decide), hs.1, if_neg (by rw [zI_le (zR_small (by omega) (by omega)) (zR_small (by omega) (by omega))]; omega), en m k hf hk]
      simp only [Option.bind_some]
      rw [en m i hf hi]
      simp only [Option.bind_some]
      unfold X2_putInOrder_b63 X2_putInOrder_b67 X2_putInOrder_b68
      rw [zI_sub, e1]
      have fin : ∀ v : Nat, (if aheadB (enN D c) i k = true then 1 else 0) = v → X2_putInOrder_l17 K m (zI (i : Nat)) q (zI ((sN (fun k => if aheadB (enN D c) i k = true then 1 else 0) k : Nat) : Int) + zI (v : Nat)) (zI ((k + 1 : Nat) : Int)) = X2_putInOrder_l17 K m (zI (i : Nat)) q (zI ((sN (fun k => if aheadB (enN D c) i k = true then 1 else 0) (k + 1) : Nat) : Int)) (zI ((k + 1 : Nat) : Int)) := by
        intro v hv
        rw [zI_add]
        simp only [sN]
        rw [hv]
        rfl
      by_cases q1 : enN D c i < enN D c k
      · rw [if_pos (by rw [z_0, zI_lt (zR_small (by omega) (by omega)) (zR_small (by omega) (by omega))]; omega)]
        exact fin 1 (if_pos (decide_eq_true (Or.inl q1)))
      · rw [if_neg (by rw [z_0, zI_lt (zR_small (by omega) (by omega)) (zR_small (by omega) (by omega))]; omega)]
        by_cases q2 : enN D c k = enN D c i
        · rw [if_pos (by rw [z_0, zI_eq (zR_small (by omega) (by omega)) (zR_small (by omega) (by omega))]; omega)]
          by_cases q3 : i ≤ k
          · rw [if_pos (by rw [zI_le (zR_small (by omega) (by omega)) (zR_small (by omega) (by omega))]; omega)]
            exact fin 0 (if_neg (fun h => by have := of_decide_eq_true h; omega))
          · rw [if_neg (by rw [zI_le (zR_small (by omega) (by omega)) (zR_small (by omega) (by omega))]; omega)]
            exact fin 1 (if_pos (decide_eq_true (Or.inr ⟨q2, by omega⟩)))
        · rw [if_neg (by rw [z_0, zI_eq (zR_small (by omega) (by omega)) (zR_small (by omega) (by omega))]; omega)]
          exact fin 0 (if_neg (fun h => by have := of_decide_eq_true h; omega))) (fun q => by
      show X2_putInOrder_c17 _ _ m (zI (i : Nat)) _ (zI (n : Nat)) = _
      unfold X2_putInOrder_c17
      rw [hf 3 (by decide), hs.1, if_pos (Int32.le_refl _)])
    rw [z_0]
    exact key
  have key : ∃ τ : wd_Mem, ((∀ j, j < n → τ 25 (rkN (enN D c) n j) = zI (j : Nat)) ∧ ∀ a, a ≠ 25 → τ a = ν a) ∧ X2_putInOrder_l2 (fun μ => X2_putInOrder_b89 μ) wd_big (zI ((0 : Nat) : Int)) ν = some τ := by
    refine wd_for0 (fun q i m => X2_putInOrder_l2 (fun μ => X2_putInOrder_b89 μ) q (zI (i : Nat)) m) (fun m => some m) (fun i τ => (∀ j, j < i → τ 25 (rkN (enN D c) n j) = zI (j : Nat)) ∧ ∀ a, a ≠ 25 → τ a = ν a) n ν (by omega) ⟨fun j hj => by omega, fun _ _ => rfl⟩ (fun i m q hi hI => ?_) (fun m q hI => ?_)
    · have hr := rk_lt (E := enN D c) hi
      refine ⟨mset m 25 (rkN (enN D c) n i) (zI (i : Nat)), ⟨fun j hj => ?_, fun a p => by rw [mset_ne p]; exact hI.2 a p⟩, ?_⟩
      · by_cases z : j = i
        · rw [z, mset_eq]
        · rw [mset_j _ _ _ _ (fun w => z (rk_inj (by omega) hi w))]
          exact hI.1 j (by omega)
      · show X2_putInOrder_c2 _ _ m (zI (i : Nat)) = _
        have e1 : zI (i : Int) + (1 : Int32) = zI ((i + 1 : Nat) : Int) := by rw [z_1, zI_add]; rfl
        unfold X2_putInOrder_c2
        rw [hI.2 3 (by decide), hs.1, if_neg (by rw [zI_le (zR_small (by omega) (by omega)) (zR_small (by omega) (by omega))]; omega), inner m i _ hI.2 hi]
        unfold X2_putInOrder_b76
        rw [wd_chk_in (by omega) (by omega) (by omega), zI_clN (by omega), e1]
    · show X2_putInOrder_c2 _ _ m (zI (n : Nat)) = _
      unfold X2_putInOrder_c2 X2_putInOrder_b89
      rw [hI.2 3 (by decide), hs.1, if_pos (Int32.le_refl _)]
  obtain ⟨τ, ⟨k1, k2⟩, k3⟩ := key
  refine ⟨τ, fun d => Int32.toNatClampNeg (τ 25 d), k3, fun d hd => ?_, ord_perm (E := enN D c) (fun i hi => ?_), k2⟩
  · obtain ⟨i, hi, rfl⟩ := rk_sur (E := enN D c) hd
    dsimp only
    rw [k1 i hi, zI_clN (by omega)]
    exact ⟨rfl, hi⟩
  · show Int32.toNatClampNeg (τ 25 _) = i
    rw [k1 i hi, zI_clN (by omega)]
end
