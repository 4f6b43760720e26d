/-! ===== windows taken from one place to another ===== -/
theorem isW_mod {h : Nat} (w : wd_isW h) : h % 4 = 0 ∧ 48 ≤ h ∧ h ≤ 100 := by
  simp only [wd_isW, wd_wins, List.mem_cons, List.not_mem_nil, or_false] at w
  omega
theorem isW_of {h : Nat} (h1 : h % 4 = 0) (h2 : 48 ≤ h) (h3 : h ≤ 100) : wd_isW h := by
  simp only [wd_isW, wd_wins, List.mem_cons, List.not_mem_nil, or_false]
  omega
def tkM (h0 h1 i : Nat) (s : wd_Mem) : wd_Mem := mset (mset (mset s (h0 + 1) i (s (h1 + 1) i)) (h0 + 2) i ((mset s (h0 + 1) i (s (h1 + 1) i)) (h1 + 2) i)) (h0 + 3) i ((mset (mset s (h0 + 1) i (s (h1 + 1) i)) (h0 + 2) i ((mset s (h0 + 1) i (s (h1 + 1) i)) (h1 + 2) i)) (h1 + 3) i)
theorem take_eq {μ : wd_Mem} {h0 h1 : Nat} (w0 : wd_isW h0) (w1 : wd_isW h1) (hne : h0 ≠ h1) : ∃ ν : wd_Mem, X6_take h0 h1 μ = some ν ∧ (∀ b, b < 10 → ν (h0 + 1) b = μ (h1 + 1) b ∧ ν (h0 + 2) b = μ (h1 + 2) b ∧ ν (h0 + 3) b = μ (h1 + 3) b) ∧ ∀ a, a ≠ h0 + 1 → a ≠ h0 + 2 → a ≠ h0 + 3 → ν a = μ a := by
  have m0 := isW_mod w0
  have m1 := isW_mod w1
  have key : ∃ ν : wd_Mem, ((∀ b, b < 10 → ν (h0 + 1) b = μ (h1 + 1) b ∧ ν (h0 + 2) b = μ (h1 + 2) b ∧ ν (h0 + 3) b = μ (h1 + 3) b) ∧ ∀ a, a ≠ h0 + 1 → a ≠ h0 + 2 → a ≠ h0 + 3 → ν a = μ a) ∧ X6_take_l2 (fun μ => X6_take_b50 h0 h1 μ) h0 h1 wd_big (zI (0 : Nat)) μ = some ν := by
    refine wd_for0 (fun n i s => X6_take_l2 (fun μ => X6_take_b50 h0 h1 μ) h0 h1 n (zI (i : Nat)) s) (fun s => some s) (fun i s => (∀ b, b < i → s (h0 + 1) b = μ (h1 + 1) b ∧ s (h0 + 2) b = μ (h1 + 2) b ∧ s (h0 + 3) b = μ (h1 + 3) b) ∧ ∀ a, a ≠ h0 + 1 → a ≠ h0 + 2 → a ≠ h0 + 3 → s a = μ a) 10 μ (by omega) ⟨fun b hb => by omega, fun a _ _ _ => rfl⟩ (fun i s n hi hI => ?_) (fun s n _ => ?_)
    · refine ⟨tkM h0 h1 i s, ⟨fun b hb => ?_, fun a p q r => ?_⟩, ?_⟩
      · obtain ⟨hI1, hI2⟩ := hI
        have r1 : s (h1 + 1) = μ (h1 + 1) := hI2 _ (by omega) (by omega) (by omega)
        have r2 : s (h1 + 2) = μ (h1 + 2) := hI2 _ (by omega) (by omega) (by omega)
        have r3 : s (h1 + 3) = μ (h1 + 3) := hI2 _ (by omega) (by omega) (by omega)
        unfold tkM
        by_cases hb2 : b = i
        · subst hb2
          refine ⟨?_, ?_, ?_⟩
          · rw [mset_h _ _ _ _ (by omega), mset_h _ _ _ _ (by omega), mset_eq, r1]
          · rw [mset_h _ _ _ _ (by omega), mset_eq, mset_h _ _ _ _ (by omega), r2]
          · rw [mset_eq, mset_h _ _ _ _ (by omega), mset_h _ _ _ _ (by omega), r3]
        · obtain ⟨c1, c2, c3⟩ := hI1 b (by omega)
          refine ⟨?_, ?_, ?_⟩ <;> rw [mset_j _ _ _ _ hb2, mset_j _ _ _ _ hb2, mset_j _ _ _ _ hb2]
          · exact c1
          · exact c2
          · exact c3
      · unfold tkM
        rw [mset_ne r, mset_ne q, mset_ne p]
        exact hI.2 a p q r
      · show X6_take_c2 _ _ h0 h1 s (zI i) = _
        unfold X6_take_c2
        rw [if_neg (by rw [z_10, zI_le (zR_small (by omega) (by omega)) (zR_small (by omega) (by omega))]; omega), wd_chk_in (by omega) (by omega) (by omega), zI_clN (by omega), z_1, zI_add]
        rfl
    · show X6_take_c2 _ _ h0 h1 s (zI 10) = _
      unfold X6_take_c2
      rw [if_pos (by rw [z_10]; exact Int32.le_refl _)]
      rfl
  obtain ⟨ν, k1, k2⟩ := key
  refine ⟨ν, ?_, k1.1, k1.2⟩
  unfold X6_take X6_take_b0
  rw [z_0]
  exact k2
theorem wdW_copy {μ ν : wd_Mem} {n h hm off h' hm' off' : Nat} (hn : n ≤ 5) (e : ∀ b, b < 10 → ν (h' + 1) b = μ (h + 1) b ∧ ν (h' + 2) b = μ (h + 2) b ∧ ν (h' + 3) b = μ (h + 3) b) (em : ∀ k, k < 30 → ν hm' (off' + k) = μ hm (off + k)) (w : wdW μ n h hm off) : wdW ν n h' hm' off' := by
  intro i hi
  obtain ⟨⟨x, l, a1, a2, a3, a4, b1, b2, b3, b4⟩, c1, c2, c3, c4⟩ := w i hi
  have m : ∀ j, j + i < 30 → ν hm' (off' + j + i) = μ hm (off + j + i) := fun j hj => by
    rw [Nat.add_assoc, em (j + i) hj, Nat.add_assoc]
  refine ⟨⟨x, l, a1, a2, a3, a4, ?_, ?_, ?_, ?_⟩, ?_, ?_, ?_, ?_⟩
  · rw [(e i (by omega)).1, b1]
  · rw [em i (by omega), b2]
  · rw [(e (5 + i) (by omega)).1, b3]
  · rw [m 5 (by omega), b4]
  · rw [(e i (by omega)).2.1, m 10 (by omega), c1]
  · rw [(e (5 + i) (by omega)).2.1, m 15 (by omega), c2]
  · rw [(e i (by omega)).2.2, m 20 (by omega), c3]
  · rw [(e (5 + i) (by omega)).2.2, m 25 (by omega), c4]
/-- the reference's rows of 30 -/
def cpM (dst src od os i : Nat) (s : wd_Mem) : wd_Mem := mset s dst (od + i) (s src (os + i))
theorem cp_for {R : Type} (L : Nat → Nat → wd_Mem → Option R) (K : wd_Mem → Option R) (dst src od os : Nat) (μ : wd_Mem) (hne : src ≠ dst) (hs : ∀ (i : Nat) (s : wd_Mem) (n : Nat), i < 30 → (∀ a, a ≠ dst → s a = μ a) → L (n + 1) i s = L n (i + 1) (cpM dst src od os i s)) (he : ∀ (s : wd_Mem) (n : Nat), (∀ a, a ≠ dst → s a = μ a) → L (n + 1) 30 s = K s) : ∃ ν : wd_Mem, L wd_big 0 μ = K ν ∧ (∀ k, k < 30 → ν dst (od + k) = μ src (os + k)) ∧ (∀ j, (j < od ∨ od + 30 ≤ j) → ν dst j = μ dst j) ∧ ∀ a, a ≠ dst → ν a = μ a := by
  have key : ∃ ν : wd_Mem, ((∀ k, k < 30 → ν dst (od + k) = μ src (os + k)) ∧ (∀ j, (j < od ∨ od + 30 ≤ j) → ν dst j = μ dst j) ∧ ∀ a, a ≠ dst → ν a = μ a) ∧ L wd_big 0 μ = K ν := by
    refine wd_for0 L K (fun i s => (∀ k, k < i → s dst (od + k) = μ src (os + k)) ∧ (∀ j, (j < od ∨ od + 30 ≤ j) → s dst j = μ dst j) ∧ ∀ a, a ≠ dst → s a = μ a) 30 μ (by omega) ⟨fun k hk => by omega, fun _ _ => rfl, fun _ _ => rfl⟩ (fun i s n hi hI => ⟨cpM dst src od os i s, ⟨fun k hk => ?_, fun j hj => ?_, fun a ha => ?_⟩, hs i s n hi hI.2.2⟩) (fun s n hI => he s n hI.2.2)
    · unfold cpM
      by_cases hk2 : k = i
      · subst hk2; rw [mset_eq, hI.2.2 _ hne]
      · rw [mset_j _ _ _ _ (by omega)]; exact hI.1 k (by omega)
    · unfold cpM
      rw [mset_j _ _ _ _ (by omega)]; exact hI.2.1 j hj
    · unfold cpM
      rw [mset_ne ha]; exact hI.2.2 a ha
  obtain ⟨ν, k1, k2⟩ := key
  exact ⟨ν, k2, k1.1, k1.2.1, k1.2.2⟩
