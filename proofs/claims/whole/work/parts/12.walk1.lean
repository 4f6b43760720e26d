set_option maxRecDepth 100000 in
set_option maxHeartbeats 4000000 in
theorem t_X1_byEdge_b54 (G : wd_G) (d : Nat) (hd : 2 ≤ d) {out : wd_Mem} (rec : Int32 → wd_Mem → Option (wd_Mem)) (k : wd_Mem → Option (wd_Mem)) (μ : wd_Mem) (x1 x2 : Int32) (hrec : ∀ (x2 : Int32) (μ : wd_Mem), rec x2 μ = some out → wd_V G (d + 1) RX1 cX1_byEdge 4 none (fun r u => r = none ∧ u = out) 2 [some (.inr 18), some (.inl x1), some (.inl x2), none] [] μ) (hk : ∀  (μ : wd_Mem), k μ = some out → wd_V G (d + 1) RX1 cX1_byEdge 4 none (fun r u => r = none ∧ u = out) 60 [some (.inr 18), none, none, none] [] μ) (h : X1_byEdge_b54 rec k μ x1 x2 = some out) : wd_V G (d + 1) RX1 cX1_byEdge 4 none (fun r u => r = none ∧ u = out) 54 [some (.inr 18), some (.inl x1), some (.inl x2), none] [] μ := by
  unfold X1_byEdge_b54 at h
  refine wv_inc (pc' := 57) (x := x2) (L' := [some (.inr 18), some (.inl x1), some (.inl (x2 + (1 : Int32))), none]) dX1_byEdge_54 ic_1 rfl (by decide) rfl rfl ?_
  refine wv_goto (pc' := 2) dX1_byEdge_57 (by decide) ?_
  exact hrec _ _ h
set_option maxRecDepth 100000 in
set_option maxHeartbeats 4000000 in
theorem t_X1_byEdge_c34 (G : wd_G) (d : Nat) (hd : 2 ≤ d) {out : wd_Mem} (rec : Int32 → wd_Mem → Option (wd_Mem)) (k : wd_Mem → Option (wd_Mem)) (μ : wd_Mem) (x1 x2 x3 : Int32) (hrec : ∀ (x3 : Int32) (μ : wd_Mem), rec x3 μ = some out → wd_V G (d + 1) RX1 cX1_byEdge 4 none (fun r u => r = none ∧ u = out) 34 [some (.inr 18), some (.inl x1), some (.inl x2), some (.inl x3)] [] μ) (hk : ∀  (μ : wd_Mem), k μ = some out → wd_V G (d + 1) RX1 cX1_byEdge 4 none (fun r u => r = none ∧ u = out) 54 [some (.inr 18), some (.inl x1), some (.inl x2), none] [] μ) (h : X1_byEdge_c34 rec k μ x1 x2 x3 = some out) : wd_V G (d + 1) RX1 cX1_byEdge 4 none (fun r u => r = none ∧ u = out) 34 [some (.inr 18), some (.inl x1), some (.inl x2), some (.inl x3)] [] μ := by
  unfold X1_byEdge_c34 at h
  refine wv_iload_n (pc' := 35) (i := 3) (v := x3) dX1_byEdge_34 rfl rfl rfl ?_
  refine wv_if_le (pc' := 38) (tgt := 54) dX1_byEdge_35 (by decide) rfl (fun c5 => ?_) (fun c5 => ?_)
  · have h := (if_pos c5).symm.trans h
    refine wv_weak (L' := [some (.inr 18), some (.inl x1), some (.inl x2), none]) ⟨rfl, rfl, rfl, trivial⟩ ?_
    exact hk _ h
  · have h := (if_neg c5).symm.trans h
    refine wv_aload_n (pc' := 39) (i := 0) (v := 18) dX1_byEdge_38 rfl rfl rfl ?_
    refine wv_iload_n (pc' := 40) (i := 1) (v := x1) dX1_byEdge_39 rfl rfl rfl ?_
    refine wv_iload_n (pc' := 41) (i := 3) (v := x3) dX1_byEdge_40 rfl rfl rfl ?_
    refine wv_iload_n (pc' := 42) (i := 2) (v := x2) dX1_byEdge_41 rfl rfl rfl ?_
    obtain ⟨r6, er6, h⟩ := wd_bind_some h
    refine wv_callVv (pc' := 45) (ν := r6) [.inl x1, .inl x3, .inl x2] ml_X1_104 rc_18 rfl (Nat.le_of_ble_eq_true rfl) dX1_byEdge_42 rfl (c_X1_tellRest G d (Nat.le_trans (Nat.le_of_ble_eq_true rfl) hd)  er6) ?_
    refine wv_iload_n (pc' := 46) (i := 3) (v := x3) dX1_byEdge_45 rfl rfl rfl ?_
    refine wv_iconst (pc' := 47) dX1_byEdge_46 ic_1 rfl ?_
    refine wv_isub (pc' := 48) dX1_byEdge_47 rfl ?_
    refine wv_iload_n (pc' := 49) (i := 2) (v := x2) dX1_byEdge_48 rfl rfl rfl ?_
    refine wv_iand (pc' := 50) dX1_byEdge_49 rfl ?_
    refine wv_istore_n (pc' := 51) (i := 3) (L' := [some (.inr 18), some (.inl x1), some (.inl x2), some (.inl ((x3 - (1 : Int32)) &&& x2))]) dX1_byEdge_50 rfl (by decide) rfl rfl ?_
    refine wv_goto (pc' := 34) dX1_byEdge_51 (by decide) ?_
    exact hrec _ _ h
set_option maxRecDepth 100000 in
set_option maxHeartbeats 4000000 in
theorem t_X1_byEdge_l34 (G : wd_G) (d : Nat) (hd : 2 ≤ d) {out : wd_Mem} (k : wd_Mem → Option (wd_Mem)) (x1 x2 : Int32) (hk : ∀  (μ : wd_Mem), k μ = some out → wd_V G (d + 1) RX1 cX1_byEdge 4 none (fun r u => r = none ∧ u = out) 54 [some (.inr 18), some (.inl x1), some (.inl x2), none] [] μ) : ∀ (n : Nat) (x3 : Int32) (μ : wd_Mem), X1_byEdge_l34 k x1 x2 n x3 μ = some out → wd_V G (d + 1) RX1 cX1_byEdge 4 none (fun r u => r = none ∧ u = out) 34 [some (.inr 18), some (.inl x1), some (.inl x2), some (.inl x3)] [] μ := by
  intro n
  induction n with
  | zero => intro x3 μ h; exact absurd h (by unfold X1_byEdge_l34; simp)
  | succ n ih =>
    intro x3 μ h
    exact t_X1_byEdge_c34 G d hd (X1_byEdge_l34 k x1 x2 n) k μ x1 x2 x3  (fun x3 μ h => ih x3 μ h) hk h
set_option maxRecDepth 100000 in
set_option maxHeartbeats 4000000 in
theorem t_X1_byEdge_c2 (G : wd_G) (d : Nat) (hd : 2 ≤ d) {out : wd_Mem} (rec : Int32 → wd_Mem → Option (wd_Mem)) (k : wd_Mem → Option (wd_Mem)) (μ : wd_Mem) (x1 x2 : Int32) (hrec : ∀ (x2 : Int32) (μ : wd_Mem), rec x2 μ = some out → wd_V G (d + 1) RX1 cX1_byEdge 4 none (fun r u => r = none ∧ u = out) 2 [some (.inr 18), some (.inl x1), some (.inl x2), none] [] μ) (hk : ∀  (μ : wd_Mem), k μ = some out → wd_V G (d + 1) RX1 cX1_byEdge 4 none (fun r u => r = none ∧ u = out) 60 [some (.inr 18), none, none, none] [] μ) (h : X1_byEdge_c2 rec k μ x1 x2 = some out) : wd_V G (d + 1) RX1 cX1_byEdge 4 none (fun r u => r = none ∧ u = out) 2 [some (.inr 18), some (.inl x1), some (.inl x2), none] [] μ := by
  unfold X1_byEdge_c2 at h
  refine wv_iload_n (pc' := 3) (i := 2) (v := x2) dX1_byEdge_2 rfl rfl rfl ?_
  refine wv_iconst (pc' := 4) dX1_byEdge_3 ic_1 rfl ?_
  refine wv_aload_n (pc' := 5) (i := 0) (v := 18) dX1_byEdge_4 rfl rfl rfl ?_
  refine wv_gr (pc' := 8) g_X1_18_18 dX1_byEdge_5 rfl ?_
  refine wv_gi (pc' := 11) g_X1_46_3 dX1_byEdge_8 rfl ?_
  refine wv_ishl (pc' := 12) dX1_byEdge_11 rfl ?_
  refine wv_icmp_ge (pc' := 15) (tgt := 60) dX1_byEdge_12 (by decide) rfl (fun c1 => ?_) (fun c1 => ?_)
  · have h := (if_pos c1).symm.trans h
    refine wv_weak (L' := [some (.inr 18), none, none, none]) ⟨rfl, trivial⟩ ?_
    exact hk _ h
  · have h := (if_neg c1).symm.trans h
    refine wv_iload_n (pc' := 16) (i := 2) (v := x2) dX1_byEdge_15 rfl rfl rfl ?_
    refine wv_iload_n (pc' := 17) (i := 1) (v := x1) dX1_byEdge_16 rfl rfl rfl ?_
    refine wv_ishr (pc' := 18) dX1_byEdge_17 rfl ?_
    refine wv_iconst (pc' := 19) dX1_byEdge_18 ic_1 rfl ?_
    refine wv_iand (pc' := 20) dX1_byEdge_19 rfl ?_
    refine wv_if_ne (pc' := 23) (tgt := 54) dX1_byEdge_20 (by decide) rfl (fun c2 => ?_) (fun c2 => ?_)
    · have h := (if_neg c2).symm.trans h
      exact t_X1_byEdge_b54 G d hd rec k μ x1 x2 hrec hk h
    · have h := (if_pos c2).symm.trans h
      refine wv_aload_n (pc' := 24) (i := 0) (v := 18) dX1_byEdge_23 rfl rfl rfl ?_
      refine wv_iload_n (pc' := 25) (i := 1) (v := x1) dX1_byEdge_24 rfl rfl rfl ?_
      refine wv_iload_n (pc' := 26) (i := 2) (v := x2) dX1_byEdge_25 rfl rfl rfl ?_
      obtain ⟨r3, er3, h⟩ := wd_bind_some h
      refine wv_callVi (pc' := 29) (x := r3) (ν := μ) [.inl x1, .inl x2] ml_X1_100 rc_18 rfl (Nat.le_of_ble_eq_true rfl) dX1_byEdge_26 rfl (c_X1_endsBehind G d (Nat.le_trans (Nat.le_of_ble_eq_true rfl) hd)  er3) ?_
      refine wv_if_eq (pc' := 32) (tgt := 54) dX1_byEdge_29 (by decide) rfl (fun c4 => ?_) (fun c4 => ?_)
      · have h := (if_pos c4).symm.trans h
        exact t_X1_byEdge_b54 G d hd rec k μ x1 x2 hrec hk h
      · have h := (if_neg c4).symm.trans h
        refine wv_iload_n (pc' := 33) (i := 2) (v := x2) dX1_byEdge_32 rfl rfl rfl ?_
        refine wv_istore_n (pc' := 34) (i := 3) (L' := [some (.inr 18), some (.inl x1), some (.inl x2), some (.inl x2)]) dX1_byEdge_33 rfl (by decide) rfl rfl ?_
        exact t_X1_byEdge_l34 G d hd (fun μ => X1_byEdge_b54 rec k μ x1 x2) x1 x2  (fun μ h => t_X1_byEdge_b54 G d hd rec k μ x1 x2 hrec hk h) wd_big x2 μ h
set_option maxRecDepth 100000 in
set_option maxHeartbeats 4000000 in
theorem t_X1_byEdge_l2 (G : wd_G) (d : Nat) (hd : 2 ≤ d) {out : wd_Mem} (k : wd_Mem → Option (wd_Mem)) (x1 : Int32) (hk : ∀  (μ : wd_Mem), k μ = some out → wd_V G (d + 1) RX1 cX1_byEdge 4 none (fun r u => r = none ∧ u = out) 60 [some (.inr 18), none, none, none] [] μ) : ∀ (n : Nat) (x2 : Int32) (μ : wd_Mem), X1_byEdge_l2 k x1 n x2 μ = some out → wd_V G (d + 1) RX1 cX1_byEdge 4 none (fun r u => r = none ∧ u = out) 2 [some (.inr 18), some (.inl x1), some (.inl x2), none] [] μ := by
  intro n
  induction n with
  | zero => intro x2 μ h; exact absurd h (by unfold X1_byEdge_l2; simp)
  | succ n ih =>
    intro x2 μ h
    exact t_X1_byEdge_c2 G d hd (X1_byEdge_l2 k x1 n) k μ x1 x2  (fun x2 μ h => ih x2 μ h) hk h
set_option maxRecDepth 100000 in
set_option maxHeartbeats 4000000 in
theorem t_X1_byEdge_b60 (G : wd_G) (d : Nat) (hd : 2 ≤ d) {out : wd_Mem} (μ : wd_Mem)  (h : X1_byEdge_b60 μ = some out) : wd_V G (d + 1) RX1 cX1_byEdge 4 none (fun r u => r = none ∧ u = out) 60 [some (.inr 18), none, none, none] [] μ := by
  unfold X1_byEdge_b60 at h
  exact wv_return rfl dX1_byEdge_60 (wd_lv h)
set_option maxRecDepth 100000 in
set_option maxHeartbeats 4000000 in
theorem t_X1_byEdge_b0 (G : wd_G) (d : Nat) (hd : 2 ≤ d) {out : wd_Mem} (μ : wd_Mem) (x1 : Int32)  (h : X1_byEdge_b0 μ x1 = some out) : wd_V G (d + 1) RX1 cX1_byEdge 4 none (fun r u => r = none ∧ u = out) 0 [some (.inr 18), some (.inl x1), none, none] [] μ := by
  unfold X1_byEdge_b0 at h
  refine wv_iconst (pc' := 1) dX1_byEdge_0 ic_1 rfl ?_
  refine wv_istore_n (pc' := 2) (i := 2) (L' := [some (.inr 18), some (.inl x1), some (.inl (1 : Int32)), none]) dX1_byEdge_1 rfl (by decide) rfl rfl ?_
  exact t_X1_byEdge_l2 G d hd (fun μ => X1_byEdge_b60 μ) x1  (fun μ h => t_X1_byEdge_b60 G d hd μ  h) wd_big (1 : Int32) μ h
set_option maxRecDepth 100000 in
set_option maxHeartbeats 4000000 in
theorem c_X1_byEdge (G : wd_G) (d : Nat) (hd : 3 ≤ d) {μ : wd_Mem} {x1 : Int32} {out : wd_Mem}  (h : X1_byEdge μ x1 = some out) : wd_C G d yX1_byEdge [.inr 18, .inl x1] μ (fun r u => r = none ∧ u = out) := by
  obtain ⟨d, rfl⟩ : ∃ e, d = e + 1 := ⟨d - 1, by omega⟩
  refine wd_enter mc_X1_byEdge (by decide) (by decide +kernel) rfl (Nat.le_of_ble_eq_true rfl) (L0 := [some (.inr 18), some (.inl x1), none, none]) rfl ?_
  exact t_X1_byEdge_b0 G d (by omega) μ x1 h
set_option maxRecDepth 100000 in
set_option maxHeartbeats 4000000 in
theorem t_X1_canNotBeFirst_b44 (G : wd_G) (d : Nat) (hd : 0 ≤ d) {out : Int32} (μ : wd_Mem)  (h : X1_canNotBeFirst_b44 μ = some out) : wd_V G (d + 1) RX1 cX1_canNotBeFirst 5 (some .boolean) (fun r u => r = some (.inl out) ∧ u = μ) 44 [some (.inr 18), none, none, none, none] [] μ := by
  unfold X1_canNotBeFirst_b44 at h
  refine wv_iconst (pc' := 45) dX1_canNotBeFirst_44 ic_0 rfl ?_
  exact wv_zreturn rfl rfl dX1_canNotBeFirst_45 (wd_li h)
set_option maxRecDepth 100000 in
set_option maxHeartbeats 4000000 in
theorem t_X1_canNotBeFirst_b0 (G : wd_G) (d : Nat) (hd : 0 ≤ d) {out : Int32} (μ : wd_Mem) (x1 x2 : Int32)  (h : X1_canNotBeFirst_b0 μ x1 x2 = some out) : wd_V G (d + 1) RX1 cX1_canNotBeFirst 5 (some .boolean) (fun r u => r = some (.inl out) ∧ u = μ) 0 [some (.inr 18), some (.inl x1), some (.inl x2), none, none] [] μ := by
  unfold X1_canNotBeFirst_b0 at h
  refine wv_aload_n (pc' := 1) (i := 0) (v := 18) dX1_canNotBeFirst_0 rfl rfl rfl ?_
  refine wv_gr (pc' := 4) g_X1_22_18 dX1_canNotBeFirst_1 rfl ?_
  refine wv_gr (pc' := 7) g_X1_107_9 dX1_canNotBeFirst_4 rfl ?_
  refine wv_iload_n (pc' := 8) (i := 2) (v := x2) dX1_canNotBeFirst_7 rfl rfl rfl ?_
  obtain ⟨g1, h⟩ := wd_chk_some h
  refine wv_iald (pc' := 9) sa_14 (wd_in_vp g1) dX1_canNotBeFirst_8 rfl ?_
  refine wv_istore_n (pc' := 10) (i := 3) (L' := [some (.inr 18), some (.inl x1), some (.inl x2), some (.inl (μ 14 (Int32.toNatClampNeg x2))), none]) dX1_canNotBeFirst_9 rfl (by decide) rfl rfl ?_
  refine wv_iload_n (pc' := 11) (i := 3) (v := (μ 14 (Int32.toNatClampNeg x2))) dX1_canNotBeFirst_10 rfl rfl rfl ?_
  refine wv_aload_n (pc' := 12) (i := 0) (v := 18) dX1_canNotBeFirst_11 rfl rfl rfl ?_
  refine wv_gr (pc' := 15) g_X1_22_18 dX1_canNotBeFirst_12 rfl ?_
  refine wv_gr (pc' := 18) g_X1_52_9 dX1_canNotBeFirst_15 rfl ?_
  refine wv_iload_n (pc' := 19) (i := 1) (v := x1) dX1_canNotBeFirst_18 rfl rfl rfl ?_
  obtain ⟨g2, h⟩ := wd_chk_some h
  refine wv_iald (pc' := 20) sa_10 (wd_in_vp g2) dX1_canNotBeFirst_19 rfl ?_
  refine wv_icmp_gt (pc' := 23) (tgt := 44) dX1_canNotBeFirst_20 (by decide) rfl (fun c3 => ?_) (fun c3 => ?_)
  · have h := (if_pos c3).symm.trans h
    refine wv_weak (L' := [some (.inr 18), none, none, none, none]) ⟨rfl, trivial⟩ ?_
    exact t_X1_canNotBeFirst_b44 G d hd μ  h
  · have h := (if_neg c3).symm.trans h
    refine wv_aload_n (pc' := 24) (i := 0) (v := 18) dX1_canNotBeFirst_23 rfl rfl rfl ?_
    refine wv_gr (pc' := 27) g_X1_22_18 dX1_canNotBeFirst_24 rfl ?_
    refine wv_gr (pc' := 30) g_X1_52_9 dX1_canNotBeFirst_27 rfl ?_
    refine wv_iload_n (pc' := 31) (i := 1) (v := x1) dX1_canNotBeFirst_30 rfl rfl rfl ?_
    refine wv_iald (pc' := 32) sa_10 (wd_in_vp g2) dX1_canNotBeFirst_31 rfl ?_
    refine wv_aload_n (pc' := 33) (i := 0) (v := 18) dX1_canNotBeFirst_32 rfl rfl rfl ?_
    refine wv_gr (pc' := 36) g_X1_22_18 dX1_canNotBeFirst_33 rfl ?_
    refine wv_gr (pc' := 39) g_X1_119_9 dX1_canNotBeFirst_36 rfl ?_
    refine wv_iload_n (pc' := 40) (i := 2) (v := x2) dX1_canNotBeFirst_39 rfl rfl rfl ?_
    refine wv_iald (pc' := 41) sa_16 (wd_in_vp g1) dX1_canNotBeFirst_40 rfl ?_
    refine wv_icmp_lt (pc' := 44) (tgt := 46) dX1_canNotBeFirst_41 (by decide) rfl (fun c4 => ?_) (fun c4 => ?_)
    · have h := (if_pos c4).symm.trans h
      refine wv_aload_n (pc' := 47) (i := 0) (v := 18) dX1_canNotBeFirst_46 rfl rfl rfl ?_
      refine wv_gr (pc' := 50) g_X1_18_18 dX1_canNotBeFirst_47 rfl ?_
      refine wv_gr (pc' := 53) g_X1_87_3 dX1_canNotBeFirst_50 rfl ?_
      refine wv_iload_n (pc' := 54) (i := 1) (v := x1) dX1_canNotBeFirst_53 rfl rfl rfl ?_
      refine wv_iald (pc' := 55) sa_5 (wd_in_vp g2) dX1_canNotBeFirst_54 rfl ?_
      refine wv_aload_n (pc' := 56) (i := 0) (v := 18) dX1_canNotBeFirst_55 rfl rfl rfl ?_
      refine wv_gr (pc' := 59) g_X1_22_18 dX1_canNotBeFirst_56 rfl ?_
      refine wv_gr (pc' := 62) g_X1_122_9 dX1_canNotBeFirst_59 rfl ?_
      refine wv_iload_n (pc' := 63) (i := 1) (v := x1) dX1_canNotBeFirst_62 rfl rfl rfl ?_
      refine wv_iald (pc' := 64) sa_12 (wd_in_vp g2) dX1_canNotBeFirst_63 rfl ?_
      refine wv_aload_n (pc' := 65) (i := 0) (v := 18) dX1_canNotBeFirst_64 rfl rfl rfl ?_
      refine wv_gr (pc' := 68) g_X1_22_18 dX1_canNotBeFirst_65 rfl ?_
      refine wv_gr (pc' := 71) g_X1_113_9 dX1_canNotBeFirst_68 rfl ?_
      refine wv_iload_n (pc' := 72) (i := 2) (v := x2) dX1_canNotBeFirst_71 rfl rfl rfl ?_
      refine wv_iald (pc' := 73) sa_15 (wd_in_vp g1) dX1_canNotBeFirst_72 rfl ?_
      refine wv_min (pc' := 76) mm_X1_71 (Nat.le_of_ble_eq_true rfl) dX1_canNotBeFirst_73 rfl ?_
      refine wv_iload_n (pc' := 77) (i := 3) (v := (μ 14 (Int32.toNatClampNeg x2))) dX1_canNotBeFirst_76 rfl rfl rfl ?_
      refine wv_isub (pc' := 78) dX1_canNotBeFirst_77 rfl ?_
      refine wv_imul (pc' := 79) dX1_canNotBeFirst_78 rfl ?_
      refine wv_istore (pc' := 81) (L' := [some (.inr 18), some (.inl x1), some (.inl x2), some (.inl (μ 14 (Int32.toNatClampNeg x2))), some (.inl ((μ 5 (Int32.toNatClampNeg x1)) * ((if (μ 15 (Int32.toNatClampNeg x2)) < (μ 12 (Int32.toNatClampNeg x1)) then (μ 15 (Int32.toNatClampNeg x2)) else (μ 12 (Int32.toNatClampNeg x1))) - (μ 14 (Int32.toNatClampNeg x2)))))]) dX1_canNotBeFirst_79 (by decide) rfl rfl ?_
      refine wv_aload_n (pc' := 82) (i := 0) (v := 18) dX1_canNotBeFirst_81 rfl rfl rfl ?_
      refine wv_gr (pc' := 85) g_X1_22_18 dX1_canNotBeFirst_82 rfl ?_
      refine wv_gr (pc' := 88) g_X1_110_9 dX1_canNotBeFirst_85 rfl ?_
      refine wv_iload_n (pc' := 89) (i := 2) (v := x2) dX1_canNotBeFirst_88 rfl rfl rfl ?_
      refine wv_iald (pc' := 90) sa_17 (wd_in_vp g1) dX1_canNotBeFirst_89 rfl ?_
      refine wv_iload (pc' := 92) (v := ((μ 5 (Int32.toNatClampNeg x1)) * ((if (μ 15 (Int32.toNatClampNeg x2)) < (μ 12 (Int32.toNatClampNeg x1)) then (μ 15 (Int32.toNatClampNeg x2)) else (μ 12 (Int32.toNatClampNeg x1))) - (μ 14 (Int32.toNatClampNeg x2))))) dX1_canNotBeFirst_90 rfl rfl ?_
      refine wv_iadd (pc' := 93) dX1_canNotBeFirst_92 rfl ?_
      refine wv_aload_n (pc' := 94) (i := 0) (v := 18) dX1_canNotBeFirst_93 rfl rfl rfl ?_
      refine wv_gr (pc' := 97) g_X1_18_18 dX1_canNotBeFirst_94 rfl ?_
      refine wv_gi (pc' := 100) g_X1_90_3 dX1_canNotBeFirst_97 rfl ?_
      refine wv_aload_n (pc' := 101) (i := 0) (v := 18) dX1_canNotBeFirst_100 rfl rfl rfl ?_
      refine wv_gr (pc' := 104) g_X1_22_18 dX1_canNotBeFirst_101 rfl ?_
      refine wv_gr (pc' := 107) g_X1_113_9 dX1_canNotBeFirst_104 rfl ?_
      refine wv_iload_n (pc' := 108) (i := 2) (v := x2) dX1_canNotBeFirst_107 rfl rfl rfl ?_
      refine wv_iald (pc' := 109) sa_15 (wd_in_vp g1) dX1_canNotBeFirst_108 rfl ?_
      refine wv_iload_n (pc' := 110) (i := 3) (v := (μ 14 (Int32.toNatClampNeg x2))) dX1_canNotBeFirst_109 rfl rfl rfl ?_
      refine wv_isub (pc' := 111) dX1_canNotBeFirst_110 rfl ?_
      refine wv_imul (pc' := 112) dX1_canNotBeFirst_111 rfl ?_
      refine wv_icmp_le (pc' := 115) (tgt := 119) dX1_canNotBeFirst_112 (by decide) rfl (fun c5 => ?_) (fun c5 => ?_)
      · have h := (if_pos c5).symm.trans h
        refine wv_iconst (pc' := 120) dX1_canNotBeFirst_119 ic_0 rfl ?_
        exact wv_zreturn rfl rfl dX1_canNotBeFirst_120 (wd_li h)
      · have h := (if_neg c5).symm.trans h
        refine wv_iconst (pc' := 116) dX1_canNotBeFirst_115 ic_1 rfl ?_
        refine wv_goto (pc' := 120) dX1_canNotBeFirst_116 (by decide) ?_
        exact wv_zreturn rfl rfl dX1_canNotBeFirst_120 (wd_li h)
    · have h := (if_neg c4).symm.trans h
      refine wv_weak (L' := [some (.inr 18), none, none, none, none]) ⟨rfl, trivial⟩ ?_
      exact t_X1_canNotBeFirst_b44 G d hd μ  h
set_option maxRecDepth 100000 in
set_option maxHeartbeats 4000000 in
theorem c_X1_canNotBeFirst (G : wd_G) (d : Nat) (hd : 1 ≤ d) {μ : wd_Mem} {x1 x2 : Int32} {out : Int32}  (h : X1_canNotBeFirst μ x1 x2 = some out) : wd_C G d yX1_canNotBeFirst [.inr 18, .inl x1, .inl x2] μ (fun r u => r = some (.inl out) ∧ u = μ) := by
  obtain ⟨d, rfl⟩ : ∃ e, d = e + 1 := ⟨d - 1, by omega⟩
  refine wd_enter mc_X1_canNotBeFirst (by decide) (by decide +kernel) rfl (Nat.le_of_ble_eq_true rfl) (L0 := [some (.inr 18), some (.inl x1), some (.inl x2), none, none]) rfl ?_
  exact t_X1_canNotBeFirst_b0 G d (by omega) μ x1 x2 h
set_option maxRecDepth 100000 in
set_option maxHeartbeats 4000000 in
theorem t_X1_byFirst_b47 (G : wd_G) (d : Nat) (hd : 1 ≤ d) {out : wd_Mem} (rec : Int32 → wd_Mem → Option (wd_Mem)) (k : wd_Mem → Option (wd_Mem)) (μ : wd_Mem) (x1 x2 : Int32) (hrec : ∀ (x2 : Int32) (μ : wd_Mem), rec x2 μ = some out → wd_V G (d + 1) RX1 cX1_byFirst 3 none (fun r u => r = none ∧ u = out) 2 [some (.inr 18), some (.inl x1), some (.inl x2)] [] μ) (hk : ∀  (μ : wd_Mem), k μ = some out → wd_V G (d + 1) RX1 cX1_byFirst 3 none (fun r u => r = none ∧ u = out) 53 [some (.inr 18), none, none] [] μ) (h : X1_byFirst_b47 rec k μ x1 x2 = some out) : wd_V G (d + 1) RX1 cX1_byFirst 3 none (fun r u => r = none ∧ u = out) 47 [some (.inr 18), some (.inl x1), some (.inl x2)] [] μ := by
  unfold X1_byFirst_b47 at h
  refine wv_inc (pc' := 50) (x := x2) (L' := [some (.inr 18), some (.inl x1), some (.inl (x2 + (1 : Int32)))]) dX1_byFirst_47 ic_1 rfl (by decide) rfl rfl ?_
  refine wv_goto (pc' := 2) dX1_byFirst_50 (by decide) ?_
  exact hrec _ _ h
set_option maxRecDepth 100000 in
set_option maxHeartbeats 4000000 in
theorem t_X1_byFirst_c2 (G : wd_G) (d : Nat) (hd : 1 ≤ d) {out : wd_Mem} (rec : Int32 → wd_Mem → Option (wd_Mem)) (k : wd_Mem → Option (wd_Mem)) (μ : wd_Mem) (x1 x2 : Int32) (hrec : ∀ (x2 : Int32) (μ : wd_Mem), rec x2 μ = some out → wd_V G (d + 1) RX1 cX1_byFirst 3 none (fun r u => r = none ∧ u = out) 2 [some (.inr 18), some (.inl x1), some (.inl x2)] [] μ) (hk : ∀  (μ : wd_Mem), k μ = some out → wd_V G (d + 1) RX1 cX1_byFirst 3 none (fun r u => r = none ∧ u = out) 53 [some (.inr 18), none, none] [] μ) (h : X1_byFirst_c2 rec k μ x1 x2 = some out) : wd_V G (d + 1) RX1 cX1_byFirst 3 none (fun r u => r = none ∧ u = out) 2 [some (.inr 18), some (.inl x1), some (.inl x2)] [] μ := by
  unfold X1_byFirst_c2 at h
  refine wv_iload_n (pc' := 3) (i := 2) (v := x2) dX1_byFirst_2 rfl rfl rfl ?_
  refine wv_iconst (pc' := 4) dX1_byFirst_3 ic_1 rfl ?_
  refine wv_aload_n (pc' := 5) (i := 0) (v := 18) dX1_byFirst_4 rfl rfl rfl ?_
  refine wv_gr (pc' := 8) g_X1_18_18 dX1_byFirst_5 rfl ?_
  refine wv_gi (pc' := 11) g_X1_46_3 dX1_byFirst_8 rfl ?_
  refine wv_ishl (pc' := 12) dX1_byFirst_11 rfl ?_
  refine wv_icmp_ge (pc' := 15) (tgt := 53) dX1_byFirst_12 (by decide) rfl (fun c1 => ?_) (fun c1 => ?_)
  · have h := (if_pos c1).symm.trans h
    refine wv_weak (L' := [some (.inr 18), none, none]) ⟨rfl, trivial⟩ ?_
    exact hk _ h
  · have h := (if_neg c1).symm.trans h
    refine wv_iload_n (pc' := 16) (i := 2) (v := x2) dX1_byFirst_15 rfl rfl rfl ?_
    refine wv_iload_n (pc' := 17) (i := 1) (v := x1) dX1_byFirst_16 rfl rfl rfl ?_
    refine wv_ishr (pc' := 18) dX1_byFirst_17 rfl ?_
    refine wv_iconst (pc' := 19) dX1_byFirst_18 ic_1 rfl ?_
    refine wv_iand (pc' := 20) dX1_byFirst_19 rfl ?_
    refine wv_if_ne (pc' := 23) (tgt := 47) dX1_byFirst_20 (by decide) rfl (fun c2 => ?_) (fun c2 => ?_)
    · have h := (if_neg c2).symm.trans h
      exact t_X1_byFirst_b47 G d hd rec k μ x1 x2 hrec hk h
    · have h := (if_pos c2).symm.trans h
      refine wv_aload_n (pc' := 24) (i := 0) (v := 18) dX1_byFirst_23 rfl rfl rfl ?_
      refine wv_iload_n (pc' := 25) (i := 1) (v := x1) dX1_byFirst_24 rfl rfl rfl ?_
      refine wv_iload_n (pc' := 26) (i := 2) (v := x2) dX1_byFirst_25 rfl rfl rfl ?_
      obtain ⟨r3, er3, h⟩ := wd_bind_some h
      refine wv_callVi (pc' := 29) (x := r3) (ν := μ) [.inl x1, .inl x2] ml_X1_116 rc_18 rfl (Nat.le_of_ble_eq_true rfl) dX1_byFirst_26 rfl (c_X1_canNotBeFirst G d (Nat.le_trans (Nat.le_of_ble_eq_true rfl) hd)  er3) ?_
      refine wv_if_eq (pc' := 32) (tgt := 47) dX1_byFirst_29 (by decide) rfl (fun c4 => ?_) (fun c4 => ?_)
      · have h := (if_pos c4).symm.trans h
        exact t_X1_byFirst_b47 G d hd rec k μ x1 x2 hrec hk h
      · have h := (if_neg c4).symm.trans h
        refine wv_aload_n (pc' := 33) (i := 0) (v := 18) dX1_byFirst_32 rfl rfl rfl ?_
        refine wv_iload_n (pc' := 34) (i := 1) (v := x1) dX1_byFirst_33 rfl rfl rfl ?_
        refine wv_aload_n (pc' := 35) (i := 0) (v := 18) dX1_byFirst_34 rfl rfl rfl ?_
        refine wv_gr (pc' := 38) g_X1_22_18 dX1_byFirst_35 rfl ?_
        refine wv_gr (pc' := 41) g_X1_119_9 dX1_byFirst_38 rfl ?_
        refine wv_iload_n (pc' := 42) (i := 2) (v := x2) dX1_byFirst_41 rfl rfl rfl ?_
        obtain ⟨g5, h⟩ := wd_chk_some h
        refine wv_iald (pc' := 43) sa_16 (wd_in_vp g5) dX1_byFirst_42 rfl ?_
        refine wv_iload_n (pc' := 44) (i := 2) (v := x2) dX1_byFirst_43 rfl rfl rfl ?_
        obtain ⟨r6, er6, h⟩ := wd_bind_some h
        refine wv_callVv (pc' := 47) (ν := r6) [.inl x1, .inl (μ 16 (Int32.toNatClampNeg x2)), .inl x2] ml_X1_96 rc_18 rfl (Nat.le_of_ble_eq_true rfl) dX1_byFirst_44 rfl (c_X1_tell G d (Nat.le_trans (Nat.le_of_ble_eq_true rfl) hd)  er6) ?_
        exact t_X1_byFirst_b47 G d hd rec k r6 x1 x2 hrec hk h
set_option maxRecDepth 100000 in
set_option maxHeartbeats 4000000 in
theorem t_X1_byFirst_l2 (G : wd_G) (d : Nat) (hd : 1 ≤ d) {out : wd_Mem} (k : wd_Mem → Option (wd_Mem)) (x1 : Int32) (hk : ∀  (μ : wd_Mem), k μ = some out → wd_V G (d + 1) RX1 cX1_byFirst 3 none (fun r u => r = none ∧ u = out) 53 [some (.inr 18), none, none] [] μ) : ∀ (n : Nat) (x2 : Int32) (μ : wd_Mem), X1_byFirst_l2 k x1 n x2 μ = some out → wd_V G (d + 1) RX1 cX1_byFirst 3 none (fun r u => r = none ∧ u = out) 2 [some (.inr 18), some (.inl x1), some (.inl x2)] [] μ := by
  intro n
  induction n with
  | zero => intro x2 μ h; exact absurd h (by unfold X1_byFirst_l2; simp)
  | succ n ih =>
    intro x2 μ h
    exact t_X1_byFirst_c2 G d hd (X1_byFirst_l2 k x1 n) k μ x1 x2  (fun x2 μ h => ih x2 μ h) hk h
set_option maxRecDepth 100000 in
set_option maxHeartbeats 4000000 in
theorem t_X1_byFirst_b53 (G : wd_G) (d : Nat) (hd : 1 ≤ d) {out : wd_Mem} (μ : wd_Mem)  (h : X1_byFirst_b53 μ = some out) : wd_V G (d + 1) RX1 cX1_byFirst 3 none (fun r u => r = none ∧ u = out) 53 [some (.inr 18), none, none] [] μ := by
  unfold X1_byFirst_b53 at h
  exact wv_return rfl dX1_byFirst_53 (wd_lv h)
set_option maxRecDepth 100000 in
set_option maxHeartbeats 4000000 in
theorem t_X1_byFirst_b0 (G : wd_G) (d : Nat) (hd : 1 ≤ d) {out : wd_Mem} (μ : wd_Mem) (x1 : Int32)  (h : X1_byFirst_b0 μ x1 = some out) : wd_V G (d + 1) RX1 cX1_byFirst 3 none (fun r u => r = none ∧ u = out) 0 [some (.inr 18), some (.inl x1), none] [] μ := by
  unfold X1_byFirst_b0 at h
  refine wv_iconst (pc' := 1) dX1_byFirst_0 ic_1 rfl ?_
  refine wv_istore_n (pc' := 2) (i := 2) (L' := [some (.inr 18), some (.inl x1), some (.inl (1 : Int32))]) dX1_byFirst_1 rfl (by decide) rfl rfl ?_
  exact t_X1_byFirst_l2 G d hd (fun μ => X1_byFirst_b53 μ) x1  (fun μ h => t_X1_byFirst_b53 G d hd μ  h) wd_big (1 : Int32) μ h
set_option maxRecDepth 100000 in
set_option maxHeartbeats 4000000 in
theorem c_X1_byFirst (G : wd_G) (d : Nat) (hd : 2 ≤ d) {μ : wd_Mem} {x1 : Int32} {out : wd_Mem}  (h : X1_byFirst μ x1 = some out) : wd_C G d yX1_byFirst [.inr 18, .inl x1] μ (fun r u => r = none ∧ u = out) := by
  obtain ⟨d, rfl⟩ : ∃ e, d = e + 1 := ⟨d - 1, by omega⟩
  refine wd_enter mc_X1_byFirst (by decide) (by decide +kernel) rfl (Nat.le_of_ble_eq_true rfl) (L0 := [some (.inr 18), some (.inl x1), none]) rfl ?_
  exact t_X1_byFirst_b0 G d (by omega) μ x1 h
set_option maxRecDepth 100000 in
set_option maxHeartbeats 4000000 in
theorem t_X3_least_b0 (G : wd_G) (d : Nat) (hd : 0 ≤ d) {out : Int32} (μ : wd_Mem) (x1 x2 x3 : Int32)  (h : X3_least_b0 μ x1 x2 x3 = some out) : wd_V G (d + 1) RX3 cX3_least 5 (some .int) (fun r u => r = some (.inl out) ∧ u = μ) 0 [some (.inr 9), some (.inl x1), some (.inl x2), some (.inl x3), none] [] μ := by
  unfold X3_least_b0 at h
  refine wv_aload_n (pc' := 1) (i := 0) (v := 9) dX3_least_0 rfl rfl rfl ?_
  refine wv_gr (pc' := 4) g_X3_36_9 dX3_least_1 rfl ?_
  refine wv_gr (pc' := 7) g_X3_52_3 dX3_least_4 rfl ?_
  refine wv_iload_n (pc' := 8) (i := 1) (v := x1) dX3_least_7 rfl rfl rfl ?_
  obtain ⟨g1, h⟩ := wd_chk_some h
  refine wv_iald (pc' := 9) sa_4 (wd_in_vp g1) dX3_least_8 rfl ?_
  refine wv_iload_n (pc' := 10) (i := 3) (v := x3) dX3_least_9 rfl rfl rfl ?_
  refine wv_iload_n (pc' := 11) (i := 2) (v := x2) dX3_least_10 rfl rfl rfl ?_
  refine wv_isub (pc' := 12) dX3_least_11 rfl ?_
  refine wv_min (pc' := 15) mm_X3_59 (Nat.le_of_ble_eq_true rfl) dX3_least_12 rfl ?_
  refine wv_aload_n (pc' := 16) (i := 0) (v := 9) dX3_least_15 rfl rfl rfl ?_
  refine wv_gr (pc' := 19) g_X3_18_9 dX3_least_16 rfl ?_
  refine wv_iload_n (pc' := 20) (i := 1) (v := x1) dX3_least_19 rfl rfl rfl ?_
  refine wv_iald (pc' := 21) sa_12 (wd_in_vp g1) dX3_least_20 rfl ?_
  refine wv_iload_n (pc' := 22) (i := 2) (v := x2) dX3_least_21 rfl rfl rfl ?_
  refine wv_isub (pc' := 23) dX3_least_22 rfl ?_
  refine wv_iload_n (pc' := 24) (i := 3) (v := x3) dX3_least_23 rfl rfl rfl ?_
  refine wv_aload_n (pc' := 25) (i := 0) (v := 9) dX3_least_24 rfl rfl rfl ?_
  refine wv_gr (pc' := 28) g_X3_21_9 dX3_least_25 rfl ?_
  refine wv_iload_n (pc' := 29) (i := 1) (v := x1) dX3_least_28 rfl rfl rfl ?_
  refine wv_iald (pc' := 30) sa_13 (wd_in_vp g1) dX3_least_29 rfl ?_
  refine wv_isub (pc' := 31) dX3_least_30 rfl ?_
  refine wv_min (pc' := 34) mm_X3_59 (Nat.le_of_ble_eq_true rfl) dX3_least_31 rfl ?_
  refine wv_min (pc' := 37) mm_X3_59 (Nat.le_of_ble_eq_true rfl) dX3_least_34 rfl ?_
  refine wv_istore (pc' := 39) (L' := [some (.inr 9), some (.inl x1), some (.inl x2), some (.inl x3), some (.inl (if (if (x3 - (μ 13 (Int32.toNatClampNeg x1))) < ((μ 12 (Int32.toNatClampNeg x1)) - x2) then (x3 - (μ 13 (Int32.toNatClampNeg x1))) else ((μ 12 (Int32.toNatClampNeg x1)) - x2)) < (if (x3 - x2) < (μ 4 (Int32.toNatClampNeg x1)) then (x3 - x2) else (μ 4 (Int32.toNatClampNeg x1))) then (if (x3 - (μ 13 (Int32.toNatClampNeg x1))) < ((μ 12 (Int32.toNatClampNeg x1)) - x2) then (x3 - (μ 13 (Int32.toNatClampNeg x1))) else ((μ 12 (Int32.toNatClampNeg x1)) - x2)) else (if (x3 - x2) < (μ 4 (Int32.toNatClampNeg x1)) then (x3 - x2) else (μ 4 (Int32.toNatClampNeg x1)))))]) dX3_least_37 (by decide) rfl rfl ?_
  refine wv_aload_n (pc' := 40) (i := 0) (v := 9) dX3_least_39 rfl rfl rfl ?_
  refine wv_gr (pc' := 43) g_X3_36_9 dX3_least_40 rfl ?_
  refine wv_gr (pc' := 46) g_X3_71_3 dX3_least_43 rfl ?_
  refine wv_iload_n (pc' := 47) (i := 1) (v := x1) dX3_least_46 rfl rfl rfl ?_
  refine wv_iald (pc' := 48) sa_5 (wd_in_vp g1) dX3_least_47 rfl ?_
  refine wv_iconst (pc' := 49) dX3_least_48 ic_0 rfl ?_
  refine wv_iload (pc' := 51) (v := (if (if (x3 - (μ 13 (Int32.toNatClampNeg x1))) < ((μ 12 (Int32.toNatClampNeg x1)) - x2) then (x3 - (μ 13 (Int32.toNatClampNeg x1))) else ((μ 12 (Int32.toNatClampNeg x1)) - x2)) < (if (x3 - x2) < (μ 4 (Int32.toNatClampNeg x1)) then (x3 - x2) else (μ 4 (Int32.toNatClampNeg x1))) then (if (x3 - (μ 13 (Int32.toNatClampNeg x1))) < ((μ 12 (Int32.toNatClampNeg x1)) - x2) then (x3 - (μ 13 (Int32.toNatClampNeg x1))) else ((μ 12 (Int32.toNatClampNeg x1)) - x2)) else (if (x3 - x2) < (μ 4 (Int32.toNatClampNeg x1)) then (x3 - x2) else (μ 4 (Int32.toNatClampNeg x1))))) dX3_least_49 rfl rfl ?_
  refine wv_max (pc' := 54) mm_X3_64 (Nat.le_of_ble_eq_true rfl) dX3_least_51 rfl ?_
  refine wv_imul (pc' := 55) dX3_least_54 rfl ?_
  exact wv_ireturn rfl dX3_least_55 (wd_li h)
set_option maxRecDepth 100000 in
set_option maxHeartbeats 4000000 in
theorem c_X3_least (G : wd_G) (d : Nat) (hd : 1 ≤ d) {μ : wd_Mem} {x1 x2 x3 : Int32} {out : Int32}  (h : X3_least μ x1 x2 x3 = some out) : wd_C G d yX3_least [.inr 9, .inl x1, .inl x2, .inl x3] μ (fun r u => r = some (.inl out) ∧ u = μ) := by
  obtain ⟨d, rfl⟩ : ∃ e, d = e + 1 := ⟨d - 1, by omega⟩
  refine wd_enter mc_X3_least (by decide) (by decide +kernel) rfl (Nat.le_of_ble_eq_true rfl) (L0 := [some (.inr 9), some (.inl x1), some (.inl x2), some (.inl x3), none]) rfl ?_
  exact t_X3_least_b0 G d (by omega) μ x1 x2 x3 h
set_option maxRecDepth 100000 in
set_option maxHeartbeats 4000000 in
theorem t_X3_free_b48 (G : wd_G) (d : Nat) (hd : 1 ≤ d) {out : Int32} (rec : Int32 → Int32 → Option (Int32)) (k : Int32 → Option (Int32)) (μ : wd_Mem) (x1 x2 x3 x5 s0 s1 : Int32) (hrec : ∀ (x4 x5 : Int32), rec x4 x5 = some out → wd_V G (d + 1) RX3 cX3_free 6 (some .int) (fun r u => r = some (.inl out) ∧ u = μ) 16 [some (.inr 9), some (.inl x1), some (.inl x2), some (.inl x3), some (.inl x4), some (.inl x5)] [] μ) (hk : ∀ (x4 : Int32), k x4 = some out → wd_V G (d + 1) RX3 cX3_free 6 (some .int) (fun r u => r = some (.inl out) ∧ u = μ) 57 [some (.inr 9), none, none, none, some (.inl x4), none] [] μ) (h : X3_free_b48 rec k μ x1 x2 x3 x5 s0 s1 = some out) : wd_V G (d + 1) RX3 cX3_free 6 (some .int) (fun r u => r = some (.inl out) ∧ u = μ) 48 [some (.inr 9), some (.inl x1), some (.inl x2), some (.inl x3), none, some (.inl x5)] [.inl s1, .inl s0] μ := by
  unfold X3_free_b48 at h
  refine wv_isub (pc' := 49) dX3_free_48 rfl ?_
  refine wv_istore (pc' := 51) (L' := [some (.inr 9), some (.inl x1), some (.inl x2), some (.inl x3), some (.inl (s0 - s1)), some (.inl x5)]) dX3_free_49 (by decide) rfl rfl ?_
  refine wv_inc (pc' := 54) (x := x5) (L' := [some (.inr 9), some (.inl x1), some (.inl x2), some (.inl x3), some (.inl (s0 - s1)), some (.inl (x5 + (1 : Int32)))]) dX3_free_51 ic_1 rfl (by decide) rfl rfl ?_
  refine wv_goto (pc' := 16) dX3_free_54 (by decide) ?_
  exact hrec _ _ h
set_option maxRecDepth 100000 in
set_option maxHeartbeats 4000000 in
theorem t_X3_free_c16 (G : wd_G) (d : Nat) (hd : 1 ≤ d) {out : Int32} (rec : Int32 → Int32 → Option (Int32)) (k : Int32 → Option (Int32)) (μ : wd_Mem) (x1 x2 x3 x4 x5 : Int32) (hrec : ∀ (x4 x5 : Int32), rec x4 x5 = some out → wd_V G (d + 1) RX3 cX3_free 6 (some .int) (fun r u => r = some (.inl out) ∧ u = μ) 16 [some (.inr 9), some (.inl x1), some (.inl x2), some (.inl x3), some (.inl x4), some (.inl x5)] [] μ) (hk : ∀ (x4 : Int32), k x4 = some out → wd_V G (d + 1) RX3 cX3_free 6 (some .int) (fun r u => r = some (.inl out) ∧ u = μ) 57 [some (.inr 9), none, none, none, some (.inl x4), none] [] μ) (h : X3_free_c16 rec k μ x1 x2 x3 x4 x5 = some out) : wd_V G (d + 1) RX3 cX3_free 6 (some .int) (fun r u => r = some (.inl out) ∧ u = μ) 16 [some (.inr 9), some (.inl x1), some (.inl x2), some (.inl x3), some (.inl x4), some (.inl x5)] [] μ := by
  unfold X3_free_c16 at h
  refine wv_iload (pc' := 18) (v := x5) dX3_free_16 rfl rfl ?_
  refine wv_aload_n (pc' := 19) (i := 0) (v := 9) dX3_free_18 rfl rfl rfl ?_
  refine wv_gr (pc' := 22) g_X3_36_9 dX3_free_19 rfl ?_
  refine wv_gi (pc' := 25) g_X3_40_3 dX3_free_22 rfl ?_
  refine wv_icmp_ge (pc' := 28) (tgt := 57) dX3_free_25 (by decide) rfl (fun c1 => ?_) (fun c1 => ?_)
  · have h := (if_pos c1).symm.trans h
    refine wv_weak (L' := [some (.inr 9), none, none, none, some (.inl x4), none]) ⟨rfl, rfl, trivial⟩ ?_
    exact hk _ h
  · have h := (if_neg c1).symm.trans h
    refine wv_iload (pc' := 30) (v := x4) dX3_free_28 rfl rfl ?_
    refine wv_iload (pc' := 32) (v := x5) dX3_free_30 rfl rfl ?_
    refine wv_iload_n (pc' := 33) (i := 1) (v := x1) dX3_free_32 rfl rfl rfl ?_
    refine wv_icmp_ne (pc' := 36) (tgt := 40) dX3_free_33 (by decide) rfl (fun c2 => ?_) (fun c2 => ?_)
    · have h := (if_neg c2).symm.trans h
      refine wv_aload_n (pc' := 41) (i := 0) (v := 9) dX3_free_40 rfl rfl rfl ?_
      refine wv_iload (pc' := 43) (v := x5) dX3_free_41 rfl rfl ?_
      refine wv_iload_n (pc' := 44) (i := 2) (v := x2) dX3_free_43 rfl rfl rfl ?_
      refine wv_iload_n (pc' := 45) (i := 3) (v := x3) dX3_free_44 rfl rfl rfl ?_
      obtain ⟨r3, er3, h⟩ := wd_bind_some h
      refine wv_callVi (pc' := 48) (x := r3) (ν := μ) [.inl x5, .inl x2, .inl x3] ml_X3_77 rc_9 rfl (Nat.le_of_ble_eq_true rfl) dX3_free_45 rfl (c_X3_least G d (Nat.le_trans (Nat.le_of_ble_eq_true rfl) hd)  er3) ?_
      refine wv_weak (L' := [some (.inr 9), some (.inl x1), some (.inl x2), some (.inl x3), none, some (.inl x5)]) ⟨rfl, rfl, rfl, rfl, rfl, trivial⟩ ?_
      exact t_X3_free_b48 G d hd rec k μ x1 x2 x3 x5 x4 r3 hrec hk h
    · have h := (if_pos c2).symm.trans h
      refine wv_iconst (pc' := 37) dX3_free_36 ic_0 rfl ?_
      refine wv_goto (pc' := 48) dX3_free_37 (by decide) ?_
      refine wv_weak (L' := [some (.inr 9), some (.inl x1), some (.inl x2), some (.inl x3), none, some (.inl x5)]) ⟨rfl, rfl, rfl, rfl, rfl, trivial⟩ ?_
      exact t_X3_free_b48 G d hd rec k μ x1 x2 x3 x5 x4 (0 : Int32) hrec hk h
set_option maxRecDepth 100000 in
set_option maxHeartbeats 4000000 in
theorem t_X3_free_l16 (G : wd_G) (d : Nat) (hd : 1 ≤ d) {out : Int32} (k : Int32 → Option (Int32)) (μ : wd_Mem) (x1 x2 x3 : Int32) (hk : ∀ (x4 : Int32), k x4 = some out → wd_V G (d + 1) RX3 cX3_free 6 (some .int) (fun r u => r = some (.inl out) ∧ u = μ) 57 [some (.inr 9), none, none, none, some (.inl x4), none] [] μ) : ∀ (n : Nat) (x4 x5 : Int32), X3_free_l16 k μ x1 x2 x3 n x4 x5 = some out → wd_V G (d + 1) RX3 cX3_free 6 (some .int) (fun r u => r = some (.inl out) ∧ u = μ) 16 [some (.inr 9), some (.inl x1), some (.inl x2), some (.inl x3), some (.inl x4), some (.inl x5)] [] μ := by
  intro n
  induction n with
  | zero => intro x4 x5 h; exact absurd h (by unfold X3_free_l16; simp)
  | succ n ih =>
    intro x4 x5 h
    exact t_X3_free_c16 G d hd (X3_free_l16 k μ x1 x2 x3 n) k μ x1 x2 x3 x4 x5  (fun x4 x5 h => ih x4 x5 h) hk h
set_option maxRecDepth 100000 in
set_option maxHeartbeats 4000000 in
theorem t_X3_free_b57 (G : wd_G) (d : Nat) (hd : 1 ≤ d) {out : Int32} (μ : wd_Mem) (x4 : Int32)  (h : X3_free_b57 μ x4 = some out) : wd_V G (d + 1) RX3 cX3_free 6 (some .int) (fun r u => r = some (.inl out) ∧ u = μ) 57 [some (.inr 9), none, none, none, some (.inl x4), none] [] μ := by
  unfold X3_free_b57 at h
  refine wv_iload (pc' := 59) (v := x4) dX3_free_57 rfl rfl ?_
  exact wv_ireturn rfl dX3_free_59 (wd_li h)
set_option maxRecDepth 100000 in
set_option maxHeartbeats 4000000 in
theorem t_X3_free_b0 (G : wd_G) (d : Nat) (hd : 1 ≤ d) {out : Int32} (μ : wd_Mem) (x1 x2 x3 : Int32)  (h : X3_free_b0 μ x1 x2 x3 = some out) : wd_V G (d + 1) RX3 cX3_free 6 (some .int) (fun r u => r = some (.inl out) ∧ u = μ) 0 [some (.inr 9), some (.inl x1), some (.inl x2), some (.inl x3), none, none] [] μ := by
  unfold X3_free_b0 at h
  refine wv_aload_n (pc' := 1) (i := 0) (v := 9) dX3_free_0 rfl rfl rfl ?_
  refine wv_gr (pc' := 4) g_X3_36_9 dX3_free_1 rfl ?_
  refine wv_gi (pc' := 7) g_X3_74_3 dX3_free_4 rfl ?_
  refine wv_iload_n (pc' := 8) (i := 3) (v := x3) dX3_free_7 rfl rfl rfl ?_
  refine wv_iload_n (pc' := 9) (i := 2) (v := x2) dX3_free_8 rfl rfl rfl ?_
  refine wv_isub (pc' := 10) dX3_free_9 rfl ?_
  refine wv_imul (pc' := 11) dX3_free_10 rfl ?_
  refine wv_istore (pc' := 13) (L' := [some (.inr 9), some (.inl x1), some (.inl x2), some (.inl x3), some (.inl ((μ 3 0) * (x3 - x2))), none]) dX3_free_11 (by decide) rfl rfl ?_
  refine wv_iconst (pc' := 14) dX3_free_13 ic_0 rfl ?_
  refine wv_istore (pc' := 16) (L' := [some (.inr 9), some (.inl x1), some (.inl x2), some (.inl x3), some (.inl ((μ 3 0) * (x3 - x2))), some (.inl (0 : Int32))]) dX3_free_14 (by decide) rfl rfl ?_
  exact t_X3_free_l16 G d hd (fun x4 => X3_free_b57 μ x4) μ x1 x2 x3  (fun x4 h => t_X3_free_b57 G d hd μ x4  h) wd_big ((μ 3 0) * (x3 - x2)) (0 : Int32) h
set_option maxRecDepth 100000 in
set_option maxHeartbeats 4000000 in
theorem c_X3_free (G : wd_G) (d : Nat) (hd : 2 ≤ d) {μ : wd_Mem} {x1 x2 x3 : Int32} {out : Int32}  (h : X3_free μ x1 x2 x3 = some out) : wd_C G d yX3_free [.inr 9, .inl x1, .inl x2, .inl x3] μ (fun r u => r = some (.inl out) ∧ u = μ) := by
  obtain ⟨d, rfl⟩ : ∃ e, d = e + 1 := ⟨d - 1, by omega⟩
  refine wd_enter mc_X3_free (by decide) (by decide +kernel) rfl (Nat.le_of_ble_eq_true rfl) (L0 := [some (.inr 9), some (.inl x1), some (.inl x2), some (.inl x3), none, none]) rfl ?_
  exact t_X3_free_b0 G d (by omega) μ x1 x2 x3 h
set_option maxRecDepth 100000 in
set_option maxHeartbeats 4000000 in
theorem t_X3_mostLeft_b0 (G : wd_G) (d : Nat) (hd : 0 ≤ d) {out : Int32} (μ : wd_Mem) (x1 x2 x3 : Int32)  (h : X3_mostLeft_b0 μ x1 x2 x3 = some out) : wd_V G (d + 1) RX3 cX3_mostLeft 5 (some .int) (fun r u => r = some (.inl out) ∧ u = μ) 0 [some (.inr 9), some (.inl x1), some (.inl x2), some (.inl x3), none] [] μ := by
  unfold X3_mostLeft_b0 at h
  refine wv_aload_n (pc' := 1) (i := 0) (v := 9) dX3_mostLeft_0 rfl rfl rfl ?_
  refine wv_gr (pc' := 4) g_X3_36_9 dX3_mostLeft_1 rfl ?_
  refine wv_gr (pc' := 7) g_X3_52_3 dX3_mostLeft_4 rfl ?_
  refine wv_iload_n (pc' := 8) (i := 1) (v := x1) dX3_mostLeft_7 rfl rfl rfl ?_
  obtain ⟨g1, h⟩ := wd_chk_some h
  refine wv_iald (pc' := 9) sa_4 (wd_in_vp g1) dX3_mostLeft_8 rfl ?_
  refine wv_iload_n (pc' := 10) (i := 3) (v := x3) dX3_mostLeft_9 rfl rfl rfl ?_
  refine wv_iload_n (pc' := 11) (i := 2) (v := x2) dX3_mostLeft_10 rfl rfl rfl ?_
  refine wv_isub (pc' := 12) dX3_mostLeft_11 rfl ?_
  refine wv_min (pc' := 15) mm_X3_59 (Nat.le_of_ble_eq_true rfl) dX3_mostLeft_12 rfl ?_
  refine wv_aload_n (pc' := 16) (i := 0) (v := 9) dX3_mostLeft_15 rfl rfl rfl ?_
  refine wv_gr (pc' := 19) g_X3_18_9 dX3_mostLeft_16 rfl ?_
  refine wv_iload_n (pc' := 20) (i := 1) (v := x1) dX3_mostLeft_19 rfl rfl rfl ?_
  refine wv_iald (pc' := 21) sa_12 (wd_in_vp g1) dX3_mostLeft_20 rfl ?_
  refine wv_iload_n (pc' := 22) (i := 2) (v := x2) dX3_mostLeft_21 rfl rfl rfl ?_
  refine wv_isub (pc' := 23) dX3_mostLeft_22 rfl ?_
  refine wv_min (pc' := 26) mm_X3_59 (Nat.le_of_ble_eq_true rfl) dX3_mostLeft_23 rfl ?_
  refine wv_istore (pc' := 28) (L' := [some (.inr 9), some (.inl x1), some (.inl x2), some (.inl x3), some (.inl (if ((μ 12 (Int32.toNatClampNeg x1)) - x2) < (if (x3 - x2) < (μ 4 (Int32.toNatClampNeg x1)) then (x3 - x2) else (μ 4 (Int32.toNatClampNeg x1))) then ((μ 12 (Int32.toNatClampNeg x1)) - x2) else (if (x3 - x2) < (μ 4 (Int32.toNatClampNeg x1)) then (x3 - x2) else (μ 4 (Int32.toNatClampNeg x1)))))]) dX3_mostLeft_26 (by decide) rfl rfl ?_
  refine wv_aload_n (pc' := 29) (i := 0) (v := 9) dX3_mostLeft_28 rfl rfl rfl ?_
  refine wv_gr (pc' := 32) g_X3_36_9 dX3_mostLeft_29 rfl ?_
  refine wv_gr (pc' := 35) g_X3_71_3 dX3_mostLeft_32 rfl ?_
  refine wv_iload_n (pc' := 36) (i := 1) (v := x1) dX3_mostLeft_35 rfl rfl rfl ?_
  refine wv_iald (pc' := 37) sa_5 (wd_in_vp g1) dX3_mostLeft_36 rfl ?_
  refine wv_iconst (pc' := 38) dX3_mostLeft_37 ic_0 rfl ?_
  refine wv_iload (pc' := 40) (v := (if ((μ 12 (Int32.toNatClampNeg x1)) - x2) < (if (x3 - x2) < (μ 4 (Int32.toNatClampNeg x1)) then (x3 - x2) else (μ 4 (Int32.toNatClampNeg x1))) then ((μ 12 (Int32.toNatClampNeg x1)) - x2) else (if (x3 - x2) < (μ 4 (Int32.toNatClampNeg x1)) then (x3 - x2) else (μ 4 (Int32.toNatClampNeg x1))))) dX3_mostLeft_38 rfl rfl ?_
  refine wv_max (pc' := 43) mm_X3_64 (Nat.le_of_ble_eq_true rfl) dX3_mostLeft_40 rfl ?_
  refine wv_imul (pc' := 44) dX3_mostLeft_43 rfl ?_
  exact wv_ireturn rfl dX3_mostLeft_44 (wd_li h)
set_option maxRecDepth 100000 in
set_option maxHeartbeats 4000000 in
theorem c_X3_mostLeft (G : wd_G) (d : Nat) (hd : 1 ≤ d) {μ : wd_Mem} {x1 x2 x3 : Int32} {out : Int32}  (h : X3_mostLeft μ x1 x2 x3 = some out) : wd_C G d yX3_mostLeft [.inr 9, .inl x1, .inl x2, .inl x3] μ (fun r u => r = some (.inl out) ∧ u = μ) := by
  obtain ⟨d, rfl⟩ : ∃ e, d = e + 1 := ⟨d - 1, by omega⟩
  refine wd_enter mc_X3_mostLeft (by decide) (by decide +kernel) rfl (Nat.le_of_ble_eq_true rfl) (L0 := [some (.inr 9), some (.inl x1), some (.inl x2), some (.inl x3), none]) rfl ?_
  exact t_X3_mostLeft_b0 G d (by omega) μ x1 x2 x3 h
set_option maxRecDepth 100000 in
set_option maxHeartbeats 4000000 in
theorem t_X1_bySpan_b87 (G : wd_G) (d : Nat) (hd : 2 ≤ d) {out : wd_Mem} (rec : Int32 → wd_Mem → Option (wd_Mem)) (k : wd_Mem → Option (wd_Mem)) (μ : wd_Mem) (x1 x2 x3 x4 : Int32) (hrec : ∀ (x4 : Int32) (μ : wd_Mem), rec x4 μ = some out → wd_V G (d + 1) RX1 cX1_bySpan 6 none (fun r u => r = none ∧ u = out) 23 [some (.inr 18), some (.inl x1), some (.inl x2), some (.inl x3), some (.inl x4), none] [] μ) (hk : ∀  (μ : wd_Mem), k μ = some out → wd_V G (d + 1) RX1 cX1_bySpan 6 none (fun r u => r = none ∧ u = out) 93 [some (.inr 18), some (.inl x1), some (.inl x2), some (.inl x3), none, none] [] μ) (h : X1_bySpan_b87 rec k μ x1 x2 x3 x4 = some out) : wd_V G (d + 1) RX1 cX1_bySpan 6 none (fun r u => r = none ∧ u = out) 87 [some (.inr 18), some (.inl x1), some (.inl x2), some (.inl x3), some (.inl x4), none] [] μ := by
  unfold X1_bySpan_b87 at h
  refine wv_inc (pc' := 90) (x := x4) (L' := [some (.inr 18), some (.inl x1), some (.inl x2), some (.inl x3), some (.inl (x4 + (1 : Int32))), none]) dX1_bySpan_87 ic_1 rfl (by decide) rfl rfl ?_
  refine wv_goto (pc' := 23) dX1_bySpan_90 (by decide) ?_
  exact hrec _ _ h
set_option maxRecDepth 100000 in
set_option maxHeartbeats 4000000 in
theorem t_X1_bySpan_c23 (G : wd_G) (d : Nat) (hd : 2 ≤ d) {out : wd_Mem} (rec : Int32 → wd_Mem → Option (wd_Mem)) (k : wd_Mem → Option (wd_Mem)) (μ : wd_Mem) (x1 x2 x3 x4 : Int32) (hrec : ∀ (x4 : Int32) (μ : wd_Mem), rec x4 μ = some out → wd_V G (d + 1) RX1 cX1_bySpan 6 none (fun r u => r = none ∧ u = out) 23 [some (.inr 18), some (.inl x1), some (.inl x2), some (.inl x3), some (.inl x4), none] [] μ) (hk : ∀  (μ : wd_Mem), k μ = some out → wd_V G (d + 1) RX1 cX1_bySpan 6 none (fun r u => r = none ∧ u = out) 93 [some (.inr 18), some (.inl x1), some (.inl x2), some (.inl x3), none, none] [] μ) (h : X1_bySpan_c23 rec k μ x1 x2 x3 x4 = some out) : wd_V G (d + 1) RX1 cX1_bySpan 6 none (fun r u => r = none ∧ u = out) 23 [some (.inr 18), some (.inl x1), some (.inl x2), some (.inl x3), some (.inl x4), none] [] μ := by
  unfold X1_bySpan_c23 at h
  refine wv_iload (pc' := 25) (v := x4) dX1_bySpan_23 rfl rfl ?_
  refine wv_bipush (pc' := 27) dX1_bySpan_25 bp_16 rfl ?_
  refine wv_icmp_gt (pc' := 30) (tgt := 93) dX1_bySpan_27 (by decide) rfl (fun c3 => ?_) (fun c3 => ?_)
  · have h := (if_pos c3).symm.trans h
    refine wv_weak (L' := [some (.inr 18), some (.inl x1), some (.inl x2), some (.inl x3), none, none]) ⟨rfl, rfl, rfl, rfl, trivial⟩ ?_
    exact hk _ h
  · have h := (if_neg c3).symm.trans h
    refine wv_aload_n (pc' := 31) (i := 0) (v := 18) dX1_bySpan_30 rfl rfl rfl ?_
    refine wv_gr (pc' := 34) g_X1_22_18 dX1_bySpan_31 rfl ?_
    refine wv_iload_n (pc' := 35) (i := 1) (v := x1) dX1_bySpan_34 rfl rfl rfl ?_
    refine wv_iload_n (pc' := 36) (i := 3) (v := x3) dX1_bySpan_35 rfl rfl rfl ?_
    refine wv_iload (pc' := 38) (v := x4) dX1_bySpan_36 rfl rfl ?_
    obtain ⟨r4, er4, h⟩ := wd_bind_some h
    refine wv_callVi (pc' := 41) (x := r4) (ν := μ) [.inl x1, .inl x3, .inl x4] ml_X1_125 rc_9 rfl (Nat.le_of_ble_eq_true rfl) dX1_bySpan_38 rfl (c_X3_free G d (Nat.le_trans (Nat.le_of_ble_eq_true rfl) hd)  er4) ?_
    refine wv_istore (pc' := 43) (L' := [some (.inr 18), some (.inl x1), some (.inl x2), some (.inl x3), some (.inl x4), some (.inl r4)]) dX1_bySpan_41 (by decide) rfl rfl ?_
    refine wv_iload (pc' := 45) (v := r4) dX1_bySpan_43 rfl rfl ?_
    refine wv_if_lt (pc' := 48) (tgt := 87) dX1_bySpan_45 (by decide) rfl (fun c5 => ?_) (fun c5 => ?_)
    · have h := (if_pos c5).symm.trans h
      refine wv_weak (L' := [some (.inr 18), some (.inl x1), some (.inl x2), some (.inl x3), some (.inl x4), none]) ⟨rfl, rfl, rfl, rfl, rfl, trivial⟩ ?_
      exact t_X1_bySpan_b87 G d hd rec k μ x1 x2 x3 x4 hrec hk h
    · have h := (if_neg c5).symm.trans h
      refine wv_iload_n (pc' := 49) (i := 2) (v := x2) dX1_bySpan_48 rfl rfl rfl ?_
      refine wv_if_le (pc' := 52) (tgt := 87) dX1_bySpan_49 (by decide) rfl (fun c6 => ?_) (fun c6 => ?_)
      · have h := (if_pos c6).symm.trans h
        refine wv_weak (L' := [some (.inr 18), some (.inl x1), some (.inl x2), some (.inl x3), some (.inl x4), none]) ⟨rfl, rfl, rfl, rfl, rfl, trivial⟩ ?_
        exact t_X1_bySpan_b87 G d hd rec k μ x1 x2 x3 x4 hrec hk h
      · have h := (if_neg c6).symm.trans h
        refine wv_aload_n (pc' := 53) (i := 0) (v := 18) dX1_bySpan_52 rfl rfl rfl ?_
        refine wv_gr (pc' := 56) g_X1_22_18 dX1_bySpan_53 rfl ?_
        refine wv_iload_n (pc' := 57) (i := 1) (v := x1) dX1_bySpan_56 rfl rfl rfl ?_
        refine wv_iload_n (pc' := 58) (i := 3) (v := x3) dX1_bySpan_57 rfl rfl rfl ?_
        refine wv_iload (pc' := 60) (v := x4) dX1_bySpan_58 rfl rfl ?_
        obtain ⟨r7, er7, h⟩ := wd_bind_some h
        refine wv_callVi (pc' := 63) (x := r7) (ν := μ) [.inl x1, .inl x3, .inl x4] ml_X1_129 rc_9 rfl (Nat.le_of_ble_eq_true rfl) dX1_bySpan_60 rfl (c_X3_mostLeft G d (Nat.le_trans (Nat.le_of_ble_eq_true rfl) hd)  er7) ?_
        refine wv_iload (pc' := 65) (v := r4) dX1_bySpan_63 rfl rfl ?_
        refine wv_icmp_le (pc' := 68) (tgt := 87) dX1_bySpan_65 (by decide) rfl (fun c8 => ?_) (fun c8 => ?_)
        · have h := (if_pos c8).symm.trans h
          refine wv_weak (L' := [some (.inr 18), some (.inl x1), some (.inl x2), some (.inl x3), some (.inl x4), none]) ⟨rfl, rfl, rfl, rfl, rfl, trivial⟩ ?_
          exact t_X1_bySpan_b87 G d hd rec k μ x1 x2 x3 x4 hrec hk h
        · have h := (if_neg c8).symm.trans h
          refine wv_aload_n (pc' := 69) (i := 0) (v := 18) dX1_bySpan_68 rfl rfl rfl ?_
          refine wv_iload_n (pc' := 70) (i := 1) (v := x1) dX1_bySpan_69 rfl rfl rfl ?_
          refine wv_iload (pc' := 72) (v := x4) dX1_bySpan_70 rfl rfl ?_
          refine wv_iload (pc' := 74) (v := r4) dX1_bySpan_72 rfl rfl ?_
          refine wv_iload_n (pc' := 75) (i := 2) (v := x2) dX1_bySpan_74 rfl rfl rfl ?_
          obtain ⟨g9, h⟩ := wd_chk_some h
          refine wv_idiv (pc' := 76) dX1_bySpan_75 (wd_nz_ne g9) rfl ?_
          refine wv_isub (pc' := 77) dX1_bySpan_76 rfl ?_
          refine wv_bipush (pc' := 79) dX1_bySpan_77 bp_100 rfl ?_
          refine wv_iload_n (pc' := 80) (i := 3) (v := x3) dX1_bySpan_79 rfl rfl rfl ?_
          refine wv_imul (pc' := 81) dX1_bySpan_80 rfl ?_
          refine wv_iload (pc' := 83) (v := x4) dX1_bySpan_81 rfl rfl ?_
          refine wv_iadd (pc' := 84) dX1_bySpan_83 rfl ?_
          obtain ⟨r10, er10, h⟩ := wd_bind_some h
          refine wv_callVv (pc' := 87) (ν := r10) [.inl x1, .inl (x4 - (r4 / x2)), .inl (((100 : Int32) * x3) + x4)] ml_X1_96 rc_18 rfl (Nat.le_of_ble_eq_true rfl) dX1_bySpan_84 rfl (c_X1_tell G d (Nat.le_trans (Nat.le_of_ble_eq_true rfl) hd)  er10) ?_
          refine wv_weak (L' := [some (.inr 18), some (.inl x1), some (.inl x2), some (.inl x3), some (.inl x4), none]) ⟨rfl, rfl, rfl, rfl, rfl, trivial⟩ ?_
          exact t_X1_bySpan_b87 G d hd rec k r10 x1 x2 x3 x4 hrec hk h
set_option maxRecDepth 100000 in
set_option maxHeartbeats 4000000 in
theorem t_X1_bySpan_l23 (G : wd_G) (d : Nat) (hd : 2 ≤ d) {out : wd_Mem} (k : wd_Mem → Option (wd_Mem)) (x1 x2 x3 : Int32) (hk : ∀  (μ : wd_Mem), k μ = some out → wd_V G (d + 1) RX1 cX1_bySpan 6 none (fun r u => r = none ∧ u = out) 93 [some (.inr 18), some (.inl x1), some (.inl x2), some (.inl x3), none, none] [] μ) : ∀ (n : Nat) (x4 : Int32) (μ : wd_Mem), X1_bySpan_l23 k x1 x2 x3 n x4 μ = some out → wd_V G (d + 1) RX1 cX1_bySpan 6 none (fun r u => r = none ∧ u = out) 23 [some (.inr 18), some (.inl x1), some (.inl x2), some (.inl x3), some (.inl x4), none] [] μ := by
  intro n
  induction n with
  | zero => intro x4 μ h; exact absurd h (by unfold X1_bySpan_l23; simp)
  | succ n ih =>
    intro x4 μ h
    exact t_X1_bySpan_c23 G d hd (X1_bySpan_l23 k x1 x2 x3 n) k μ x1 x2 x3 x4  (fun x4 μ h => ih x4 μ h) hk h
set_option maxRecDepth 100000 in
set_option maxHeartbeats 4000000 in
theorem t_X1_bySpan_b93 (G : wd_G) (d : Nat) (hd : 2 ≤ d) {out : wd_Mem} (rec : Int32 → wd_Mem → Option (wd_Mem)) (k : wd_Mem → Option (wd_Mem)) (μ : wd_Mem) (x1 x2 x3 : Int32) (hrec : ∀ (x3 : Int32) (μ : wd_Mem), rec x3 μ = some out → wd_V G (d + 1) RX1 cX1_bySpan 6 none (fun r u => r = none ∧ u = out) 12 [some (.inr 18), some (.inl x1), some (.inl x2), some (.inl x3), none, none] [] μ) (hk : ∀  (μ : wd_Mem), k μ = some out → wd_V G (d + 1) RX1 cX1_bySpan 6 none (fun r u => r = none ∧ u = out) 99 [some (.inr 18), none, none, none, none, none] [] μ) (h : X1_bySpan_b93 rec k μ x1 x2 x3 = some out) : wd_V G (d + 1) RX1 cX1_bySpan 6 none (fun r u => r = none ∧ u = out) 93 [some (.inr 18), some (.inl x1), some (.inl x2), some (.inl x3), none, none] [] μ := by
  unfold X1_bySpan_b93 at h
  refine wv_inc (pc' := 96) (x := x3) (L' := [some (.inr 18), some (.inl x1), some (.inl x2), some (.inl (x3 + (1 : Int32))), none, none]) dX1_bySpan_93 ic_1 rfl (by decide) rfl rfl ?_
  refine wv_goto (pc' := 12) dX1_bySpan_96 (by decide) ?_
  exact hrec _ _ h
set_option maxRecDepth 100000 in
set_option maxHeartbeats 4000000 in
theorem t_X1_bySpan_c12 (G : wd_G) (d : Nat) (hd : 2 ≤ d) {out : wd_Mem} (rec : Int32 → wd_Mem → Option (wd_Mem)) (k : wd_Mem → Option (wd_Mem)) (μ : wd_Mem) (x1 x2 x3 : Int32) (hrec : ∀ (x3 : Int32) (μ : wd_Mem), rec x3 μ = some out → wd_V G (d + 1) RX1 cX1_bySpan 6 none (fun r u => r = none ∧ u = out) 12 [some (.inr 18), some (.inl x1), some (.inl x2), some (.inl x3), none, none] [] μ) (hk : ∀  (μ : wd_Mem), k μ = some out → wd_V G (d + 1) RX1 cX1_bySpan 6 none (fun r u => r = none ∧ u = out) 99 [some (.inr 18), none, none, none, none, none] [] μ) (h : X1_bySpan_c12 rec k μ x1 x2 x3 = some out) : wd_V G (d + 1) RX1 cX1_bySpan 6 none (fun r u => r = none ∧ u = out) 12 [some (.inr 18), some (.inl x1), some (.inl x2), some (.inl x3), none, none] [] μ := by
  unfold X1_bySpan_c12 at h
  refine wv_iload_n (pc' := 13) (i := 3) (v := x3) dX1_bySpan_12 rfl rfl rfl ?_
  refine wv_bipush (pc' := 15) dX1_bySpan_13 bp_16 rfl ?_
  refine wv_icmp_ge (pc' := 18) (tgt := 99) dX1_bySpan_15 (by decide) rfl (fun c2 => ?_) (fun c2 => ?_)
  · have h := (if_pos c2).symm.trans h
    refine wv_weak (L' := [some (.inr 18), none, none, none, none, none]) ⟨rfl, trivial⟩ ?_
    exact hk _ h
  · have h := (if_neg c2).symm.trans h
    refine wv_iload_n (pc' := 19) (i := 3) (v := x3) dX1_bySpan_18 rfl rfl rfl ?_
    refine wv_iconst (pc' := 20) dX1_bySpan_19 ic_1 rfl ?_
    refine wv_iadd (pc' := 21) dX1_bySpan_20 rfl ?_
    refine wv_istore (pc' := 23) (L' := [some (.inr 18), some (.inl x1), some (.inl x2), some (.inl x3), some (.inl (x3 + (1 : Int32))), none]) dX1_bySpan_21 (by decide) rfl rfl ?_
    exact t_X1_bySpan_l23 G d hd (fun μ => X1_bySpan_b93 rec k μ x1 x2 x3) x1 x2 x3  (fun μ h => t_X1_bySpan_b93 G d hd rec k μ x1 x2 x3 hrec hk h) wd_big (x3 + (1 : Int32)) μ h
set_option maxRecDepth 100000 in
set_option maxHeartbeats 4000000 in
theorem t_X1_bySpan_l12 (G : wd_G) (d : Nat) (hd : 2 ≤ d) {out : wd_Mem} (k : wd_Mem → Option (wd_Mem)) (x1 x2 : Int32) (hk : ∀  (μ : wd_Mem), k μ = some out → wd_V G (d + 1) RX1 cX1_bySpan 6 none (fun r u => r = none ∧ u = out) 99 [some (.inr 18), none, none, none, none, none] [] μ) : ∀ (n : Nat) (x3 : Int32) (μ : wd_Mem), X1_bySpan_l12 k x1 x2 n x3 μ = some out → wd_V G (d + 1) RX1 cX1_bySpan 6 none (fun r u => r = none ∧ u = out) 12 [some (.inr 18), some (.inl x1), some (.inl x2), some (.inl x3), none, none] [] μ := by
  intro n
  induction n with
  | zero => intro x3 μ h; exact absurd h (by unfold X1_bySpan_l12; simp)
  | succ n ih =>
    intro x3 μ h
    exact t_X1_bySpan_c12 G d hd (X1_bySpan_l12 k x1 x2 n) k μ x1 x2 x3  (fun x3 μ h => ih x3 μ h) hk h
set_option maxRecDepth 100000 in
set_option maxHeartbeats 4000000 in
theorem t_X1_bySpan_b99 (G : wd_G) (d : Nat) (hd : 2 ≤ d) {out : wd_Mem} (μ : wd_Mem)  (h : X1_bySpan_b99 μ = some out) : wd_V G (d + 1) RX1 cX1_bySpan 6 none (fun r u => r = none ∧ u = out) 99 [some (.inr 18), none, none, none, none, none] [] μ := by
  unfold X1_bySpan_b99 at h
  exact wv_return rfl dX1_bySpan_99 (wd_lv h)
set_option maxRecDepth 100000 in
set_option maxHeartbeats 4000000 in
theorem t_X1_bySpan_b0 (G : wd_G) (d : Nat) (hd : 2 ≤ d) {out : wd_Mem} (μ : wd_Mem) (x1 : Int32)  (h : X1_bySpan_b0 μ x1 = some out) : wd_V G (d + 1) RX1 cX1_bySpan 6 none (fun r u => r = none ∧ u = out) 0 [some (.inr 18), some (.inl x1), none, none, none, none] [] μ := by
  unfold X1_bySpan_b0 at h
  refine wv_aload_n (pc' := 1) (i := 0) (v := 18) dX1_bySpan_0 rfl rfl rfl ?_
  refine wv_gr (pc' := 4) g_X1_18_18 dX1_bySpan_1 rfl ?_
  refine wv_gr (pc' := 7) g_X1_87_3 dX1_bySpan_4 rfl ?_
  refine wv_iload_n (pc' := 8) (i := 1) (v := x1) dX1_bySpan_7 rfl rfl rfl ?_
  obtain ⟨g1, h⟩ := wd_chk_some h
  refine wv_iald (pc' := 9) sa_5 (wd_in_vp g1) dX1_bySpan_8 rfl ?_
  refine wv_istore_n (pc' := 10) (i := 2) (L' := [some (.inr 18), some (.inl x1), some (.inl (μ 5 (Int32.toNatClampNeg x1))), none, none, none]) dX1_bySpan_9 rfl (by decide) rfl rfl ?_
  refine wv_iconst (pc' := 11) dX1_bySpan_10 ic_0 rfl ?_
  refine wv_istore_n (pc' := 12) (i := 3) (L' := [some (.inr 18), some (.inl x1), some (.inl (μ 5 (Int32.toNatClampNeg x1))), some (.inl (0 : Int32)), none, none]) dX1_bySpan_11 rfl (by decide) rfl rfl ?_
  exact t_X1_bySpan_l12 G d hd (fun μ => X1_bySpan_b99 μ) x1 (μ 5 (Int32.toNatClampNeg x1))  (fun μ h => t_X1_bySpan_b99 G d hd μ  h) wd_big (0 : Int32) μ h
set_option maxRecDepth 100000 in
set_option maxHeartbeats 4000000 in
theorem c_X1_bySpan (G : wd_G) (d : Nat) (hd : 3 ≤ d) {μ : wd_Mem} {x1 : Int32} {out : wd_Mem}  (h : X1_bySpan μ x1 = some out) : wd_C G d yX1_bySpan [.inr 18, .inl x1] μ (fun r u => r = none ∧ u = out) := by
  obtain ⟨d, rfl⟩ : ∃ e, d = e + 1 := ⟨d - 1, by omega⟩
  refine wd_enter mc_X1_bySpan (by decide) (by decide +kernel) rfl (Nat.le_of_ble_eq_true rfl) (L0 := [some (.inr 18), some (.inl x1), none, none, none, none]) rfl ?_
  exact t_X1_bySpan_b0 G d (by omega) μ x1 h
set_option maxRecDepth 100000 in
set_option maxHeartbeats 4000000 in
theorem t_X1_tightenSide_b196 (G : wd_G) (d : Nat) (hd : 3 ≤ d) {out : Int32 × wd_Mem} (rec : Int32 → Int32 → wd_Mem → Option (Int32 × wd_Mem)) (k : Int32 → wd_Mem → Option (Int32 × wd_Mem)) (h3 : Nat) (μ : wd_Mem) (x1 x2 x4 x5 : Int32) (w3 : wd_isW h3) (hrec : ∀ (x4 x5 : Int32) (μ : wd_Mem), rec x4 x5 μ = some out → wd_V G (d + 1) RX1 cX1_tightenSide 7 (some .boolean) (fun r u => r = some (.inl out.1) ∧ u = out.2) 15 [some (.inr 18), some (.inl x1), some (.inl x2), some (.inr h3), some (.inl x4), some (.inl x5), none] [] μ) (hk : ∀ (x4 : Int32) (μ : wd_Mem), k x4 μ = some out → wd_V G (d + 1) RX1 cX1_tightenSide 7 (some .boolean) (fun r u => r = some (.inl out.1) ∧ u = out.2) 202 [some (.inr 18), none, none, some (.inr h3), some (.inl x4), none, none] [] μ) (h : X1_tightenSide_b196 rec k h3 μ x1 x2 x4 x5 = some out) : wd_V G (d + 1) RX1 cX1_tightenSide 7 (some .boolean) (fun r u => r = some (.inl out.1) ∧ u = out.2) 196 [some (.inr 18), some (.inl x1), some (.inl x2), some (.inr h3), some (.inl x4), some (.inl x5), none] [] μ := by
  unfold X1_tightenSide_b196 at h
  refine wv_inc (pc' := 199) (x := x5) (L' := [some (.inr 18), some (.inl x1), some (.inl x2), some (.inr h3), some (.inl x4), some (.inl (x5 + (1 : Int32))), none]) dX1_tightenSide_196 ic_1 rfl (by decide) rfl rfl ?_
  refine wv_goto (pc' := 15) dX1_tightenSide_199 (by decide) ?_
  exact hrec _ _ _ h
set_option maxRecDepth 100000 in
set_option maxHeartbeats 4000000 in
theorem t_X1_tightenSide_b182 (G : wd_G) (d : Nat) (hd : 3 ≤ d) {out : Int32 × wd_Mem} (rec : Int32 → Int32 → wd_Mem → Option (Int32 × wd_Mem)) (k : Int32 → wd_Mem → Option (Int32 × wd_Mem)) (h3 : Nat) (μ : wd_Mem) (x1 x2 x5 s1 s2 s3 : Int32) (w3 : wd_isW h3) (hrec : ∀ (x4 x5 : Int32) (μ : wd_Mem), rec x4 x5 μ = some out → wd_V G (d + 1) RX1 cX1_tightenSide 7 (some .boolean) (fun r u => r = some (.inl out.1) ∧ u = out.2) 15 [some (.inr 18), some (.inl x1), some (.inl x2), some (.inr h3), some (.inl x4), some (.inl x5), none] [] μ) (hk : ∀ (x4 : Int32) (μ : wd_Mem), k x4 μ = some out → wd_V G (d + 1) RX1 cX1_tightenSide 7 (some .boolean) (fun r u => r = some (.inl out.1) ∧ u = out.2) 202 [some (.inr 18), none, none, some (.inr h3), some (.inl x4), none, none] [] μ) (h : X1_tightenSide_b182 rec k h3 μ x1 x2 x5 s1 s2 s3 = some out) : wd_V G (d + 1) RX1 cX1_tightenSide 7 (some .boolean) (fun r u => r = some (.inl out.1) ∧ u = out.2) 182 [some (.inr 18), some (.inl x1), some (.inl x2), some (.inr h3), none, some (.inl x5), none] [.inl s3, .inl s2, .inl s1, .inr h3] μ := by
  unfold X1_tightenSide_b182 at h
  refine wv_iload_n (pc' := 183) (i := 1) (v := x1) dX1_tightenSide_182 rfl rfl rfl ?_
  refine wv_aload_n (pc' := 184) (i := 0) (v := 18) dX1_tightenSide_183 rfl rfl rfl ?_
  refine wv_gr (pc' := 187) g_X1_15_18 dX1_tightenSide_184 rfl ?_
  refine wv_iload (pc' := 189) (v := x5) dX1_tightenSide_187 rfl rfl ?_
  obtain ⟨g8, h⟩ := wd_chk_some h
  refine wv_iald (pc' := 190) sa_20 (wd_in_vp g8) dX1_tightenSide_189 rfl ?_
  obtain ⟨r9, er9, h⟩ := wd_bind_some h
  refine wv_callVv (pc' := 193) (ν := r9) [.inl s1, .inl s2, .inl s3, .inl x1, .inl (μ 20 (Int32.toNatClampNeg x5))] ml_X1_77 (wd_rcW w3) rfl (Nat.le_of_ble_eq_true rfl) dX1_tightenSide_190 rfl (c_X6_move G d (Nat.le_trans (Nat.le_of_ble_eq_true rfl) hd) w3 er9) ?_
  refine wv_iconst (pc' := 194) dX1_tightenSide_193 ic_1 rfl ?_
  refine wv_istore (pc' := 196) (L' := [some (.inr 18), some (.inl x1), some (.inl x2), some (.inr h3), some (.inl (1 : Int32)), some (.inl x5), none]) dX1_tightenSide_194 (by decide) rfl rfl ?_
  exact t_X1_tightenSide_b196 G d hd rec k h3 r9 x1 x2 (1 : Int32) x5 w3 hrec hk h
set_option maxRecDepth 100000 in
set_option maxHeartbeats 4000000 in
theorem t_X1_tightenSide_b120 (G : wd_G) (d : Nat) (hd : 3 ≤ d) {out : Int32 × wd_Mem} (rec : Int32 → Int32 → wd_Mem → Option (Int32 × wd_Mem)) (k : Int32 → wd_Mem → Option (Int32 × wd_Mem)) (h3 : Nat) (μ : wd_Mem) (x1 x2 x4 x5 : Int32) (w3 : wd_isW h3) (hrec : ∀ (x4 x5 : Int32) (μ : wd_Mem), rec x4 x5 μ = some out → wd_V G (d + 1) RX1 cX1_tightenSide 7 (some .boolean) (fun r u => r = some (.inl out.1) ∧ u = out.2) 15 [some (.inr 18), some (.inl x1), some (.inl x2), some (.inr h3), some (.inl x4), some (.inl x5), none] [] μ) (hk : ∀ (x4 : Int32) (μ : wd_Mem), k x4 μ = some out → wd_V G (d + 1) RX1 cX1_tightenSide 7 (some .boolean) (fun r u => r = some (.inl out.1) ∧ u = out.2) 202 [some (.inr 18), none, none, some (.inr h3), some (.inl x4), none, none] [] μ) (h : X1_tightenSide_b120 rec k h3 μ x1 x2 x4 x5 = some out) : wd_V G (d + 1) RX1 cX1_tightenSide 7 (some .boolean) (fun r u => r = some (.inl out.1) ∧ u = out.2) 120 [some (.inr 18), some (.inl x1), some (.inl x2), some (.inr h3), some (.inl x4), some (.inl x5), none] [] μ := by
  unfold X1_tightenSide_b120 at h
  refine wv_aload_n (pc' := 121) (i := 0) (v := 18) dX1_tightenSide_120 rfl rfl rfl ?_
  refine wv_gr (pc' := 124) g_X1_9_18 dX1_tightenSide_121 rfl ?_
  refine wv_iload (pc' := 126) (v := x5) dX1_tightenSide_124 rfl rfl ?_
  obtain ⟨g5, h⟩ := wd_chk_some h
  refine wv_iald (pc' := 127) sa_19 (wd_in_vp g5) dX1_tightenSide_126 rfl ?_
  refine wv_aload_n (pc' := 128) (i := 0) (v := 18) dX1_tightenSide_127 rfl rfl rfl ?_
  refine wv_gr (pc' := 131) g_X1_22_18 dX1_tightenSide_128 rfl ?_
  refine wv_gr (pc' := 134) g_X1_52_9 dX1_tightenSide_131 rfl ?_
  refine wv_iload (pc' := 136) (v := x5) dX1_tightenSide_134 rfl rfl ?_
  refine wv_iald (pc' := 137) sa_10 (wd_in_vp g5) dX1_tightenSide_136 rfl ?_
  refine wv_icmp_le (pc' := 140) (tgt := 196) dX1_tightenSide_137 (by decide) rfl (fun c6 => ?_) (fun c6 => ?_)
  · have h := (if_pos c6).symm.trans h
    exact t_X1_tightenSide_b196 G d hd rec k h3 μ x1 x2 x4 x5 w3 hrec hk h
  · have h := (if_neg c6).symm.trans h
    refine wv_aload_n (pc' := 141) (i := 0) (v := 18) dX1_tightenSide_140 rfl rfl rfl ?_
    refine wv_gr (pc' := 144) g_X1_9_18 dX1_tightenSide_141 rfl ?_
    refine wv_iload (pc' := 146) (v := x5) dX1_tightenSide_144 rfl rfl ?_
    refine wv_iald (pc' := 147) sa_19 (wd_in_vp g5) dX1_tightenSide_146 rfl ?_
    refine wv_aload_n (pc' := 148) (i := 0) (v := 18) dX1_tightenSide_147 rfl rfl rfl ?_
    refine wv_gr (pc' := 151) g_X1_22_18 dX1_tightenSide_148 rfl ?_
    refine wv_gr (pc' := 154) g_X1_68_9 dX1_tightenSide_151 rfl ?_
    refine wv_iload (pc' := 156) (v := x5) dX1_tightenSide_154 rfl rfl ?_
    refine wv_iald (pc' := 157) sa_13 (wd_in_vp g5) dX1_tightenSide_156 rfl ?_
    refine wv_iconst (pc' := 158) dX1_tightenSide_157 ic_1 rfl ?_
    refine wv_iadd (pc' := 159) dX1_tightenSide_158 rfl ?_
    refine wv_min (pc' := 162) mm_X1_71 (Nat.le_of_ble_eq_true rfl) dX1_tightenSide_159 rfl ?_
    refine wv_istore (pc' := 164) (L' := [some (.inr 18), some (.inl x1), some (.inl x2), some (.inr h3), some (.inl x4), some (.inl x5), some (.inl (if ((μ 13 (Int32.toNatClampNeg x5)) + (1 : Int32)) < (μ 19 (Int32.toNatClampNeg x5)) then ((μ 13 (Int32.toNatClampNeg x5)) + (1 : Int32)) else (μ 19 (Int32.toNatClampNeg x5))))]) dX1_tightenSide_162 (by decide) rfl rfl ?_
    refine wv_aload_n (pc' := 165) (i := 3) (v := h3) dX1_tightenSide_164 rfl rfl rfl ?_
    refine wv_iload (pc' := 167) (v := x5) dX1_tightenSide_165 rfl rfl ?_
    refine wv_iload_n (pc' := 168) (i := 2) (v := x2) dX1_tightenSide_167 rfl rfl rfl ?_
    refine wv_iload_n (pc' := 169) (i := 2) (v := x2) dX1_tightenSide_168 rfl rfl rfl ?_
    refine wv_if_ne (pc' := 172) (tgt := 177) dX1_tightenSide_169 (by decide) rfl (fun c7 => ?_) (fun c7 => ?_)
    · have h := (if_neg c7).symm.trans h
      refine wv_bipush (pc' := 179) dX1_tightenSide_177 bp_16 rfl ?_
      refine wv_iload (pc' := 181) (v := (if ((μ 13 (Int32.toNatClampNeg x5)) + (1 : Int32)) < (μ 19 (Int32.toNatClampNeg x5)) then ((μ 13 (Int32.toNatClampNeg x5)) + (1 : Int32)) else (μ 19 (Int32.toNatClampNeg x5)))) dX1_tightenSide_179 rfl rfl ?_
      refine wv_isub (pc' := 182) dX1_tightenSide_181 rfl ?_
      refine wv_weak (L' := [some (.inr 18), some (.inl x1), some (.inl x2), some (.inr h3), none, some (.inl x5), none]) ⟨rfl, rfl, rfl, rfl, rfl, trivial⟩ ?_
      exact t_X1_tightenSide_b182 G d hd rec k h3 μ x1 x2 x5 x5 x2 ((16 : Int32) - (if ((μ 13 (Int32.toNatClampNeg x5)) + (1 : Int32)) < (μ 19 (Int32.toNatClampNeg x5)) then ((μ 13 (Int32.toNatClampNeg x5)) + (1 : Int32)) else (μ 19 (Int32.toNatClampNeg x5)))) w3 hrec hk h
    · have h := (if_pos c7).symm.trans h
      refine wv_iload (pc' := 174) (v := (if ((μ 13 (Int32.toNatClampNeg x5)) + (1 : Int32)) < (μ 19 (Int32.toNatClampNeg x5)) then ((μ 13 (Int32.toNatClampNeg x5)) + (1 : Int32)) else (μ 19 (Int32.toNatClampNeg x5)))) dX1_tightenSide_172 rfl rfl ?_
      refine wv_goto (pc' := 182) dX1_tightenSide_174 (by decide) ?_
      refine wv_weak (L' := [some (.inr 18), some (.inl x1), some (.inl x2), some (.inr h3), none, some (.inl x5), none]) ⟨rfl, rfl, rfl, rfl, rfl, trivial⟩ ?_
      exact t_X1_tightenSide_b182 G d hd rec k h3 μ x1 x2 x5 x5 x2 (if ((μ 13 (Int32.toNatClampNeg x5)) + (1 : Int32)) < (μ 19 (Int32.toNatClampNeg x5)) then ((μ 13 (Int32.toNatClampNeg x5)) + (1 : Int32)) else (μ 19 (Int32.toNatClampNeg x5))) w3 hrec hk h
set_option maxRecDepth 100000 in
set_option maxHeartbeats 4000000 in
theorem t_X1_tightenSide_c15 (G : wd_G) (d : Nat) (hd : 3 ≤ d) {out : Int32 × wd_Mem} (rec : Int32 → Int32 → wd_Mem → Option (Int32 × wd_Mem)) (k : Int32 → wd_Mem → Option (Int32 × wd_Mem)) (h3 : Nat) (μ : wd_Mem) (x1 x2 x4 x5 : Int32) (w3 : wd_isW h3) (hrec : ∀ (x4 x5 : Int32) (μ : wd_Mem), rec x4 x5 μ = some out → wd_V G (d + 1) RX1 cX1_tightenSide 7 (some .boolean) (fun r u => r = some (.inl out.1) ∧ u = out.2) 15 [some (.inr 18), some (.inl x1), some (.inl x2), some (.inr h3), some (.inl x4), some (.inl x5), none] [] μ) (hk : ∀ (x4 : Int32) (μ : wd_Mem), k x4 μ = some out → wd_V G (d + 1) RX1 cX1_tightenSide 7 (some .boolean) (fun r u => r = some (.inl out.1) ∧ u = out.2) 202 [some (.inr 18), none, none, some (.inr h3), some (.inl x4), none, none] [] μ) (h : X1_tightenSide_c15 rec k h3 μ x1 x2 x4 x5 = some out) : wd_V G (d + 1) RX1 cX1_tightenSide 7 (some .boolean) (fun r u => r = some (.inl out.1) ∧ u = out.2) 15 [some (.inr 18), some (.inl x1), some (.inl x2), some (.inr h3), some (.inl x4), some (.inl x5), none] [] μ := by
  unfold X1_tightenSide_c15 at h
  refine wv_iload (pc' := 17) (v := x5) dX1_tightenSide_15 rfl rfl ?_
  refine wv_aload_n (pc' := 18) (i := 0) (v := 18) dX1_tightenSide_17 rfl rfl rfl ?_
  refine wv_gr (pc' := 21) g_X1_18_18 dX1_tightenSide_18 rfl ?_
  refine wv_gi (pc' := 24) g_X1_46_3 dX1_tightenSide_21 rfl ?_
  refine wv_icmp_ge (pc' := 27) (tgt := 202) dX1_tightenSide_24 (by decide) rfl (fun c2 => ?_) (fun c2 => ?_)
  · have h := (if_pos c2).symm.trans h
    refine wv_weak (L' := [some (.inr 18), none, none, some (.inr h3), some (.inl x4), none, none]) ⟨rfl, rfl, rfl, trivial⟩ ?_
    exact hk _ _ h
  · have h := (if_neg c2).symm.trans h
    refine wv_aload_n (pc' := 28) (i := 0) (v := 18) dX1_tightenSide_27 rfl rfl rfl ?_
    refine wv_gr (pc' := 31) g_X1_9_18 dX1_tightenSide_28 rfl ?_
    refine wv_iload (pc' := 33) (v := x5) dX1_tightenSide_31 rfl rfl ?_
    refine wv_aload_n (pc' := 34) (i := 0) (v := 18) dX1_tightenSide_33 rfl rfl rfl ?_
    refine wv_gr (pc' := 37) g_X1_22_18 dX1_tightenSide_34 rfl ?_
    refine wv_gr (pc' := 40) g_X1_52_9 dX1_tightenSide_37 rfl ?_
    refine wv_iload (pc' := 42) (v := x5) dX1_tightenSide_40 rfl rfl ?_
    obtain ⟨g3, h⟩ := wd_chk_some h
    refine wv_iald (pc' := 43) sa_10 (wd_in_vp g3) dX1_tightenSide_42 rfl ?_
    refine wv_iast (pc' := 44) sa_19 (wd_in_vp g3) dX1_tightenSide_43 rfl ?_
    refine wv_aload_n (pc' := 45) (i := 0) (v := 18) dX1_tightenSide_44 rfl rfl rfl ?_
    refine wv_gr (pc' := 48) g_X1_15_18 dX1_tightenSide_45 rfl ?_
    refine wv_iload (pc' := 50) (v := x5) dX1_tightenSide_48 rfl rfl ?_
    refine wv_iconst (pc' := 51) dX1_tightenSide_50 ic_0 rfl ?_
    refine wv_iast (pc' := 52) sa_20 (wd_in_vp g3) dX1_tightenSide_51 rfl ?_
    refine wv_iload_n (pc' := 53) (i := 1) (v := x1) dX1_tightenSide_52 rfl rfl rfl ?_
    by_cases n53_0 : x1 = nI 0
    · have h := (if_pos n53_0).symm.trans h
      refine wv_case (i := 0) (tgt := 84) dX1_tightenSide_53 n53_0 (by decide) (by decide) rfl (by decide) ?_
      refine wv_aload_n (pc' := 85) (i := 0) (v := 18) dX1_tightenSide_84 rfl rfl rfl ?_
      refine wv_iload (pc' := 87) (v := x5) dX1_tightenSide_85 rfl rfl ?_
      obtain ⟨r4, er4, h⟩ := wd_bind_some h
      refine wv_callVv (pc' := 90) (ν := r4) [.inl x5] ml_X1_55 rc_18 rfl (Nat.le_of_ble_eq_true rfl) dX1_tightenSide_87 rfl (c_X1_byMust G d (Nat.le_trans (Nat.le_of_ble_eq_true rfl) hd)  er4) ?_
      refine wv_goto (pc' := 120) dX1_tightenSide_90 (by decide) ?_
      exact t_X1_tightenSide_b120 G d hd rec k h3 r4 x1 x2 x4 x5 w3 hrec hk h
    · have h := (if_neg n53_0).symm.trans h
      by_cases n53_1 : x1 = nI 1
      · have h := (if_pos n53_1).symm.trans h
        refine wv_case (i := 1) (tgt := 93) dX1_tightenSide_53 n53_1 (by decide) (by decide) rfl (by decide) ?_
        refine wv_aload_n (pc' := 94) (i := 0) (v := 18) dX1_tightenSide_93 rfl rfl rfl ?_
        refine wv_iload (pc' := 96) (v := x5) dX1_tightenSide_94 rfl rfl ?_
        obtain ⟨r10, er10, h⟩ := wd_bind_some h
        refine wv_callVv (pc' := 99) (ν := r10) [.inl x5] ml_X1_59 rc_18 rfl (Nat.le_of_ble_eq_true rfl) dX1_tightenSide_96 rfl (c_X1_byEdge G d (Nat.le_trans (Nat.le_of_ble_eq_true rfl) hd)  er10) ?_
        refine wv_goto (pc' := 120) dX1_tightenSide_99 (by decide) ?_
        exact t_X1_tightenSide_b120 G d hd rec k h3 r10 x1 x2 x4 x5 w3 hrec hk h
      · have h := (if_neg n53_1).symm.trans h
        by_cases n53_2 : x1 = nI 2
        · have h := (if_pos n53_2).symm.trans h
          refine wv_case (i := 2) (tgt := 102) dX1_tightenSide_53 n53_2 (by decide) (by decide) rfl (by decide) ?_
          refine wv_aload_n (pc' := 103) (i := 0) (v := 18) dX1_tightenSide_102 rfl rfl rfl ?_
          refine wv_iload (pc' := 105) (v := x5) dX1_tightenSide_103 rfl rfl ?_
          obtain ⟨r11, er11, h⟩ := wd_bind_some h
          refine wv_callVv (pc' := 108) (ν := r11) [.inl x5] ml_X1_62 rc_18 rfl (Nat.le_of_ble_eq_true rfl) dX1_tightenSide_105 rfl (c_X1_byFirst G d (Nat.le_trans (Nat.le_of_ble_eq_true rfl) hd)  er11) ?_
          refine wv_goto (pc' := 120) dX1_tightenSide_108 (by decide) ?_
          exact t_X1_tightenSide_b120 G d hd rec k h3 r11 x1 x2 x4 x5 w3 hrec hk h
        · have h := (if_neg n53_2).symm.trans h
          by_cases n53_3 : x1 = nI 3
          · have h := (if_pos n53_3).symm.trans h
            refine wv_case (i := 3) (tgt := 111) dX1_tightenSide_53 n53_3 (by decide) (by decide) rfl (by decide) ?_
            refine wv_aload_n (pc' := 112) (i := 0) (v := 18) dX1_tightenSide_111 rfl rfl rfl ?_
            refine wv_iload (pc' := 114) (v := x5) dX1_tightenSide_112 rfl rfl ?_
            obtain ⟨r12, er12, h⟩ := wd_bind_some h
            refine wv_callVv (pc' := 117) (ν := r12) [.inl x5] ml_X1_65 rc_18 rfl (Nat.le_of_ble_eq_true rfl) dX1_tightenSide_114 rfl (c_X1_bySpan G d (Nat.le_trans (Nat.le_of_ble_eq_true rfl) hd)  er12) ?_
            refine wv_goto (pc' := 120) dX1_tightenSide_117 (by decide) ?_
            exact t_X1_tightenSide_b120 G d hd rec k h3 r12 x1 x2 x4 x5 w3 hrec hk h
          · have h := (if_neg n53_3).symm.trans h
            refine wv_dflt (N := 4) (tgt := 120) dX1_tightenSide_53 (by decide) (fun i hi => by
              rcases (show i = 0 ∨ i = 1 ∨ i = 2 ∨ i = 3 by omega) with rfl|rfl|rfl|rfl
              · exact n53_0
              · exact n53_1
              · exact n53_2
              · exact n53_3) (by decide) ?_
            exact t_X1_tightenSide_b120 G d hd rec k h3 (mset (mset μ 19 (Int32.toNatClampNeg x5) (μ 10 (Int32.toNatClampNeg x5))) 20 (Int32.toNatClampNeg x5) (0 : Int32)) x1 x2 x4 x5 w3 hrec hk h
set_option maxRecDepth 100000 in
set_option maxHeartbeats 4000000 in
theorem t_X1_tightenSide_l15 (G : wd_G) (d : Nat) (hd : 3 ≤ d) {out : Int32 × wd_Mem} (k : Int32 → wd_Mem → Option (Int32 × wd_Mem)) (h3 : Nat) (x1 x2 : Int32) (w3 : wd_isW h3) (hk : ∀ (x4 : Int32) (μ : wd_Mem), k x4 μ = some out → wd_V G (d + 1) RX1 cX1_tightenSide 7 (some .boolean) (fun r u => r = some (.inl out.1) ∧ u = out.2) 202 [some (.inr 18), none, none, some (.inr h3), some (.inl x4), none, none] [] μ) : ∀ (n : Nat) (x4 x5 : Int32) (μ : wd_Mem), X1_tightenSide_l15 k h3 x1 x2 n x4 x5 μ = some out → wd_V G (d + 1) RX1 cX1_tightenSide 7 (some .boolean) (fun r u => r = some (.inl out.1) ∧ u = out.2) 15 [some (.inr 18), some (.inl x1), some (.inl x2), some (.inr h3), some (.inl x4), some (.inl x5), none] [] μ := by
  intro n
  induction n with
  | zero => intro x4 x5 μ h; exact absurd h (by unfold X1_tightenSide_l15; simp)
  | succ n ih =>
    intro x4 x5 μ h
    exact t_X1_tightenSide_c15 G d hd (X1_tightenSide_l15 k h3 x1 x2 n) k h3 μ x1 x2 x4 x5 w3 (fun x4 x5 μ h => ih x4 x5 μ h) hk h
set_option maxRecDepth 100000 in
set_option maxHeartbeats 4000000 in
theorem t_X1_tightenSide_b202 (G : wd_G) (d : Nat) (hd : 3 ≤ d) {out : Int32 × wd_Mem} (h3 : Nat) (μ : wd_Mem) (x4 : Int32) (w3 : wd_isW h3) (h : X1_tightenSide_b202 h3 μ x4 = some out) : wd_V G (d + 1) RX1 cX1_tightenSide 7 (some .boolean) (fun r u => r = some (.inl out.1) ∧ u = out.2) 202 [some (.inr 18), none, none, some (.inr h3), some (.inl x4), none, none] [] μ := by
  unfold X1_tightenSide_b202 at h
  refine wv_iload (pc' := 204) (v := x4) dX1_tightenSide_202 rfl rfl ?_
  obtain ⟨g13, h⟩ := wd_chk_some h
  exact wv_zreturn rfl (wd_bit_ok g13) dX1_tightenSide_204 (wd_liv h)
set_option maxRecDepth 100000 in
set_option maxHeartbeats 4000000 in
theorem t_X1_tightenSide_b0 (G : wd_G) (d : Nat) (hd : 3 ≤ d) {out : Int32 × wd_Mem} (h3 : Nat) (μ : wd_Mem) (x1 x2 : Int32) (w3 : wd_isW h3) (h : X1_tightenSide_b0 h3 μ x1 x2 = some out) : wd_V G (d + 1) RX1 cX1_tightenSide 7 (some .boolean) (fun r u => r = some (.inl out.1) ∧ u = out.2) 0 [some (.inr 18), some (.inl x1), some (.inl x2), some (.inr h3), none, none, none] [] μ := by
  unfold X1_tightenSide_b0 at h
  refine wv_aload_n (pc' := 1) (i := 0) (v := 18) dX1_tightenSide_0 rfl rfl rfl ?_
  refine wv_gr (pc' := 4) g_X1_22_18 dX1_tightenSide_1 rfl ?_
  refine wv_aload_n (pc' := 5) (i := 3) (v := h3) dX1_tightenSide_4 rfl rfl rfl ?_
  refine wv_iload_n (pc' := 6) (i := 2) (v := x2) dX1_tightenSide_5 rfl rfl rfl ?_
  obtain ⟨r1, er1, h⟩ := wd_bind_some h
  refine wv_callVv (pc' := 9) (ν := r1) [.inr h3, .inl x2] ml_X1_40 rc_9 rfl (Nat.le_of_ble_eq_true rfl) dX1_tightenSide_6 rfl (c_X3_look G d (Nat.le_trans (Nat.le_of_ble_eq_true rfl) hd) w3 er1) ?_
  refine wv_iconst (pc' := 10) dX1_tightenSide_9 ic_0 rfl ?_
  refine wv_istore (pc' := 12) (L' := [some (.inr 18), some (.inl x1), some (.inl x2), some (.inr h3), some (.inl (0 : Int32)), none, none]) dX1_tightenSide_10 (by decide) rfl rfl ?_
  refine wv_iconst (pc' := 13) dX1_tightenSide_12 ic_0 rfl ?_
  refine wv_istore (pc' := 15) (L' := [some (.inr 18), some (.inl x1), some (.inl x2), some (.inr h3), some (.inl (0 : Int32)), some (.inl (0 : Int32)), none]) dX1_tightenSide_13 (by decide) rfl rfl ?_
  exact t_X1_tightenSide_l15 G d hd (fun x4 μ => X1_tightenSide_b202 h3 μ x4) h3 x1 x2 w3 (fun x4 μ h => t_X1_tightenSide_b202 G d hd h3 μ x4 w3 h) wd_big (0 : Int32) (0 : Int32) r1 h
set_option maxRecDepth 100000 in
set_option maxHeartbeats 4000000 in
theorem c_X1_tightenSide (G : wd_G) (d : Nat) (hd : 4 ≤ d) {h3 : Nat} {μ : wd_Mem} {x1 x2 : Int32} {out : Int32 × wd_Mem} (w3 : wd_isW h3) (h : X1_tightenSide h3 μ x1 x2 = some out) : wd_C G d yX1_tightenSide [.inr 18, .inl x1, .inl x2, .inr h3] μ (fun r u => r = some (.inl out.1) ∧ u = out.2) := by
  obtain ⟨d, rfl⟩ : ∃ e, d = e + 1 := ⟨d - 1, by omega⟩
  refine wd_enter mc_X1_tightenSide (by decide) (by decide +kernel) rfl (Nat.le_of_ble_eq_true rfl) (L0 := [some (.inr 18), some (.inl x1), some (.inl x2), some (.inr h3), none, none, none]) rfl ?_
  exact t_X1_tightenSide_b0 G d (by omega) h3 μ x1 x2 w3 h
set_option maxRecDepth 100000 in
set_option maxHeartbeats 4000000 in
theorem t_X1_tighten_b39 (G : wd_G) (d : Nat) (hd : 4 ≤ d) {out : Int32 × wd_Mem} (h2 : Nat) (μ : wd_Mem) (w2 : wd_isW h2) (h : X1_tighten_b39 h2 μ = some out) : wd_V G (d + 1) RX1 cX1_tighten 5 (some .boolean) (fun r u => r = some (.inl out.1) ∧ u = out.2) 39 [some (.inr 18), none, some (.inr h2), none, none] [] μ := by
  unfold X1_tighten_b39 at h
  refine wv_iconst (pc' := 40) dX1_tighten_39 ic_1 rfl ?_
  refine wv_goto (pc' := 44) dX1_tighten_40 (by decide) ?_
  exact wv_zreturn rfl rfl dX1_tighten_44 (wd_liv h)
set_option maxRecDepth 100000 in
set_option maxHeartbeats 4000000 in
theorem t_X1_tighten_b0 (G : wd_G) (d : Nat) (hd : 4 ≤ d) {out : Int32 × wd_Mem} (h2 : Nat) (μ : wd_Mem) (x1 : Int32) (w2 : wd_isW h2) (h : X1_tighten_b0 h2 μ x1 = some out) : wd_V G (d + 1) RX1 cX1_tighten 5 (some .boolean) (fun r u => r = some (.inl out.1) ∧ u = out.2) 0 [some (.inr 18), some (.inl x1), some (.inr h2), none, none] [] μ := by
  unfold X1_tighten_b0 at h
  refine wv_aload_n (pc' := 1) (i := 0) (v := 18) dX1_tighten_0 rfl rfl rfl ?_
  refine wv_iload_n (pc' := 2) (i := 1) (v := x1) dX1_tighten_1 rfl rfl rfl ?_
  refine wv_iconst (pc' := 3) dX1_tighten_2 ic_0 rfl ?_
  refine wv_aload_n (pc' := 4) (i := 2) (v := h2) dX1_tighten_3 rfl rfl rfl ?_
  obtain ⟨r1, er1, h⟩ := wd_bind_some h
  refine wv_callVi (pc' := 7) (x := r1.1) (ν := r1.2) [.inl x1, .inl (0 : Int32), .inr h2] ml_X1_36 rc_18 rfl (Nat.le_of_ble_eq_true rfl) dX1_tighten_4 rfl (c_X1_tightenSide G d (Nat.le_trans (Nat.le_of_ble_eq_true rfl) hd) w2 er1) ?_
  refine wv_istore_n (pc' := 8) (i := 3) (L' := [some (.inr 18), some (.inl x1), some (.inr h2), some (.inl r1.1), none]) dX1_tighten_7 rfl (by decide) rfl rfl ?_
  refine wv_aload_n (pc' := 9) (i := 2) (v := h2) dX1_tighten_8 rfl rfl rfl ?_
  refine wv_aload_n (pc' := 10) (i := 0) (v := 18) dX1_tighten_9 rfl rfl rfl ?_
  refine wv_gr (pc' := 13) g_X1_18_18 dX1_tighten_10 rfl ?_
  obtain ⟨r2, er2, h⟩ := wd_bind_some h
  refine wv_callVi (pc' := 16) (x := r2) (ν := r1.2) [.inr 3] ml_X1_26 (wd_rcW w2) rfl (Nat.le_of_ble_eq_true rfl) dX1_tighten_13 rfl (c_X6_isBroken G d (Nat.le_trans (Nat.le_of_ble_eq_true rfl) hd) w2 (Or.inl rfl) er2) ?_
  refine wv_if_eq (pc' := 19) (tgt := 21) dX1_tighten_16 (by decide) rfl (fun c3 => ?_) (fun c3 => ?_)
  · have h := (if_pos c3).symm.trans h
    refine wv_aload_n (pc' := 22) (i := 0) (v := 18) dX1_tighten_21 rfl rfl rfl ?_
    refine wv_iload_n (pc' := 23) (i := 1) (v := x1) dX1_tighten_22 rfl rfl rfl ?_
    refine wv_iconst (pc' := 24) dX1_tighten_23 ic_1 rfl ?_
    refine wv_aload_n (pc' := 25) (i := 2) (v := h2) dX1_tighten_24 rfl rfl rfl ?_
    obtain ⟨r4, er4, h⟩ := wd_bind_some h
    refine wv_callVi (pc' := 28) (x := r4.1) (ν := r4.2) [.inl x1, .inl (1 : Int32), .inr h2] ml_X1_36 rc_18 rfl (Nat.le_of_ble_eq_true rfl) dX1_tighten_25 rfl (c_X1_tightenSide G d (Nat.le_trans (Nat.le_of_ble_eq_true rfl) hd) w2 er4) ?_
    refine wv_istore (pc' := 30) (L' := [some (.inr 18), some (.inl x1), some (.inr h2), some (.inl r1.1), some (.inl r4.1)]) dX1_tighten_28 (by decide) rfl rfl ?_
    refine wv_iload_n (pc' := 31) (i := 3) (v := r1.1) dX1_tighten_30 rfl rfl rfl ?_
    refine wv_if_ne (pc' := 34) (tgt := 39) dX1_tighten_31 (by decide) rfl (fun c5 => ?_) (fun c5 => ?_)
    · have h := (if_neg c5).symm.trans h
      refine wv_weak (L' := [some (.inr 18), none, some (.inr h2), none, none]) ⟨rfl, rfl, trivial⟩ ?_
      exact t_X1_tighten_b39 G d hd h2 r4.2 w2 h
    · have h := (if_pos c5).symm.trans h
      refine wv_iload (pc' := 36) (v := r4.1) dX1_tighten_34 rfl rfl ?_
      refine wv_if_eq (pc' := 39) (tgt := 43) dX1_tighten_36 (by decide) rfl (fun c6 => ?_) (fun c6 => ?_)
      · have h := (if_pos c6).symm.trans h
        refine wv_iconst (pc' := 44) dX1_tighten_43 ic_0 rfl ?_
        exact wv_zreturn rfl rfl dX1_tighten_44 (wd_liv h)
      · have h := (if_neg c6).symm.trans h
        refine wv_weak (L' := [some (.inr 18), none, some (.inr h2), none, none]) ⟨rfl, rfl, trivial⟩ ?_
        exact t_X1_tighten_b39 G d hd h2 r4.2 w2 h
  · have h := (if_neg c3).symm.trans h
    refine wv_iload_n (pc' := 20) (i := 3) (v := r1.1) dX1_tighten_19 rfl rfl rfl ?_
    obtain ⟨g7, h⟩ := wd_chk_some h
    exact wv_zreturn rfl (wd_bit_ok g7) dX1_tighten_20 (wd_liv h)
set_option maxRecDepth 100000 in
set_option maxHeartbeats 4000000 in
theorem c_X1_tighten (G : wd_G) (d : Nat) (hd : 5 ≤ d) {h2 : Nat} {μ : wd_Mem} {x1 : Int32} {out : Int32 × wd_Mem} (w2 : wd_isW h2) (h : X1_tighten h2 μ x1 = some out) : wd_C G d yX1_tighten [.inr 18, .inl x1, .inr h2] μ (fun r u => r = some (.inl out.1) ∧ u = out.2) := by
  obtain ⟨d, rfl⟩ : ∃ e, d = e + 1 := ⟨d - 1, by omega⟩
  refine wd_enter mc_X1_tighten (by decide) (by decide +kernel) rfl (Nat.le_of_ble_eq_true rfl) (L0 := [some (.inr 18), some (.inl x1), some (.inr h2), none, none]) rfl ?_
  exact t_X1_tighten_b0 G d (by omega) h2 μ x1 w2 h
set_option maxRecDepth 100000 in
set_option maxHeartbeats 4000000 in
theorem t_X1_tightenByAll_b46 (G : wd_G) (d : Nat) (hd : 5 ≤ d) {out : wd_Mem} (rec : Int32 → Int32 → wd_Mem → Option (wd_Mem)) (k : wd_Mem → Option (wd_Mem)) (h1 : Nat) (μ : wd_Mem) (x3 s0 : Int32) (w1 : wd_isW h1) (hrec : ∀ (x2 x3 : Int32) (μ : wd_Mem), rec x2 x3 μ = some out → wd_V G (d + 1) RX1 cX1_tightenByAll 4 none (fun r u => r = none ∧ u = out) 4 [some (.inr 18), some (.inr h1), some (.inl x2), some (.inl x3)] [] μ) (hk : ∀  (μ : wd_Mem), k μ = some out → wd_V G (d + 1) RX1 cX1_tightenByAll 4 none (fun r u => r = none ∧ u = out) 53 [some (.inr 18), some (.inr h1), none, none] [] μ) (h : X1_tightenByAll_b46 rec k h1 μ x3 s0 = some out) : wd_V G (d + 1) RX1 cX1_tightenByAll 4 none (fun r u => r = none ∧ u = out) 46 [some (.inr 18), some (.inr h1), none, some (.inl x3)] [.inl s0] μ := by
  unfold X1_tightenByAll_b46 at h
  refine wv_istore_n (pc' := 47) (i := 2) (L' := [some (.inr 18), some (.inr h1), some (.inl s0), some (.inl x3)]) dX1_tightenByAll_46 rfl (by decide) rfl rfl ?_
  refine wv_inc (pc' := 50) (x := x3) (L' := [some (.inr 18), some (.inr h1), some (.inl s0), some (.inl (x3 + (1 : Int32)))]) dX1_tightenByAll_47 ic_1 rfl (by decide) rfl rfl ?_
  refine wv_goto (pc' := 4) dX1_tightenByAll_50 (by decide) ?_
  exact hrec _ _ _ h
set_option maxRecDepth 100000 in
set_option maxHeartbeats 4000000 in
theorem t_X1_tightenByAll_c4 (G : wd_G) (d : Nat) (hd : 5 ≤ d) {out : wd_Mem} (rec : Int32 → Int32 → wd_Mem → Option (wd_Mem)) (k : wd_Mem → Option (wd_Mem)) (h1 : Nat) (μ : wd_Mem) (x2 x3 : Int32) (w1 : wd_isW h1) (hrec : ∀ (x2 x3 : Int32) (μ : wd_Mem), rec x2 x3 μ = some out → wd_V G (d + 1) RX1 cX1_tightenByAll 4 none (fun r u => r = none ∧ u = out) 4 [some (.inr 18), some (.inr h1), some (.inl x2), some (.inl x3)] [] μ) (hk : ∀  (μ : wd_Mem), k μ = some out → wd_V G (d + 1) RX1 cX1_tightenByAll 4 none (fun r u => r = none ∧ u = out) 53 [some (.inr 18), some (.inr h1), none, none] [] μ) (h : X1_tightenByAll_c4 rec k h1 μ x2 x3 = some out) : wd_V G (d + 1) RX1 cX1_tightenByAll 4 none (fun r u => r = none ∧ u = out) 4 [some (.inr 18), some (.inr h1), some (.inl x2), some (.inl x3)] [] μ := by
  unfold X1_tightenByAll_c4 at h
  refine wv_iload_n (pc' := 5) (i := 3) (v := x3) dX1_tightenByAll_4 rfl rfl rfl ?_
  refine wv_sipush (pc' := 8) dX1_tightenByAll_5 sp_10000 rfl ?_
  refine wv_icmp_ge (pc' := 11) (tgt := 53) dX1_tightenByAll_8 (by decide) rfl (fun c1 => ?_) (fun c1 => ?_)
  · have h := (if_pos c1).symm.trans h
    refine wv_weak (L' := [some (.inr 18), some (.inr h1), none, none]) ⟨rfl, rfl, trivial⟩ ?_
    exact hk _ h
  · have h := (if_neg c1).symm.trans h
    refine wv_iload_n (pc' := 12) (i := 2) (v := x2) dX1_tightenByAll_11 rfl rfl rfl ?_
    refine wv_iconst (pc' := 13) dX1_tightenByAll_12 ic_4 rfl ?_
    refine wv_icmp_eq (pc' := 16) (tgt := 27) dX1_tightenByAll_13 (by decide) rfl (fun c2 => ?_) (fun c2 => ?_)
    · have h := (if_pos c2).symm.trans h
      exact wv_return rfl dX1_tightenByAll_27 (wd_lv h)
    · have h := (if_neg c2).symm.trans h
      refine wv_aload_n (pc' := 17) (i := 1) (v := h1) dX1_tightenByAll_16 rfl rfl rfl ?_
      refine wv_aload_n (pc' := 18) (i := 0) (v := 18) dX1_tightenByAll_17 rfl rfl rfl ?_
      refine wv_gr (pc' := 21) g_X1_18_18 dX1_tightenByAll_18 rfl ?_
      obtain ⟨r3, er3, h⟩ := wd_bind_some h
      refine wv_callVi (pc' := 24) (x := r3) (ν := μ) [.inr 3] ml_X1_26 (wd_rcW w1) rfl (Nat.le_of_ble_eq_true rfl) dX1_tightenByAll_21 rfl (c_X6_isBroken G d (Nat.le_trans (Nat.le_of_ble_eq_true rfl) hd) w1 (Or.inl rfl) er3) ?_
      refine wv_if_eq (pc' := 27) (tgt := 28) dX1_tightenByAll_24 (by decide) rfl (fun c4 => ?_) (fun c4 => ?_)
      · have h := (if_pos c4).symm.trans h
        refine wv_aload_n (pc' := 29) (i := 0) (v := 18) dX1_tightenByAll_28 rfl rfl rfl ?_
        refine wv_iload_n (pc' := 30) (i := 3) (v := x3) dX1_tightenByAll_29 rfl rfl rfl ?_
        refine wv_iconst (pc' := 31) dX1_tightenByAll_30 ic_4 rfl ?_
        obtain ⟨g5, h⟩ := wd_chk_some h
        refine wv_irem (pc' := 32) dX1_tightenByAll_31 (wd_nz_ne g5) rfl ?_
        refine wv_aload_n (pc' := 33) (i := 1) (v := h1) dX1_tightenByAll_32 rfl rfl rfl ?_
        obtain ⟨r6, er6, h⟩ := wd_bind_some h
        refine wv_callVi (pc' := 36) (x := r6.1) (ν := r6.2) [.inl (x3 - x3 / (4 : Int32) * (4 : Int32)), .inr h1] ml_X1_32 rc_18 rfl (Nat.le_of_ble_eq_true rfl) dX1_tightenByAll_33 rfl (c_X1_tighten G d (Nat.le_trans (Nat.le_of_ble_eq_true rfl) hd) w1 er6) ?_
        refine wv_if_eq (pc' := 39) (tgt := 43) dX1_tightenByAll_36 (by decide) rfl (fun c7 => ?_) (fun c7 => ?_)
        · have h := (if_pos c7).symm.trans h
          refine wv_iload_n (pc' := 44) (i := 2) (v := x2) dX1_tightenByAll_43 rfl rfl rfl ?_
          refine wv_iconst (pc' := 45) dX1_tightenByAll_44 ic_1 rfl ?_
          refine wv_iadd (pc' := 46) dX1_tightenByAll_45 rfl ?_
          refine wv_weak (L' := [some (.inr 18), some (.inr h1), none, some (.inl x3)]) ⟨rfl, rfl, rfl, trivial⟩ ?_
          exact t_X1_tightenByAll_b46 G d hd rec k h1 r6.2 x3 (x2 + (1 : Int32)) w1 hrec hk h
        · have h := (if_neg c7).symm.trans h
          refine wv_iconst (pc' := 40) dX1_tightenByAll_39 ic_0 rfl ?_
          refine wv_goto (pc' := 46) dX1_tightenByAll_40 (by decide) ?_
          refine wv_weak (L' := [some (.inr 18), some (.inr h1), none, some (.inl x3)]) ⟨rfl, rfl, rfl, trivial⟩ ?_
          exact t_X1_tightenByAll_b46 G d hd rec k h1 r6.2 x3 (0 : Int32) w1 hrec hk h
      · have h := (if_neg c4).symm.trans h
        exact wv_return rfl dX1_tightenByAll_27 (wd_lv h)
set_option maxRecDepth 100000 in
set_option maxHeartbeats 4000000 in
theorem t_X1_tightenByAll_l4 (G : wd_G) (d : Nat) (hd : 5 ≤ d) {out : wd_Mem} (k : wd_Mem → Option (wd_Mem)) (h1 : Nat) (w1 : wd_isW h1) (hk : ∀  (μ : wd_Mem), k μ = some out → wd_V G (d + 1) RX1 cX1_tightenByAll 4 none (fun r u => r = none ∧ u = out) 53 [some (.inr 18), some (.inr h1), none, none] [] μ) : ∀ (n : Nat) (x2 x3 : Int32) (μ : wd_Mem), X1_tightenByAll_l4 k h1 n x2 x3 μ = some out → wd_V G (d + 1) RX1 cX1_tightenByAll 4 none (fun r u => r = none ∧ u = out) 4 [some (.inr 18), some (.inr h1), some (.inl x2), some (.inl x3)] [] μ := by
  intro n
  induction n with
  | zero => intro x2 x3 μ h; exact absurd h (by unfold X1_tightenByAll_l4; simp)
  | succ n ih =>
    intro x2 x3 μ h
    exact t_X1_tightenByAll_c4 G d hd (X1_tightenByAll_l4 k h1 n) k h1 μ x2 x3 w1 (fun x2 x3 μ h => ih x2 x3 μ h) hk h
set_option maxRecDepth 100000 in
set_option maxHeartbeats 4000000 in
theorem t_X1_tightenByAll_b53 (G : wd_G) (d : Nat) (hd : 5 ≤ d) {out : wd_Mem} (h1 : Nat) (μ : wd_Mem) (w1 : wd_isW h1) (h : X1_tightenByAll_b53 h1 μ = some out) : wd_V G (d + 1) RX1 cX1_tightenByAll 4 none (fun r u => r = none ∧ u = out) 53 [some (.inr 18), some (.inr h1), none, none] [] μ := by
  unfold X1_tightenByAll_b53 at h
  exact wv_return rfl dX1_tightenByAll_53 (wd_lv h)
set_option maxRecDepth 100000 in
set_option maxHeartbeats 4000000 in
theorem t_X1_tightenByAll_b0 (G : wd_G) (d : Nat) (hd : 5 ≤ d) {out : wd_Mem} (h1 : Nat) (μ : wd_Mem) (w1 : wd_isW h1) (h : X1_tightenByAll_b0 h1 μ = some out) : wd_V G (d + 1) RX1 cX1_tightenByAll 4 none (fun r u => r = none ∧ u = out) 0 [some (.inr 18), some (.inr h1), none, none] [] μ := by
  unfold X1_tightenByAll_b0 at h
  refine wv_iconst (pc' := 1) dX1_tightenByAll_0 ic_0 rfl ?_
  refine wv_istore_n (pc' := 2) (i := 2) (L' := [some (.inr 18), some (.inr h1), some (.inl (0 : Int32)), none]) dX1_tightenByAll_1 rfl (by decide) rfl rfl ?_
  refine wv_iconst (pc' := 3) dX1_tightenByAll_2 ic_0 rfl ?_
  refine wv_istore_n (pc' := 4) (i := 3) (L' := [some (.inr 18), some (.inr h1), some (.inl (0 : Int32)), some (.inl (0 : Int32))]) dX1_tightenByAll_3 rfl (by decide) rfl rfl ?_
  exact t_X1_tightenByAll_l4 G d hd (fun μ => X1_tightenByAll_b53 h1 μ) h1 w1 (fun μ h => t_X1_tightenByAll_b53 G d hd h1 μ w1 h) wd_big (0 : Int32) (0 : Int32) μ h
set_option maxRecDepth 100000 in
set_option maxHeartbeats 4000000 in
theorem c_X1_tightenByAll (G : wd_G) (d : Nat) (hd : 6 ≤ d) {h1 : Nat} {μ : wd_Mem} {out : wd_Mem} (w1 : wd_isW h1) (h : X1_tightenByAll h1 μ = some out) : wd_C G d yX1_tightenByAll [.inr 18, .inr h1] μ (fun r u => r = none ∧ u = out) := by
  obtain ⟨d, rfl⟩ : ∃ e, d = e + 1 := ⟨d - 1, by omega⟩
  refine wd_enter mc_X1_tightenByAll (by decide) (by decide +kernel) rfl (Nat.le_of_ble_eq_true rfl) (L0 := [some (.inr 18), some (.inr h1), none, none]) rfl ?_
  exact t_X1_tightenByAll_b0 G d (by omega) h1 μ  w1 h
set_option maxRecDepth 100000 in
set_option maxHeartbeats 4000000 in
theorem t_X0_latest_b0 (G : wd_G) (d : Nat) (hd : 0 ≤ d) {out : Nat} (μ : wd_Mem)  (h : X0_latest_b0 μ = some out) : wd_V G (d + 1) RX0 cX0_latest 1 (some (.object "WindowDesk$Windows")) (fun r u => r = some (.inr out) ∧ u = μ) 0 [some (.inr 27)] [] μ := by
  unfold X0_latest_b0 at h
  refine wv_aload_n (pc' := 1) (i := 0) (v := 27) dX0_latest_0 rfl rfl rfl ?_
  refine wv_gr (pc' := 4) g_X0_11_27 dX0_latest_1 rfl ?_
  refine wv_aload_n (pc' := 5) (i := 0) (v := 27) dX0_latest_4 rfl rfl rfl ?_
  refine wv_gi (pc' := 8) g_X0_18_27 dX0_latest_5 rfl ?_
  obtain ⟨g1, h⟩ := wd_chk_some h
  obtain ⟨a8, ea8, h⟩ := wd_bind_some h
  have wa8 : wd_isW a8 := wd_ringW ea8
  refine wv_aald (pc' := 9) sr_28 (wd_in_vp g1) ea8 dX0_latest_8 rfl ?_
  exact wv_areturn rfl dX0_latest_9 (wd_lr h)
set_option maxRecDepth 100000 in
set_option maxHeartbeats 4000000 in
theorem c_X0_latest (G : wd_G) (d : Nat) (hd : 1 ≤ d) {μ : wd_Mem} {out : Nat}  (h : X0_latest μ = some out) : wd_C G d yX0_latest [.inr 27] μ (fun r u => r = some (.inr out) ∧ u = μ) := by
  obtain ⟨d, rfl⟩ : ∃ e, d = e + 1 := ⟨d - 1, by omega⟩
  refine wd_enter mc_X0_latest (by decide) (by decide +kernel) rfl (Nat.le_of_ble_eq_true rfl) (L0 := [some (.inr 27)]) rfl ?_
  exact t_X0_latest_b0 G d (by omega) μ  h
set_option maxRecDepth 100000 in
set_option maxHeartbeats 4000000 in
theorem X0_latest_W {μ : wd_Mem} {o : Nat} (h : X0_latest μ = some o) : wd_isW o := by
  unfold X0_latest X0_latest_b0 at h
  obtain ⟨-, h⟩ := wd_chk_some h
  obtain ⟨a, e, h⟩ := wd_bind_some h
  rw [← Option.some.inj h]
  exact wd_ringW e
set_option maxRecDepth 100000 in
set_option maxHeartbeats 4000000 in
theorem t_X6_others_b59 (G : wd_G) (d : Nat) (hd : 2 ≤ d) {out : Int32} (rec : Int32 → Int32 → Option (Int32)) (k : Int32 → Option (Int32)) (h0 : Nat) (h1 : Nat) (μ : wd_Mem) (x2 x4 s0 s1 : Int32) (w0 : wd_isW h0) (w1 : wd_isW h1) (hrec : ∀ (x3 x4 : Int32), rec x3 x4 = some out → wd_V G (d + 1) RX6 cX6_others 5 (some .int) (fun r u => r = some (.inl out) ∧ u = μ) 5 [some (.inr h0), some (.inr h1), some (.inl x2), some (.inl x3), some (.inl x4)] [] μ) (hk : ∀ (x3 : Int32), k x3 = some out → wd_V G (d + 1) RX6 cX6_others 5 (some .int) (fun r u => r = some (.inl out) ∧ u = μ) 67 [some (.inr h0), some (.inr h1), none, some (.inl x3), none] [] μ) (h : X6_others_b59 rec k h0 h1 μ x2 x4 s0 s1 = some out) : wd_V G (d + 1) RX6 cX6_others 5 (some .int) (fun r u => r = some (.inl out) ∧ u = μ) 59 [some (.inr h0), some (.inr h1), some (.inl x2), none, some (.inl x4)] [.inl s1, .inl s0] μ := by
  unfold X6_others_b59 at h
  refine wv_iadd (pc' := 60) dX6_others_59 rfl ?_
  refine wv_istore_n (pc' := 61) (i := 3) (L' := [some (.inr h0), some (.inr h1), some (.inl x2), some (.inl (s0 + s1)), some (.inl x4)]) dX6_others_60 rfl (by decide) rfl rfl ?_
  refine wv_inc (pc' := 64) (x := x4) (L' := [some (.inr h0), some (.inr h1), some (.inl x2), some (.inl (s0 + s1)), some (.inl (x4 + (1 : Int32)))]) dX6_others_61 ic_1 rfl (by decide) rfl rfl ?_
  refine wv_goto (pc' := 5) dX6_others_64 (by decide) ?_
  exact hrec _ _ h
set_option maxRecDepth 100000 in
set_option maxHeartbeats 4000000 in
theorem t_X6_others_b34 (G : wd_G) (d : Nat) (hd : 2 ≤ d) {out : Int32} (rec : Int32 → Int32 → Option (Int32)) (k : Int32 → Option (Int32)) (h0 : Nat) (h1 : Nat) (μ : wd_Mem) (x2 x4 s0 s1 : Int32) (w0 : wd_isW h0) (w1 : wd_isW h1) (hrec : ∀ (x3 x4 : Int32), rec x3 x4 = some out → wd_V G (d + 1) RX6 cX6_others 5 (some .int) (fun r u => r = some (.inl out) ∧ u = μ) 5 [some (.inr h0), some (.inr h1), some (.inl x2), some (.inl x3), some (.inl x4)] [] μ) (hk : ∀ (x3 : Int32), k x3 = some out → wd_V G (d + 1) RX6 cX6_others 5 (some .int) (fun r u => r = some (.inl out) ∧ u = μ) 67 [some (.inr h0), some (.inr h1), none, some (.inl x3), none] [] μ) (h : X6_others_b34 rec k h0 h1 μ x2 x4 s0 s1 = some out) : wd_V G (d + 1) RX6 cX6_others 5 (some .int) (fun r u => r = some (.inl out) ∧ u = μ) 34 [some (.inr h0), some (.inr h1), some (.inl x2), none, some (.inl x4)] [.inl s1, .inl s0] μ := by
  unfold X6_others_b34 at h
  refine wv_iadd (pc' := 35) dX6_others_34 rfl ?_
  refine wv_istore_n (pc' := 36) (i := 3) (L' := [some (.inr h0), some (.inr h1), some (.inl x2), some (.inl (s0 + s1)), some (.inl x4)]) dX6_others_35 rfl (by decide) rfl rfl ?_
  refine wv_iload_n (pc' := 37) (i := 3) (v := (s0 + s1)) dX6_others_36 rfl rfl rfl ?_
  refine wv_aload_n (pc' := 38) (i := 0) (v := h0) dX6_others_37 rfl rfl rfl ?_
  refine wv_iload (pc' := 40) (v := x4) dX6_others_38 rfl rfl ?_
  refine wv_iconst (pc' := 41) dX6_others_40 ic_1 rfl ?_
  obtain ⟨r5, er5, h⟩ := wd_bind_some h
  refine wv_callVi (pc' := 44) (x := r5) (ν := μ) [.inl x4, .inl (1 : Int32)] ml_X6_35 (wd_rcW w0) rfl (Nat.le_of_ble_eq_true rfl) dX6_others_41 rfl (c_X6_edge G d (Nat.le_trans (Nat.le_of_ble_eq_true rfl) hd) w0 er5) ?_
  refine wv_aload_n (pc' := 45) (i := 1) (v := h1) dX6_others_44 rfl rfl rfl ?_
  refine wv_iload (pc' := 47) (v := x4) dX6_others_45 rfl rfl ?_
  refine wv_iconst (pc' := 48) dX6_others_47 ic_1 rfl ?_
  obtain ⟨r6, er6, h⟩ := wd_bind_some h
  refine wv_callVi (pc' := 51) (x := r6) (ν := μ) [.inl x4, .inl (1 : Int32)] ml_X6_35 (wd_rcW w1) rfl (Nat.le_of_ble_eq_true rfl) dX6_others_48 rfl (c_X6_edge G d (Nat.le_trans (Nat.le_of_ble_eq_true rfl) hd) w1 er6) ?_
  refine wv_icmp_eq (pc' := 54) (tgt := 58) dX6_others_51 (by decide) rfl (fun c7 => ?_) (fun c7 => ?_)
  · have h := (if_pos c7).symm.trans h
    refine wv_iconst (pc' := 59) dX6_others_58 ic_0 rfl ?_
    refine wv_weak (L' := [some (.inr h0), some (.inr h1), some (.inl x2), none, some (.inl x4)]) ⟨rfl, rfl, rfl, rfl, trivial⟩ ?_
    exact t_X6_others_b59 G d hd rec k h0 h1 μ x2 x4 (s0 + s1) (0 : Int32) w0 w1 hrec hk h
  · have h := (if_neg c7).symm.trans h
    refine wv_iconst (pc' := 55) dX6_others_54 ic_1 rfl ?_
    refine wv_goto (pc' := 59) dX6_others_55 (by decide) ?_
    refine wv_weak (L' := [some (.inr h0), some (.inr h1), some (.inl x2), none, some (.inl x4)]) ⟨rfl, rfl, rfl, rfl, trivial⟩ ?_
    exact t_X6_others_b59 G d hd rec k h0 h1 μ x2 x4 (s0 + s1) (1 : Int32) w0 w1 hrec hk h
set_option maxRecDepth 100000 in
set_option maxHeartbeats 4000000 in
theorem t_X6_others_c5 (G : wd_G) (d : Nat) (hd : 2 ≤ d) {out : Int32} (rec : Int32 → Int32 → Option (Int32)) (k : Int32 → Option (Int32)) (h0 : Nat) (h1 : Nat) (μ : wd_Mem) (x2 x3 x4 : Int32) (w0 : wd_isW h0) (w1 : wd_isW h1) (hrec : ∀ (x3 x4 : Int32), rec x3 x4 = some out → wd_V G (d + 1) RX6 cX6_others 5 (some .int) (fun r u => r = some (.inl out) ∧ u = μ) 5 [some (.inr h0), some (.inr h1), some (.inl x2), some (.inl x3), some (.inl x4)] [] μ) (hk : ∀ (x3 : Int32), k x3 = some out → wd_V G (d + 1) RX6 cX6_others 5 (some .int) (fun r u => r = some (.inl out) ∧ u = μ) 67 [some (.inr h0), some (.inr h1), none, some (.inl x3), none] [] μ) (h : X6_others_c5 rec k h0 h1 μ x2 x3 x4 = some out) : wd_V G (d + 1) RX6 cX6_others 5 (some .int) (fun r u => r = some (.inl out) ∧ u = μ) 5 [some (.inr h0), some (.inr h1), some (.inl x2), some (.inl x3), some (.inl x4)] [] μ := by
  unfold X6_others_c5 at h
  refine wv_iload (pc' := 7) (v := x4) dX6_others_5 rfl rfl ?_
  refine wv_iload_n (pc' := 8) (i := 2) (v := x2) dX6_others_7 rfl rfl rfl ?_
  refine wv_icmp_ge (pc' := 11) (tgt := 67) dX6_others_8 (by decide) rfl (fun c1 => ?_) (fun c1 => ?_)
  · have h := (if_pos c1).symm.trans h
    refine wv_weak (L' := [some (.inr h0), some (.inr h1), none, some (.inl x3), none]) ⟨rfl, rfl, rfl, trivial⟩ ?_
    exact hk _ h
  · have h := (if_neg c1).symm.trans h
    refine wv_iload_n (pc' := 12) (i := 3) (v := x3) dX6_others_11 rfl rfl rfl ?_
    refine wv_aload_n (pc' := 13) (i := 0) (v := h0) dX6_others_12 rfl rfl rfl ?_
    refine wv_iload (pc' := 15) (v := x4) dX6_others_13 rfl rfl ?_
    refine wv_iconst (pc' := 16) dX6_others_15 ic_0 rfl ?_
    obtain ⟨r2, er2, h⟩ := wd_bind_some h
    refine wv_callVi (pc' := 19) (x := r2) (ν := μ) [.inl x4, .inl (0 : Int32)] ml_X6_35 (wd_rcW w0) rfl (Nat.le_of_ble_eq_true rfl) dX6_others_16 rfl (c_X6_edge G d (Nat.le_trans (Nat.le_of_ble_eq_true rfl) hd) w0 er2) ?_
    refine wv_aload_n (pc' := 20) (i := 1) (v := h1) dX6_others_19 rfl rfl rfl ?_
    refine wv_iload (pc' := 22) (v := x4) dX6_others_20 rfl rfl ?_
    refine wv_iconst (pc' := 23) dX6_others_22 ic_0 rfl ?_
    obtain ⟨r3, er3, h⟩ := wd_bind_some h
    refine wv_callVi (pc' := 26) (x := r3) (ν := μ) [.inl x4, .inl (0 : Int32)] ml_X6_35 (wd_rcW w1) rfl (Nat.le_of_ble_eq_true rfl) dX6_others_23 rfl (c_X6_edge G d (Nat.le_trans (Nat.le_of_ble_eq_true rfl) hd) w1 er3) ?_
    refine wv_icmp_eq (pc' := 29) (tgt := 33) dX6_others_26 (by decide) rfl (fun c4 => ?_) (fun c4 => ?_)
    · have h := (if_pos c4).symm.trans h
      refine wv_iconst (pc' := 34) dX6_others_33 ic_0 rfl ?_
      refine wv_weak (L' := [some (.inr h0), some (.inr h1), some (.inl x2), none, some (.inl x4)]) ⟨rfl, rfl, rfl, rfl, trivial⟩ ?_
      exact t_X6_others_b34 G d hd rec k h0 h1 μ x2 x4 x3 (0 : Int32) w0 w1 hrec hk h
    · have h := (if_neg c4).symm.trans h
      refine wv_iconst (pc' := 30) dX6_others_29 ic_1 rfl ?_
      refine wv_goto (pc' := 34) dX6_others_30 (by decide) ?_
      refine wv_weak (L' := [some (.inr h0), some (.inr h1), some (.inl x2), none, some (.inl x4)]) ⟨rfl, rfl, rfl, rfl, trivial⟩ ?_
      exact t_X6_others_b34 G d hd rec k h0 h1 μ x2 x4 x3 (1 : Int32) w0 w1 hrec hk h
set_option maxRecDepth 100000 in
set_option maxHeartbeats 4000000 in
theorem t_X6_others_l5 (G : wd_G) (d : Nat) (hd : 2 ≤ d) {out : Int32} (k : Int32 → Option (Int32)) (h0 : Nat) (h1 : Nat) (μ : wd_Mem) (x2 : Int32) (w0 : wd_isW h0) (w1 : wd_isW h1) (hk : ∀ (x3 : Int32), k x3 = some out → wd_V G (d + 1) RX6 cX6_others 5 (some .int) (fun r u => r = some (.inl out) ∧ u = μ) 67 [some (.inr h0), some (.inr h1), none, some (.inl x3), none] [] μ) : ∀ (n : Nat) (x3 x4 : Int32), X6_others_l5 k h0 h1 μ x2 n x3 x4 = some out → wd_V G (d + 1) RX6 cX6_others 5 (some .int) (fun r u => r = some (.inl out) ∧ u = μ) 5 [some (.inr h0), some (.inr h1), some (.inl x2), some (.inl x3), some (.inl x4)] [] μ := by
  intro n
  induction n with
  | zero => intro x3 x4 h; exact absurd h (by unfold X6_others_l5; simp)
  | succ n ih =>
    intro x3 x4 h
    exact t_X6_others_c5 G d hd (X6_others_l5 k h0 h1 μ x2 n) k h0 h1 μ x2 x3 x4 w0 w1 (fun x3 x4 h => ih x3 x4 h) hk h
set_option maxRecDepth 100000 in
set_option maxHeartbeats 4000000 in
theorem t_X6_others_b67 (G : wd_G) (d : Nat) (hd : 2 ≤ d) {out : Int32} (h0 : Nat) (h1 : Nat) (μ : wd_Mem) (x3 : Int32) (w0 : wd_isW h0) (w1 : wd_isW h1) (h : X6_others_b67 h0 h1 μ x3 = some out) : wd_V G (d + 1) RX6 cX6_others 5 (some .int) (fun r u => r = some (.inl out) ∧ u = μ) 67 [some (.inr h0), some (.inr h1), none, some (.inl x3), none] [] μ := by
  unfold X6_others_b67 at h
  refine wv_iload_n (pc' := 68) (i := 3) (v := x3) dX6_others_67 rfl rfl rfl ?_
  exact wv_ireturn rfl dX6_others_68 (wd_li h)
set_option maxRecDepth 100000 in
set_option maxHeartbeats 4000000 in
theorem t_X6_others_b0 (G : wd_G) (d : Nat) (hd : 2 ≤ d) {out : Int32} (h0 : Nat) (h1 : Nat) (μ : wd_Mem) (x2 : Int32) (w0 : wd_isW h0) (w1 : wd_isW h1) (h : X6_others_b0 h0 h1 μ x2 = some out) : wd_V G (d + 1) RX6 cX6_others 5 (some .int) (fun r u => r = some (.inl out) ∧ u = μ) 0 [some (.inr h0), some (.inr h1), some (.inl x2), none, none] [] μ := by
  unfold X6_others_b0 at h
  refine wv_iconst (pc' := 1) dX6_others_0 ic_0 rfl ?_
  refine wv_istore_n (pc' := 2) (i := 3) (L' := [some (.inr h0), some (.inr h1), some (.inl x2), some (.inl (0 : Int32)), none]) dX6_others_1 rfl (by decide) rfl rfl ?_
  refine wv_iconst (pc' := 3) dX6_others_2 ic_0 rfl ?_
  refine wv_istore (pc' := 5) (L' := [some (.inr h0), some (.inr h1), some (.inl x2), some (.inl (0 : Int32)), some (.inl (0 : Int32))]) dX6_others_3 (by decide) rfl rfl ?_
  exact t_X6_others_l5 G d hd (fun x3 => X6_others_b67 h0 h1 μ x3) h0 h1 μ x2 w0 w1 (fun x3 h => t_X6_others_b67 G d hd h0 h1 μ x3 w0 w1 h) wd_big (0 : Int32) (0 : Int32) h
set_option maxRecDepth 100000 in
set_option maxHeartbeats 4000000 in
theorem c_X6_others (G : wd_G) (d : Nat) (hd : 3 ≤ d) {h0 : Nat} {h1 : Nat} {μ : wd_Mem} {x2 : Int32} {out : Int32} (w0 : wd_isW h0) (w1 : wd_isW h1) (h : X6_others h0 h1 μ x2 = some out) : wd_C G d yX6_others [.inr h0, .inr h1, .inl x2] μ (fun r u => r = some (.inl out) ∧ u = μ) := by
  obtain ⟨d, rfl⟩ : ∃ e, d = e + 1 := ⟨d - 1, by omega⟩
  refine wd_enter mc_X6_others (by decide) (by decide +kernel) rfl (Nat.le_of_ble_eq_true rfl) (L0 := [some (.inr h0), some (.inr h1), some (.inl x2), none, none]) rfl ?_
  exact t_X6_others_b0 G d (by omega) h0 h1 μ x2 w0 w1 h
set_option maxRecDepth 100000 in
set_option maxHeartbeats 4000000 in
theorem t_X7_tightens_b9 (G : wd_G) (d : Nat) (hd : 6 ≤ d) {out : Int32 × wd_Mem} (μ : wd_Mem)  (h : X7_tightens_b9 μ = some out) : wd_V G (d + 1) RX7 cX7_tightens 2 (some .int) (fun r u => r = some (.inl out.1) ∧ u = out.2) 9 [some (.inr 0), none] [] μ := by
  unfold X7_tightens_b9 at h
  refine wv_iconst (pc' := 10) dX7_tightens_9 ic_m1 rfl ?_
  exact wv_ireturn rfl dX7_tightens_10 (wd_liv h)
set_option maxRecDepth 100000 in
set_option maxHeartbeats 4000000 in
theorem t_X7_tightens_b71 (G : wd_G) (d : Nat) (hd : 6 ≤ d) {out : Int32 × wd_Mem} (μ : wd_Mem)  (h : X7_tightens_b71 μ = some out) : wd_V G (d + 1) RX7 cX7_tightens 2 (some .int) (fun r u => r = some (.inl out.1) ∧ u = out.2) 71 [some (.inr 0), none] [] μ := by
  unfold X7_tightens_b71 at h
  refine wv_aload_n (pc' := 72) (i := 0) (v := 0) dX7_tightens_71 rfl rfl rfl ?_
  refine wv_gr (pc' := 75) g_X7_29_0 dX7_tightens_72 rfl ?_
  refine wv_aload_n (pc' := 76) (i := 0) (v := 0) dX7_tightens_75 rfl rfl rfl ?_
  refine wv_gr (pc' := 79) g_X7_47_0 dX7_tightens_76 rfl ?_
  obtain ⟨r8, er8, h⟩ := wd_bind_some h
  have wr8 : wd_isW r8 := X0_latest_W er8
  refine wv_callVr (pc' := 82) (h := r8) (ν := μ) [] ml_X7_147 rc_27 rfl (Nat.le_of_ble_eq_true rfl) dX7_tightens_79 rfl (c_X0_latest G d (Nat.le_trans (Nat.le_of_ble_eq_true rfl) hd)  er8) ?_
  refine wv_aload_n (pc' := 83) (i := 0) (v := 0) dX7_tightens_82 rfl rfl rfl ?_
  refine wv_gr (pc' := 86) g_X7_19_0 dX7_tightens_83 rfl ?_
  refine wv_gi (pc' := 89) g_X7_151_3 dX7_tightens_86 rfl ?_
  obtain ⟨r9, er9, h⟩ := wd_bind_some h
  refine wv_callVi (pc' := 92) (x := r9) (ν := μ) [.inr r8, .inl (μ 3 1)] ml_X7_154 (wd_rcW sh_48) rfl (Nat.le_of_ble_eq_true rfl) dX7_tightens_89 rfl (c_X6_others G d (Nat.le_trans (Nat.le_of_ble_eq_true rfl) hd) sh_48 wr8 er9) ?_
  exact wv_ireturn rfl dX7_tightens_92 (wd_liv h)
set_option maxRecDepth 100000 in
set_option maxHeartbeats 4000000 in
theorem t_X7_tightens_b0 (G : wd_G) (d : Nat) (hd : 6 ≤ d) {out : Int32 × wd_Mem} (μ : wd_Mem) (x1 : Int32)  (h : X7_tightens_b0 μ x1 = some out) : wd_V G (d + 1) RX7 cX7_tightens 2 (some .int) (fun r u => r = some (.inl out.1) ∧ u = out.2) 0 [some (.inr 0), some (.inl x1)] [] μ := by
  unfold X7_tightens_b0 at h
  refine wv_iload_n (pc' := 1) (i := 1) (v := x1) dX7_tightens_0 rfl rfl rfl ?_
  refine wv_if_lt (pc' := 4) (tgt := 9) dX7_tightens_1 (by decide) rfl (fun c1 => ?_) (fun c1 => ?_)
  · have h := (if_pos c1).symm.trans h
    refine wv_weak (L' := [some (.inr 0), none]) ⟨rfl, trivial⟩ ?_
    exact t_X7_tightens_b9 G d hd μ  h
  · have h := (if_neg c1).symm.trans h
    refine wv_iload_n (pc' := 5) (i := 1) (v := x1) dX7_tightens_4 rfl rfl rfl ?_
    refine wv_iconst (pc' := 6) dX7_tightens_5 ic_4 rfl ?_
    refine wv_icmp_le (pc' := 9) (tgt := 11) dX7_tightens_6 (by decide) rfl (fun c2 => ?_) (fun c2 => ?_)
    · have h := (if_pos c2).symm.trans h
      refine wv_aload_n (pc' := 12) (i := 0) (v := 0) dX7_tightens_11 rfl rfl rfl ?_
      refine wv_gr (pc' := 15) g_X7_29_0 dX7_tightens_12 rfl ?_
      refine wv_aload_n (pc' := 16) (i := 0) (v := 0) dX7_tightens_15 rfl rfl rfl ?_
      refine wv_gr (pc' := 19) g_X7_19_0 dX7_tightens_16 rfl ?_
      obtain ⟨r3, er3, h⟩ := wd_bind_some h
      refine wv_callVi (pc' := 22) (x := r3) (ν := μ) [.inr 3] ml_X7_134 (wd_rcW sh_48) rfl (Nat.le_of_ble_eq_true rfl) dX7_tightens_19 rfl (c_X6_isBroken G d (Nat.le_trans (Nat.le_of_ble_eq_true rfl) hd) sh_48 (Or.inl rfl) er3) ?_
      refine wv_if_eq (pc' := 25) (tgt := 28) dX7_tightens_22 (by decide) rfl (fun c4 => ?_) (fun c4 => ?_)
      · have h := (if_pos c4).symm.trans h
        refine wv_aload_n (pc' := 29) (i := 0) (v := 0) dX7_tightens_28 rfl rfl rfl ?_
        refine wv_gr (pc' := 32) g_X7_47_0 dX7_tightens_29 rfl ?_
        refine wv_aload_n (pc' := 33) (i := 0) (v := 0) dX7_tightens_32 rfl rfl rfl ?_
        refine wv_gr (pc' := 36) g_X7_29_0 dX7_tightens_33 rfl ?_
        obtain ⟨r5, er5, h⟩ := wd_bind_some h
        refine wv_callVv (pc' := 39) (ν := r5) [.inr 48] ml_X7_138 rc_27 rfl (Nat.le_of_ble_eq_true rfl) dX7_tightens_36 rfl (c_X0_add G d (Nat.le_trans (Nat.le_of_ble_eq_true rfl) hd) sh_48 er5) ?_
        refine wv_iload_n (pc' := 40) (i := 1) (v := x1) dX7_tightens_39 rfl rfl rfl ?_
        refine wv_iconst (pc' := 41) dX7_tightens_40 ic_4 rfl ?_
        refine wv_icmp_ne (pc' := 44) (tgt := 58) dX7_tightens_41 (by decide) rfl (fun c6 => ?_) (fun c6 => ?_)
        · have h := (if_neg c6).symm.trans h
          refine wv_aload_n (pc' := 59) (i := 0) (v := 0) dX7_tightens_58 rfl rfl rfl ?_
          refine wv_gr (pc' := 62) g_X7_65_0 dX7_tightens_59 rfl ?_
          refine wv_iload_n (pc' := 63) (i := 1) (v := x1) dX7_tightens_62 rfl rfl rfl ?_
          refine wv_aload_n (pc' := 64) (i := 0) (v := 0) dX7_tightens_63 rfl rfl rfl ?_
          refine wv_gr (pc' := 67) g_X7_29_0 dX7_tightens_64 rfl ?_
          obtain ⟨r7, er7, h⟩ := wd_bind_some h
          refine wv_callVi (pc' := 70) (x := r7.1) (ν := r7.2) [.inl x1, .inr 48] ml_X7_143 rc_18 rfl (Nat.le_of_ble_eq_true rfl) dX7_tightens_67 rfl (c_X1_tighten G d (Nat.le_trans (Nat.le_of_ble_eq_true rfl) hd) sh_48 er7) ?_
          refine wv_pop (pc' := 71) dX7_tightens_70 rfl ?_
          refine wv_weak (L' := [some (.inr 0), none]) ⟨rfl, trivial⟩ ?_
          exact t_X7_tightens_b71 G d hd r7.2  h
        · have h := (if_pos c6).symm.trans h
          refine wv_aload_n (pc' := 45) (i := 0) (v := 0) dX7_tightens_44 rfl rfl rfl ?_
          refine wv_gr (pc' := 48) g_X7_65_0 dX7_tightens_45 rfl ?_
          refine wv_aload_n (pc' := 49) (i := 0) (v := 0) dX7_tightens_48 rfl rfl rfl ?_
          refine wv_gr (pc' := 52) g_X7_29_0 dX7_tightens_49 rfl ?_
          obtain ⟨r10, er10, h⟩ := wd_bind_some h
          refine wv_callVv (pc' := 55) (ν := r10) [.inr 48] ml_X7_140 rc_18 rfl (Nat.le_of_ble_eq_true rfl) dX7_tightens_52 rfl (c_X1_tightenByAll G d (Nat.le_trans (Nat.le_of_ble_eq_true rfl) hd) sh_48 er10) ?_
          refine wv_goto (pc' := 71) dX7_tightens_55 (by decide) ?_
          refine wv_weak (L' := [some (.inr 0), none]) ⟨rfl, trivial⟩ ?_
          exact t_X7_tightens_b71 G d hd r10  h
      · have h := (if_neg c4).symm.trans h
        refine wv_bipush (pc' := 27) dX7_tightens_25 bp_m2 rfl ?_
        exact wv_ireturn rfl dX7_tightens_27 (wd_liv h)
    · have h := (if_neg c2).symm.trans h
      refine wv_weak (L' := [some (.inr 0), none]) ⟨rfl, trivial⟩ ?_
      exact t_X7_tightens_b9 G d hd μ  h
set_option maxRecDepth 100000 in
set_option maxHeartbeats 4000000 in
theorem c_X7_tightens (G : wd_G) (d : Nat) (hd : 7 ≤ d) {μ : wd_Mem} {x1 : Int32} {out : Int32 × wd_Mem}  (h : X7_tightens μ x1 = some out) : wd_C G d yX7_tightens [.inr 0, .inl x1] μ (fun r u => r = some (.inl out.1) ∧ u = out.2) := by
  obtain ⟨d, rfl⟩ : ∃ e, d = e + 1 := ⟨d - 1, by omega⟩
  refine wd_enter mc_X7_tightens (by decide) (by decide +kernel) rfl (Nat.le_of_ble_eq_true rfl) (L0 := [some (.inr 0), some (.inl x1)]) rfl ?_
  exact t_X7_tightens_b0 G d (by omega) μ x1 h
set_option maxRecDepth 100000 in
set_option maxHeartbeats 4000000 in
theorem t_X7_mayPut_b80 (G : wd_G) (d : Nat) (hd : 2 ≤ d) {out : Int32} (μ : wd_Mem)  (h : X7_mayPut_b80 μ = some out) : wd_V G (d + 1) RX7 cX7_mayPut 6 (some .boolean) (fun r u => r = some (.inl out) ∧ u = μ) 80 [some (.inr 0), none, none, none, none, none] [] μ := by
  unfold X7_mayPut_b80 at h
  refine wv_iconst (pc' := 81) dX7_mayPut_80 ic_0 rfl ?_
  exact wv_zreturn rfl rfl dX7_mayPut_81 (wd_li h)
set_option maxRecDepth 100000 in
set_option maxHeartbeats 4000000 in
theorem t_X7_mayPut_b52 (G : wd_G) (d : Nat) (hd : 2 ≤ d) {out : Int32} (μ : wd_Mem)  (h : X7_mayPut_b52 μ = some out) : wd_V G (d + 1) RX7 cX7_mayPut 6 (some .boolean) (fun r u => r = some (.inl out) ∧ u = μ) 52 [some (.inr 0), none, none, none, none, none] [] μ := by
  unfold X7_mayPut_b52 at h
  refine wv_iconst (pc' := 53) dX7_mayPut_52 ic_0 rfl ?_
  exact wv_zreturn rfl rfl dX7_mayPut_53 (wd_li h)
set_option maxRecDepth 100000 in
set_option maxHeartbeats 4000000 in
theorem t_X7_mayPut_b0 (G : wd_G) (d : Nat) (hd : 2 ≤ d) {out : Int32} (μ : wd_Mem) (x1 x2 x3 : Int32)  (h : X7_mayPut_b0 μ x1 x2 x3 = some out) : wd_V G (d + 1) RX7 cX7_mayPut 6 (some .boolean) (fun r u => r = some (.inl out) ∧ u = μ) 0 [some (.inr 0), some (.inl x1), some (.inl x2), some (.inl x3), none, none] [] μ := by
  unfold X7_mayPut_b0 at h
  refine wv_aload_n (pc' := 1) (i := 0) (v := 0) dX7_mayPut_0 rfl rfl rfl ?_
  refine wv_gr (pc' := 4) g_X7_29_0 dX7_mayPut_1 rfl ?_
  refine wv_iload_n (pc' := 5) (i := 1) (v := x1) dX7_mayPut_4 rfl rfl rfl ?_
  refine wv_iconst (pc' := 6) dX7_mayPut_5 ic_0 rfl ?_
  obtain ⟨r1, er1, h⟩ := wd_bind_some h
  refine wv_callVi (pc' := 9) (x := r1) (ν := μ) [.inl x1, .inl (0 : Int32)] ml_X7_100 (wd_rcW sh_48) rfl (Nat.le_of_ble_eq_true rfl) dX7_mayPut_6 rfl (c_X6_edge G d (Nat.le_trans (Nat.le_of_ble_eq_true rfl) hd) sh_48 er1) ?_
  refine wv_istore (pc' := 11) (L' := [some (.inr 0), some (.inl x1), some (.inl x2), some (.inl x3), some (.inl r1), none]) dX7_mayPut_9 (by decide) rfl rfl ?_
  refine wv_aload_n (pc' := 12) (i := 0) (v := 0) dX7_mayPut_11 rfl rfl rfl ?_
  refine wv_gr (pc' := 15) g_X7_29_0 dX7_mayPut_12 rfl ?_
  refine wv_iload_n (pc' := 16) (i := 1) (v := x1) dX7_mayPut_15 rfl rfl rfl ?_
  refine wv_iconst (pc' := 17) dX7_mayPut_16 ic_1 rfl ?_
  obtain ⟨r2, er2, h⟩ := wd_bind_some h
  refine wv_callVi (pc' := 20) (x := r2) (ν := μ) [.inl x1, .inl (1 : Int32)] ml_X7_100 (wd_rcW sh_48) rfl (Nat.le_of_ble_eq_true rfl) dX7_mayPut_17 rfl (c_X6_edge G d (Nat.le_trans (Nat.le_of_ble_eq_true rfl) hd) sh_48 er2) ?_
  refine wv_istore (pc' := 22) (L' := [some (.inr 0), some (.inl x1), some (.inl x2), some (.inl x3), some (.inl r1), some (.inl r2)]) dX7_mayPut_20 (by decide) rfl rfl ?_
  refine wv_iload_n (pc' := 23) (i := 2) (v := x2) dX7_mayPut_22 rfl rfl rfl ?_
  refine wv_if_ne (pc' := 26) (tgt := 54) dX7_mayPut_23 (by decide) rfl (fun c3 => ?_) (fun c3 => ?_)
  · have h := (if_neg c3).symm.trans h
    refine wv_iload_n (pc' := 55) (i := 3) (v := x3) dX7_mayPut_54 rfl rfl rfl ?_
    refine wv_iload (pc' := 57) (v := r2) dX7_mayPut_55 rfl rfl ?_
    refine wv_icmp_ge (pc' := 60) (tgt := 80) dX7_mayPut_57 (by decide) rfl (fun c4 => ?_) (fun c4 => ?_)
    · have h := (if_pos c4).symm.trans h
      refine wv_weak (L' := [some (.inr 0), none, none, none, none, none]) ⟨rfl, trivial⟩ ?_
      exact t_X7_mayPut_b80 G d hd μ  h
    · have h := (if_neg c4).symm.trans h
      refine wv_iload_n (pc' := 61) (i := 3) (v := x3) dX7_mayPut_60 rfl rfl rfl ?_
      refine wv_aload_n (pc' := 62) (i := 0) (v := 0) dX7_mayPut_61 rfl rfl rfl ?_
      refine wv_gr (pc' := 65) g_X7_19_0 dX7_mayPut_62 rfl ?_
      refine wv_gr (pc' := 68) g_X7_104_3 dX7_mayPut_65 rfl ?_
      refine wv_iload_n (pc' := 69) (i := 1) (v := x1) dX7_mayPut_68 rfl rfl rfl ?_
      obtain ⟨g5, h⟩ := wd_chk_some h
      refine wv_iald (pc' := 70) sa_4 (wd_in_vp g5) dX7_mayPut_69 rfl ?_
      refine wv_isub (pc' := 71) dX7_mayPut_70 rfl ?_
      refine wv_iload (pc' := 73) (v := r1) dX7_mayPut_71 rfl rfl ?_
      refine wv_icmp_lt (pc' := 76) (tgt := 80) dX7_mayPut_73 (by decide) rfl (fun c6 => ?_) (fun c6 => ?_)
      · have h := (if_pos c6).symm.trans h
        refine wv_weak (L' := [some (.inr 0), none, none, none, none, none]) ⟨rfl, trivial⟩ ?_
        exact t_X7_mayPut_b80 G d hd μ  h
      · have h := (if_neg c6).symm.trans h
        refine wv_iconst (pc' := 77) dX7_mayPut_76 ic_1 rfl ?_
        refine wv_goto (pc' := 81) dX7_mayPut_77 (by decide) ?_
        exact wv_zreturn rfl rfl dX7_mayPut_81 (wd_li h)
  · have h := (if_pos c3).symm.trans h
    refine wv_iload_n (pc' := 27) (i := 3) (v := x3) dX7_mayPut_26 rfl rfl rfl ?_
    refine wv_iload (pc' := 29) (v := r1) dX7_mayPut_27 rfl rfl ?_
    refine wv_icmp_le (pc' := 32) (tgt := 52) dX7_mayPut_29 (by decide) rfl (fun c7 => ?_) (fun c7 => ?_)
    · have h := (if_pos c7).symm.trans h
      refine wv_weak (L' := [some (.inr 0), none, none, none, none, none]) ⟨rfl, trivial⟩ ?_
      exact t_X7_mayPut_b52 G d hd μ  h
    · have h := (if_neg c7).symm.trans h
      refine wv_iload_n (pc' := 33) (i := 3) (v := x3) dX7_mayPut_32 rfl rfl rfl ?_
      refine wv_aload_n (pc' := 34) (i := 0) (v := 0) dX7_mayPut_33 rfl rfl rfl ?_
      refine wv_gr (pc' := 37) g_X7_19_0 dX7_mayPut_34 rfl ?_
      refine wv_gr (pc' := 40) g_X7_104_3 dX7_mayPut_37 rfl ?_
      refine wv_iload_n (pc' := 41) (i := 1) (v := x1) dX7_mayPut_40 rfl rfl rfl ?_
      obtain ⟨g8, h⟩ := wd_chk_some h
      refine wv_iald (pc' := 42) sa_4 (wd_in_vp g8) dX7_mayPut_41 rfl ?_
      refine wv_iadd (pc' := 43) dX7_mayPut_42 rfl ?_
      refine wv_iload (pc' := 45) (v := r2) dX7_mayPut_43 rfl rfl ?_
      refine wv_icmp_gt (pc' := 48) (tgt := 52) dX7_mayPut_45 (by decide) rfl (fun c9 => ?_) (fun c9 => ?_)
      · have h := (if_pos c9).symm.trans h
        refine wv_weak (L' := [some (.inr 0), none, none, none, none, none]) ⟨rfl, trivial⟩ ?_
        exact t_X7_mayPut_b52 G d hd μ  h
      · have h := (if_neg c9).symm.trans h
        refine wv_iconst (pc' := 49) dX7_mayPut_48 ic_1 rfl ?_
        refine wv_goto (pc' := 53) dX7_mayPut_49 (by decide) ?_
        exact wv_zreturn rfl rfl dX7_mayPut_53 (wd_li h)
set_option maxRecDepth 100000 in
set_option maxHeartbeats 4000000 in
theorem c_X7_mayPut (G : wd_G) (d : Nat) (hd : 3 ≤ d) {μ : wd_Mem} {x1 x2 x3 : Int32} {out : Int32}  (h : X7_mayPut μ x1 x2 x3 = some out) : wd_C G d yX7_mayPut [.inr 0, .inl x1, .inl x2, .inl x3] μ (fun r u => r = some (.inl out) ∧ u = μ) := by
  obtain ⟨d, rfl⟩ : ∃ e, d = e + 1 := ⟨d - 1, by omega⟩
  refine wd_enter mc_X7_mayPut (by decide) (by decide +kernel) rfl (Nat.le_of_ble_eq_true rfl) (L0 := [some (.inr 0), some (.inl x1), some (.inl x2), some (.inl x3), none, none]) rfl ?_
  exact t_X7_mayPut_b0 G d (by omega) μ x1 x2 x3 h
set_option maxRecDepth 100000 in
set_option maxHeartbeats 4000000 in
theorem t_X7_puts_b28 (G : wd_G) (d : Nat) (hd : 3 ≤ d) {out : Int32 × wd_Mem} (μ : wd_Mem)  (h : X7_puts_b28 μ = some out) : wd_V G (d + 1) RX7 cX7_puts 5 (some .int) (fun r u => r = some (.inl out.1) ∧ u = out.2) 28 [some (.inr 0), none, none, none, none] [] μ := by
  unfold X7_puts_b28 at h
  refine wv_iconst (pc' := 29) dX7_puts_28 ic_m1 rfl ?_
  exact wv_ireturn rfl dX7_puts_29 (wd_liv h)
set_option maxRecDepth 100000 in
set_option maxHeartbeats 4000000 in
theorem t_X7_puts_b54 (G : wd_G) (d : Nat) (hd : 3 ≤ d) {out : Int32 × wd_Mem} (μ : wd_Mem)  (h : X7_puts_b54 μ = some out) : wd_V G (d + 1) RX7 cX7_puts 5 (some .int) (fun r u => r = some (.inl out.1) ∧ u = out.2) 54 [some (.inr 0), none, none, none, none] [] μ := by
  unfold X7_puts_b54 at h
  refine wv_bipush (pc' := 56) dX7_puts_54 bp_m2 rfl ?_
  exact wv_ireturn rfl dX7_puts_56 (wd_liv h)
set_option maxRecDepth 100000 in
set_option maxHeartbeats 4000000 in
theorem t_X7_puts_b0 (G : wd_G) (d : Nat) (hd : 3 ≤ d) {out : Int32 × wd_Mem} (μ : wd_Mem) (x1 x2 x3 : Int32)  (h : X7_puts_b0 μ x1 x2 x3 = some out) : wd_V G (d + 1) RX7 cX7_puts 5 (some .int) (fun r u => r = some (.inl out.1) ∧ u = out.2) 0 [some (.inr 0), some (.inl x1), some (.inl x2), some (.inl x3), none] [] μ := by
  unfold X7_puts_b0 at h
  refine wv_aload_n (pc' := 1) (i := 0) (v := 0) dX7_puts_0 rfl rfl rfl ?_
  refine wv_gr (pc' := 4) g_X7_19_0 dX7_puts_1 rfl ?_
  refine wv_iload_n (pc' := 5) (i := 1) (v := x1) dX7_puts_4 rfl rfl rfl ?_
  refine wv_callVi (pc' := 8) (x := (X4_has 3 μ x1)) (ν := μ) [.inl x1] ml_X7_97 rc_3 rfl (Nat.le_of_ble_eq_true rfl) dX7_puts_5 rfl (c_X4_has G d (Nat.le_trans (Nat.le_of_ble_eq_true rfl) hd) (Or.inl rfl) rfl) ?_
  refine wv_if_eq (pc' := 11) (tgt := 28) dX7_puts_8 (by decide) rfl (fun c1 => ?_) (fun c1 => ?_)
  · have h := (if_pos c1).symm.trans h
    refine wv_weak (L' := [some (.inr 0), none, none, none, none]) ⟨rfl, trivial⟩ ?_
    exact t_X7_puts_b28 G d hd μ  h
  · have h := (if_neg c1).symm.trans h
    refine wv_iload_n (pc' := 12) (i := 2) (v := x2) dX7_puts_11 rfl rfl rfl ?_
    refine wv_callSi (pc' := 15) (x := (X7_isZeroOrOne μ x2)) (ν := μ) [.inl x2] ml_X7_118 rfl (Nat.le_of_ble_eq_true rfl) dX7_puts_12 rfl (c_X7_isZeroOrOne G d (Nat.le_trans (Nat.le_of_ble_eq_true rfl) hd)  rfl) ?_
    refine wv_if_eq (pc' := 18) (tgt := 28) dX7_puts_15 (by decide) rfl (fun c2 => ?_) (fun c2 => ?_)
    · have h := (if_pos c2).symm.trans h
      refine wv_weak (L' := [some (.inr 0), none, none, none, none]) ⟨rfl, trivial⟩ ?_
      exact t_X7_puts_b28 G d hd μ  h
    · have h := (if_neg c2).symm.trans h
      refine wv_iload_n (pc' := 19) (i := 3) (v := x3) dX7_puts_18 rfl rfl rfl ?_
      refine wv_if_lt (pc' := 22) (tgt := 28) dX7_puts_19 (by decide) rfl (fun c3 => ?_) (fun c3 => ?_)
      · have h := (if_pos c3).symm.trans h
        refine wv_weak (L' := [some (.inr 0), none, none, none, none]) ⟨rfl, trivial⟩ ?_
        exact t_X7_puts_b28 G d hd μ  h
      · have h := (if_neg c3).symm.trans h
        refine wv_iload_n (pc' := 23) (i := 3) (v := x3) dX7_puts_22 rfl rfl rfl ?_
        refine wv_bipush (pc' := 25) dX7_puts_23 bp_16 rfl ?_
        refine wv_icmp_le (pc' := 28) (tgt := 30) dX7_puts_25 (by decide) rfl (fun c4 => ?_) (fun c4 => ?_)
        · have h := (if_pos c4).symm.trans h
          refine wv_aload_n (pc' := 31) (i := 0) (v := 0) dX7_puts_30 rfl rfl rfl ?_
          refine wv_gr (pc' := 34) g_X7_29_0 dX7_puts_31 rfl ?_
          refine wv_aload_n (pc' := 35) (i := 0) (v := 0) dX7_puts_34 rfl rfl rfl ?_
          refine wv_gr (pc' := 38) g_X7_19_0 dX7_puts_35 rfl ?_
          obtain ⟨r5, er5, h⟩ := wd_bind_some h
          refine wv_callVi (pc' := 41) (x := r5) (ν := μ) [.inr 3] ml_X7_134 (wd_rcW sh_48) rfl (Nat.le_of_ble_eq_true rfl) dX7_puts_38 rfl (c_X6_isBroken G d (Nat.le_trans (Nat.le_of_ble_eq_true rfl) hd) sh_48 (Or.inl rfl) er5) ?_
          refine wv_if_ne (pc' := 44) (tgt := 54) dX7_puts_41 (by decide) rfl (fun c6 => ?_) (fun c6 => ?_)
          · have h := (if_neg c6).symm.trans h
            refine wv_weak (L' := [some (.inr 0), none, none, none, none]) ⟨rfl, trivial⟩ ?_
            exact t_X7_puts_b54 G d hd μ  h
          · have h := (if_pos c6).symm.trans h
            refine wv_aload_n (pc' := 45) (i := 0) (v := 0) dX7_puts_44 rfl rfl rfl ?_
            refine wv_iload_n (pc' := 46) (i := 1) (v := x1) dX7_puts_45 rfl rfl rfl ?_
            refine wv_iload_n (pc' := 47) (i := 2) (v := x2) dX7_puts_46 rfl rfl rfl ?_
            refine wv_iload_n (pc' := 48) (i := 3) (v := x3) dX7_puts_47 rfl rfl rfl ?_
            obtain ⟨r7, er7, h⟩ := wd_bind_some h
            refine wv_callVi (pc' := 51) (x := r7) (ν := μ) [.inl x1, .inl x2, .inl x3] ml_X7_157 rc_0 rfl (Nat.le_of_ble_eq_true rfl) dX7_puts_48 rfl (c_X7_mayPut G d (Nat.le_trans (Nat.le_of_ble_eq_true rfl) hd)  er7) ?_
            refine wv_if_ne (pc' := 54) (tgt := 57) dX7_puts_51 (by decide) rfl (fun c8 => ?_) (fun c8 => ?_)
            · have h := (if_neg c8).symm.trans h
              refine wv_aload_n (pc' := 58) (i := 0) (v := 0) dX7_puts_57 rfl rfl rfl ?_
              refine wv_gr (pc' := 61) g_X7_47_0 dX7_puts_58 rfl ?_
              refine wv_aload_n (pc' := 62) (i := 0) (v := 0) dX7_puts_61 rfl rfl rfl ?_
              refine wv_gr (pc' := 65) g_X7_29_0 dX7_puts_62 rfl ?_
              obtain ⟨r9, er9, h⟩ := wd_bind_some h
              refine wv_callVv (pc' := 68) (ν := r9) [.inr 48] ml_X7_138 rc_27 rfl (Nat.le_of_ble_eq_true rfl) dX7_puts_65 rfl (c_X0_add G d (Nat.le_trans (Nat.le_of_ble_eq_true rfl) hd) sh_48 er9) ?_
              refine wv_aload_n (pc' := 69) (i := 0) (v := 0) dX7_puts_68 rfl rfl rfl ?_
              refine wv_gr (pc' := 72) g_X7_29_0 dX7_puts_69 rfl ?_
              refine wv_iload_n (pc' := 73) (i := 1) (v := x1) dX7_puts_72 rfl rfl rfl ?_
              refine wv_iload_n (pc' := 74) (i := 2) (v := x2) dX7_puts_73 rfl rfl rfl ?_
              obtain ⟨r10, er10, h⟩ := wd_bind_some h
              refine wv_callVi (pc' := 77) (x := r10) (ν := r9) [.inl x1, .inl x2] ml_X7_100 (wd_rcW sh_48) rfl (Nat.le_of_ble_eq_true rfl) dX7_puts_74 rfl (c_X6_edge G d (Nat.le_trans (Nat.le_of_ble_eq_true rfl) hd) sh_48 er10) ?_
              refine wv_istore (pc' := 79) (L' := [some (.inr 0), some (.inl x1), some (.inl x2), some (.inl x3), some (.inl r10)]) dX7_puts_77 (by decide) rfl rfl ?_
              refine wv_aload_n (pc' := 80) (i := 0) (v := 0) dX7_puts_79 rfl rfl rfl ?_
              refine wv_gr (pc' := 83) g_X7_29_0 dX7_puts_80 rfl ?_
              refine wv_iload_n (pc' := 84) (i := 1) (v := x1) dX7_puts_83 rfl rfl rfl ?_
              refine wv_iload_n (pc' := 85) (i := 2) (v := x2) dX7_puts_84 rfl rfl rfl ?_
              refine wv_iload_n (pc' := 86) (i := 3) (v := x3) dX7_puts_85 rfl rfl rfl ?_
              refine wv_bipush (pc' := 88) dX7_puts_86 bp_m9 rfl ?_
              refine wv_bipush (pc' := 90) dX7_puts_88 bp_m9 rfl ?_
              obtain ⟨r11, er11, h⟩ := wd_bind_some h
              refine wv_callVv (pc' := 93) (ν := r11) [.inl x1, .inl x2, .inl x3, .inl (-9 : Int32), .inl (-9 : Int32)] ml_X7_161 (wd_rcW sh_48) rfl (Nat.le_of_ble_eq_true rfl) dX7_puts_90 rfl (c_X6_move G d (Nat.le_trans (Nat.le_of_ble_eq_true rfl) hd) sh_48 er11) ?_
              refine wv_iload (pc' := 95) (v := r10) dX7_puts_93 rfl rfl ?_
              exact wv_ireturn rfl dX7_puts_95 (wd_liv h)
            · have h := (if_pos c8).symm.trans h
              refine wv_weak (L' := [some (.inr 0), none, none, none, none]) ⟨rfl, trivial⟩ ?_
              exact t_X7_puts_b54 G d hd μ  h
        · have h := (if_neg c4).symm.trans h
          refine wv_weak (L' := [some (.inr 0), none, none, none, none]) ⟨rfl, trivial⟩ ?_
          exact t_X7_puts_b28 G d hd μ  h
set_option maxRecDepth 100000 in
set_option maxHeartbeats 4000000 in
theorem c_X7_puts (G : wd_G) (d : Nat) (hd : 4 ≤ d) {μ : wd_Mem} {x1 x2 x3 : Int32} {out : Int32 × wd_Mem}  (h : X7_puts μ x1 x2 x3 = some out) : wd_C G d yX7_puts [.inr 0, .inl x1, .inl x2, .inl x3] μ (fun r u => r = some (.inl out.1) ∧ u = out.2) := by
  obtain ⟨d, rfl⟩ : ∃ e, d = e + 1 := ⟨d - 1, by omega⟩
  refine wd_enter mc_X7_puts (by decide) (by decide +kernel) rfl (Nat.le_of_ble_eq_true rfl) (L0 := [some (.inr 0), some (.inl x1), some (.inl x2), some (.inl x3), none]) rfl ?_
  exact t_X7_puts_b0 G d (by omega) μ x1 x2 x3 h
set_option maxRecDepth 100000 in
set_option maxHeartbeats 4000000 in
theorem t_X0_giveBack_b0 (G : wd_G) (d : Nat) (hd : 1 ≤ d) {out : wd_Mem} (h1 : Nat) (μ : wd_Mem) (w1 : wd_isW h1) (h : X0_giveBack_b0 h1 μ = some out) : wd_V G (d + 1) RX0 cX0_giveBack 2 none (fun r u => r = none ∧ u = out) 0 [some (.inr 27), some (.inr h1)] [] μ := by
  unfold X0_giveBack_b0 at h
  refine wv_aload_n (pc' := 1) (i := 0) (v := 27) dX0_giveBack_0 rfl rfl rfl ?_
  refine wv_gi (pc' := 4) g_X0_26_27 dX0_giveBack_1 rfl ?_
  refine wv_if_le (pc' := 7) (tgt := 46) dX0_giveBack_4 (by decide) rfl (fun c1 => ?_) (fun c1 => ?_)
  · have h := (if_pos c1).symm.trans h
    exact wv_return rfl dX0_giveBack_46 (wd_lv h)
  · have h := (if_neg c1).symm.trans h
    refine wv_aload_n (pc' := 8) (i := 1) (v := h1) dX0_giveBack_7 rfl rfl rfl ?_
    refine wv_aload_n (pc' := 9) (i := 0) (v := 27) dX0_giveBack_8 rfl rfl rfl ?_
    refine wv_gr (pc' := 12) g_X0_11_27 dX0_giveBack_9 rfl ?_
    refine wv_aload_n (pc' := 13) (i := 0) (v := 27) dX0_giveBack_12 rfl rfl rfl ?_
    refine wv_gi (pc' := 16) g_X0_18_27 dX0_giveBack_13 rfl ?_
    obtain ⟨g2, h⟩ := wd_chk_some h
    obtain ⟨a16, ea16, h⟩ := wd_bind_some h
    have wa16 : wd_isW a16 := wd_ringW ea16
    refine wv_aald (pc' := 17) sr_28 (wd_in_vp g2) ea16 dX0_giveBack_16 rfl ?_
    obtain ⟨r3, er3, h⟩ := wd_bind_some h
    refine wv_callVv (pc' := 20) (ν := r3) [.inr a16] ml_X0_22 (wd_rcW w1) rfl (Nat.le_of_ble_eq_true rfl) dX0_giveBack_17 rfl (c_X6_take G d (Nat.le_trans (Nat.le_of_ble_eq_true rfl) hd) w1 wa16 er3) ?_
    refine wv_aload_n (pc' := 21) (i := 0) (v := 27) dX0_giveBack_20 rfl rfl rfl ?_
    refine wv_aload_n (pc' := 22) (i := 0) (v := 27) dX0_giveBack_21 rfl rfl rfl ?_
    refine wv_gi (pc' := 25) g_X0_18_27 dX0_giveBack_22 rfl ?_
    refine wv_bipush (pc' := 27) dX0_giveBack_25 bp_10 rfl ?_
    refine wv_iadd (pc' := 28) dX0_giveBack_27 rfl ?_
    refine wv_iconst (pc' := 29) dX0_giveBack_28 ic_1 rfl ?_
    refine wv_isub (pc' := 30) dX0_giveBack_29 rfl ?_
    refine wv_bipush (pc' := 32) dX0_giveBack_30 bp_10 rfl ?_
    obtain ⟨g4, h⟩ := wd_chk_some h
    refine wv_irem (pc' := 33) dX0_giveBack_32 (wd_nz_ne g4) rfl ?_
    refine wv_pi (pc' := 36) p_X0_18_27 dX0_giveBack_33 rfl ?_
    refine wv_aload_n (pc' := 37) (i := 0) (v := 27) dX0_giveBack_36 rfl rfl rfl ?_
    refine wv_dup (pc' := 38) dX0_giveBack_37 rfl ?_
    refine wv_giE (pc' := 41) (v := (r3 27 2)) g_X0_26_27 dX0_giveBack_38 rfl rfl ?_
    refine wv_iconst (pc' := 42) dX0_giveBack_41 ic_1 rfl ?_
    refine wv_isub (pc' := 43) dX0_giveBack_42 rfl ?_
    refine wv_pi (pc' := 46) p_X0_26_27 dX0_giveBack_43 rfl ?_
    exact wv_return rfl dX0_giveBack_46 (wd_lv h)
set_option maxRecDepth 100000 in
set_option maxHeartbeats 4000000 in
theorem c_X0_giveBack (G : wd_G) (d : Nat) (hd : 2 ≤ d) {h1 : Nat} {μ : wd_Mem} {out : wd_Mem} (w1 : wd_isW h1) (h : X0_giveBack h1 μ = some out) : wd_C G d yX0_giveBack [.inr 27, .inr h1] μ (fun r u => r = none ∧ u = out) := by
  obtain ⟨d, rfl⟩ : ∃ e, d = e + 1 := ⟨d - 1, by omega⟩
  refine wd_enter mc_X0_giveBack (by decide) (by decide +kernel) rfl (Nat.le_of_ble_eq_true rfl) (L0 := [some (.inr 27), some (.inr h1)]) rfl ?_
  exact t_X0_giveBack_b0 G d (by omega) h1 μ  w1 h
set_option maxRecDepth 100000 in
set_option maxHeartbeats 4000000 in
theorem t_X7_undo_b0 (G : wd_G) (d : Nat) (hd : 2 ≤ d) {out : Int32 × wd_Mem} (μ : wd_Mem)  (h : X7_undo_b0 μ = some out) : wd_V G (d + 1) RX7 cX7_undo 1 (some .int) (fun r u => r = some (.inl out.1) ∧ u = out.2) 0 [some (.inr 0)] [] μ := by
  unfold X7_undo_b0 at h
  refine wv_aload_n (pc' := 1) (i := 0) (v := 0) dX7_undo_0 rfl rfl rfl ?_
  refine wv_gr (pc' := 4) g_X7_47_0 dX7_undo_1 rfl ?_
  refine wv_gi (pc' := 7) g_X7_94_27 dX7_undo_4 rfl ?_
  refine wv_if_ne (pc' := 10) (tgt := 13) dX7_undo_7 (by decide) rfl (fun c1 => ?_) (fun c1 => ?_)
  · have h := (if_neg c1).symm.trans h
    refine wv_aload_n (pc' := 14) (i := 0) (v := 0) dX7_undo_13 rfl rfl rfl ?_
    refine wv_gr (pc' := 17) g_X7_47_0 dX7_undo_14 rfl ?_
    refine wv_aload_n (pc' := 18) (i := 0) (v := 0) dX7_undo_17 rfl rfl rfl ?_
    refine wv_gr (pc' := 21) g_X7_29_0 dX7_undo_18 rfl ?_
    obtain ⟨r2, er2, h⟩ := wd_bind_some h
    refine wv_callVv (pc' := 24) (ν := r2) [.inr 48] ml_X7_165 rc_27 rfl (Nat.le_of_ble_eq_true rfl) dX7_undo_21 rfl (c_X0_giveBack G d (Nat.le_trans (Nat.le_of_ble_eq_true rfl) hd) sh_48 er2) ?_
    refine wv_aload_n (pc' := 25) (i := 0) (v := 0) dX7_undo_24 rfl rfl rfl ?_
    refine wv_gr (pc' := 28) g_X7_47_0 dX7_undo_25 rfl ?_
    refine wv_gi (pc' := 31) g_X7_94_27 dX7_undo_28 rfl ?_
    exact wv_ireturn rfl dX7_undo_31 (wd_liv h)
  · have h := (if_pos c1).symm.trans h
    refine wv_bipush (pc' := 12) dX7_undo_10 bp_m2 rfl ?_
    exact wv_ireturn rfl dX7_undo_12 (wd_liv h)
set_option maxRecDepth 100000 in
set_option maxHeartbeats 4000000 in
theorem c_X7_undo (G : wd_G) (d : Nat) (hd : 3 ≤ d) {μ : wd_Mem} {out : Int32 × wd_Mem}  (h : X7_undo μ = some out) : wd_C G d yX7_undo [.inr 0] μ (fun r u => r = some (.inl out.1) ∧ u = out.2) := by
  obtain ⟨d, rfl⟩ : ∃ e, d = e + 1 := ⟨d - 1, by omega⟩
  refine wd_enter mc_X7_undo (by decide) (by decide +kernel) rfl (Nat.le_of_ble_eq_true rfl) (L0 := [some (.inr 0)]) rfl ?_
  exact t_X7_undo_b0 G d (by omega) μ  h
set_option maxRecDepth 100000 in
set_option maxHeartbeats 4000000 in
theorem t_X4_hasSet_b18 (G : wd_G) (d : Nat) (hd : 0 ≤ d) {out : Int32} (h0 : Nat) (μ : wd_Mem) (w0 : wd_isT h0) (h : X4_hasSet_b18 h0 μ = out) : wd_V G (d + 1) RX4 cX4_hasSet 2 (some .boolean) (fun r u => r = some (.inl out) ∧ u = μ) 18 [some (.inr h0), none] [] μ := by
  unfold X4_hasSet_b18 at h
  refine wv_iconst (pc' := 19) dX4_hasSet_18 ic_0 rfl ?_
  exact wv_zreturn rfl rfl dX4_hasSet_19 (wd_lt h)
set_option maxRecDepth 100000 in
set_option maxHeartbeats 4000000 in
theorem t_X4_hasSet_b0 (G : wd_G) (d : Nat) (hd : 0 ≤ d) {out : Int32} (h0 : Nat) (μ : wd_Mem) (x1 : Int32) (w0 : wd_isT h0) (h : X4_hasSet_b0 h0 μ x1 = out) : wd_V G (d + 1) RX4 cX4_hasSet 2 (some .boolean) (fun r u => r = some (.inl out) ∧ u = μ) 0 [some (.inr h0), some (.inl x1)] [] μ := by
  unfold X4_hasSet_b0 at h
  refine wv_iload_n (pc' := 1) (i := 1) (v := x1) dX4_hasSet_0 rfl rfl rfl ?_
  refine wv_if_lt (pc' := 4) (tgt := 18) dX4_hasSet_1 (by decide) rfl (fun c1 => ?_) (fun c1 => ?_)
  · have h := (if_pos c1).symm.trans h
    refine wv_weak (L' := [some (.inr h0), none]) ⟨rfl, trivial⟩ ?_
    exact t_X4_hasSet_b18 G d hd h0 μ w0 h
  · have h := (if_neg c1).symm.trans h
    refine wv_iload_n (pc' := 5) (i := 1) (v := x1) dX4_hasSet_4 rfl rfl rfl ?_
    refine wv_iconst (pc' := 6) dX4_hasSet_5 ic_1 rfl ?_
    refine wv_aload_n (pc' := 7) (i := 0) (v := h0) dX4_hasSet_6 rfl rfl rfl ?_
    refine wv_gi (pc' := 10) (g_X4_22_T w0) dX4_hasSet_7 rfl ?_
    refine wv_ishl (pc' := 11) dX4_hasSet_10 rfl ?_
    refine wv_icmp_ge (pc' := 14) (tgt := 18) dX4_hasSet_11 (by decide) rfl (fun c2 => ?_) (fun c2 => ?_)
    · have h := (if_pos c2).symm.trans h
      refine wv_weak (L' := [some (.inr h0), none]) ⟨rfl, trivial⟩ ?_
      exact t_X4_hasSet_b18 G d hd h0 μ w0 h
    · have h := (if_neg c2).symm.trans h
      refine wv_iconst (pc' := 15) dX4_hasSet_14 ic_1 rfl ?_
      refine wv_goto (pc' := 19) dX4_hasSet_15 (by decide) ?_
      exact wv_zreturn rfl rfl dX4_hasSet_19 (wd_lt h)
set_option maxRecDepth 100000 in
set_option maxHeartbeats 4000000 in
theorem c_X4_hasSet (G : wd_G) (d : Nat) (hd : 1 ≤ d) {h0 : Nat} {μ : wd_Mem} {x1 : Int32} {out : Int32} (w0 : wd_isT h0) (h : X4_hasSet h0 μ x1 = out) : wd_C G d yX4_hasSet [.inr h0, .inl x1] μ (fun r u => r = some (.inl out) ∧ u = μ) := by
  obtain ⟨d, rfl⟩ : ∃ e, d = e + 1 := ⟨d - 1, by omega⟩
  refine wd_enter mc_X4_hasSet (by decide) (by decide +kernel) rfl (Nat.le_of_ble_eq_true rfl) (L0 := [some (.inr h0), some (.inl x1)]) rfl ?_
  exact t_X4_hasSet_b0 G d (by omega) h0 μ x1 w0 h
set_option maxRecDepth 100000 in
set_option maxHeartbeats 4000000 in
theorem t_X3_wrapOf_c4 (G : wd_G) (d : Nat) (hd : 0 ≤ d) {out : Int32} (rec : Int32 → Int32 → Option (Int32)) (k : Int32 → Option (Int32)) (μ : wd_Mem) (x1 x2 x3 : Int32) (hrec : ∀ (x2 x3 : Int32), rec x2 x3 = some out → wd_V G (d + 1) RX3 cX3_wrapOf 4 (some .int) (fun r u => r = some (.inl out) ∧ u = μ) 4 [some (.inr 9), some (.inl x1), some (.inl x2), some (.inl x3)] [] μ) (hk : ∀ (x2 : Int32), k x2 = some out → wd_V G (d + 1) RX3 cX3_wrapOf 4 (some .int) (fun r u => r = some (.inl out) ∧ u = μ) 43 [some (.inr 9), none, some (.inl x2), none] [] μ) (h : X3_wrapOf_c4 rec k μ x1 x2 x3 = some out) : wd_V G (d + 1) RX3 cX3_wrapOf 4 (some .int) (fun r u => r = some (.inl out) ∧ u = μ) 4 [some (.inr 9), some (.inl x1), some (.inl x2), some (.inl x3)] [] μ := by
  unfold X3_wrapOf_c4 at h
  refine wv_iload_n (pc' := 5) (i := 3) (v := x3) dX3_wrapOf_4 rfl rfl rfl ?_
  refine wv_if_le (pc' := 8) (tgt := 43) dX3_wrapOf_5 (by decide) rfl (fun c1 => ?_) (fun c1 => ?_)
  · have h := (if_pos c1).symm.trans h
    refine wv_weak (L' := [some (.inr 9), none, some (.inl x2), none]) ⟨rfl, rfl, trivial⟩ ?_
    exact hk _ h
  · have h := (if_neg c1).symm.trans h
    refine wv_iload_n (pc' := 9) (i := 2) (v := x2) dX3_wrapOf_8 rfl rfl rfl ?_
    refine wv_aload_n (pc' := 10) (i := 0) (v := 9) dX3_wrapOf_9 rfl rfl rfl ?_
    refine wv_gr (pc' := 13) g_X3_36_9 dX3_wrapOf_10 rfl ?_
    refine wv_gi (pc' := 16) g_X3_74_3 dX3_wrapOf_13 rfl ?_
    refine wv_aload_n (pc' := 17) (i := 0) (v := 9) dX3_wrapOf_16 rfl rfl rfl ?_
    refine wv_gr (pc' := 20) g_X3_24_9 dX3_wrapOf_17 rfl ?_
    refine wv_iload_n (pc' := 21) (i := 3) (v := x3) dX3_wrapOf_20 rfl rfl rfl ?_
    obtain ⟨g2, h⟩ := wd_chk_some h
    refine wv_iald (pc' := 22) sa_14 (wd_in_vp g2) dX3_wrapOf_21 rfl ?_
    refine wv_imul (pc' := 23) dX3_wrapOf_22 rfl ?_
    refine wv_aload_n (pc' := 24) (i := 0) (v := 9) dX3_wrapOf_23 rfl rfl rfl ?_
    refine wv_gr (pc' := 27) g_X3_33_9 dX3_wrapOf_24 rfl ?_
    refine wv_iload_n (pc' := 28) (i := 3) (v := x3) dX3_wrapOf_27 rfl rfl rfl ?_
    refine wv_iald (pc' := 29) sa_17 (wd_in_vp g2) dX3_wrapOf_28 rfl ?_
    refine wv_iadd (pc' := 30) dX3_wrapOf_29 rfl ?_
    refine wv_max (pc' := 33) mm_X3_64 (Nat.le_of_ble_eq_true rfl) dX3_wrapOf_30 rfl ?_
    refine wv_istore_n (pc' := 34) (i := 2) (L' := [some (.inr 9), some (.inl x1), some (.inl (if x2 < (((μ 3 0) * (μ 14 (Int32.toNatClampNeg x3))) + (μ 17 (Int32.toNatClampNeg x3))) then (((μ 3 0) * (μ 14 (Int32.toNatClampNeg x3))) + (μ 17 (Int32.toNatClampNeg x3))) else x2)), some (.inl x3)]) dX3_wrapOf_33 rfl (by decide) rfl rfl ?_
    refine wv_iload_n (pc' := 35) (i := 3) (v := x3) dX3_wrapOf_34 rfl rfl rfl ?_
    refine wv_iconst (pc' := 36) dX3_wrapOf_35 ic_1 rfl ?_
    refine wv_isub (pc' := 37) dX3_wrapOf_36 rfl ?_
    refine wv_iload_n (pc' := 38) (i := 1) (v := x1) dX3_wrapOf_37 rfl rfl rfl ?_
    refine wv_iand (pc' := 39) dX3_wrapOf_38 rfl ?_
    refine wv_istore_n (pc' := 40) (i := 3) (L' := [some (.inr 9), some (.inl x1), some (.inl (if x2 < (((μ 3 0) * (μ 14 (Int32.toNatClampNeg x3))) + (μ 17 (Int32.toNatClampNeg x3))) then (((μ 3 0) * (μ 14 (Int32.toNatClampNeg x3))) + (μ 17 (Int32.toNatClampNeg x3))) else x2)), some (.inl ((x3 - (1 : Int32)) &&& x1))]) dX3_wrapOf_39 rfl (by decide) rfl rfl ?_
    refine wv_goto (pc' := 4) dX3_wrapOf_40 (by decide) ?_
    exact hrec _ _ h
set_option maxRecDepth 100000 in
set_option maxHeartbeats 4000000 in
theorem t_X3_wrapOf_l4 (G : wd_G) (d : Nat) (hd : 0 ≤ d) {out : Int32} (k : Int32 → Option (Int32)) (μ : wd_Mem) (x1 : Int32) (hk : ∀ (x2 : Int32), k x2 = some out → wd_V G (d + 1) RX3 cX3_wrapOf 4 (some .int) (fun r u => r = some (.inl out) ∧ u = μ) 43 [some (.inr 9), none, some (.inl x2), none] [] μ) : ∀ (n : Nat) (x2 x3 : Int32), X3_wrapOf_l4 k μ x1 n x2 x3 = some out → wd_V G (d + 1) RX3 cX3_wrapOf 4 (some .int) (fun r u => r = some (.inl out) ∧ u = μ) 4 [some (.inr 9), some (.inl x1), some (.inl x2), some (.inl x3)] [] μ := by
  intro n
  induction n with
  | zero => intro x2 x3 h; exact absurd h (by unfold X3_wrapOf_l4; simp)
  | succ n ih =>
    intro x2 x3 h
    exact t_X3_wrapOf_c4 G d hd (X3_wrapOf_l4 k μ x1 n) k μ x1 x2 x3  (fun x2 x3 h => ih x2 x3 h) hk h
set_option maxRecDepth 100000 in
set_option maxHeartbeats 4000000 in
theorem t_X3_wrapOf_b43 (G : wd_G) (d : Nat) (hd : 0 ≤ d) {out : Int32} (μ : wd_Mem) (x2 : Int32)  (h : X3_wrapOf_b43 μ x2 = some out) : wd_V G (d + 1) RX3 cX3_wrapOf 4 (some .int) (fun r u => r = some (.inl out) ∧ u = μ) 43 [some (.inr 9), none, some (.inl x2), none] [] μ := by
  unfold X3_wrapOf_b43 at h
  refine wv_iload_n (pc' := 44) (i := 2) (v := x2) dX3_wrapOf_43 rfl rfl rfl ?_
  exact wv_ireturn rfl dX3_wrapOf_44 (wd_li h)
set_option maxRecDepth 100000 in
set_option maxHeartbeats 4000000 in
theorem t_X3_wrapOf_b0 (G : wd_G) (d : Nat) (hd : 0 ≤ d) {out : Int32} (μ : wd_Mem) (x1 : Int32)  (h : X3_wrapOf_b0 μ x1 = some out) : wd_V G (d + 1) RX3 cX3_wrapOf 4 (some .int) (fun r u => r = some (.inl out) ∧ u = μ) 0 [some (.inr 9), some (.inl x1), none, none] [] μ := by
  unfold X3_wrapOf_b0 at h
  refine wv_iconst (pc' := 1) dX3_wrapOf_0 ic_0 rfl ?_
  refine wv_istore_n (pc' := 2) (i := 2) (L' := [some (.inr 9), some (.inl x1), some (.inl (0 : Int32)), none]) dX3_wrapOf_1 rfl (by decide) rfl rfl ?_
  refine wv_iload_n (pc' := 3) (i := 1) (v := x1) dX3_wrapOf_2 rfl rfl rfl ?_
  refine wv_istore_n (pc' := 4) (i := 3) (L' := [some (.inr 9), some (.inl x1), some (.inl (0 : Int32)), some (.inl x1)]) dX3_wrapOf_3 rfl (by decide) rfl rfl ?_
  exact t_X3_wrapOf_l4 G d hd (fun x2 => X3_wrapOf_b43 μ x2) μ x1  (fun x2 h => t_X3_wrapOf_b43 G d hd μ x2  h) wd_big (0 : Int32) x1 h
set_option maxRecDepth 100000 in
set_option maxHeartbeats 4000000 in
theorem c_X3_wrapOf (G : wd_G) (d : Nat) (hd : 1 ≤ d) {μ : wd_Mem} {x1 : Int32} {out : Int32}  (h : X3_wrapOf μ x1 = some out) : wd_C G d yX3_wrapOf [.inr 9, .inl x1] μ (fun r u => r = some (.inl out) ∧ u = μ) := by
  obtain ⟨d, rfl⟩ : ∃ e, d = e + 1 := ⟨d - 1, by omega⟩
  refine wd_enter mc_X3_wrapOf (by decide) (by decide +kernel) rfl (Nat.le_of_ble_eq_true rfl) (L0 := [some (.inr 9), some (.inl x1), none, none]) rfl ?_
  exact t_X3_wrapOf_b0 G d (by omega) μ x1 h
set_option maxRecDepth 100000 in
set_option maxHeartbeats 4000000 in
theorem t_X7_wrap_b15 (G : wd_G) (d : Nat) (hd : 3 ≤ d) {out : Int32 × wd_Mem} (μ : wd_Mem)  (h : X7_wrap_b15 μ = some out) : wd_V G (d + 1) RX7 cX7_wrap 2 (some .int) (fun r u => r = some (.inl out.1) ∧ u = out.2) 15 [some (.inr 0), none] [] μ := by
  unfold X7_wrap_b15 at h
  refine wv_iconst (pc' := 16) dX7_wrap_15 ic_m1 rfl ?_
  exact wv_ireturn rfl dX7_wrap_16 (wd_liv h)
set_option maxRecDepth 100000 in
set_option maxHeartbeats 4000000 in
theorem t_X7_wrap_b0 (G : wd_G) (d : Nat) (hd : 3 ≤ d) {out : Int32 × wd_Mem} (μ : wd_Mem) (x1 : Int32)  (h : X7_wrap_b0 μ x1 = some out) : wd_V G (d + 1) RX7 cX7_wrap 2 (some .int) (fun r u => r = some (.inl out.1) ∧ u = out.2) 0 [some (.inr 0), some (.inl x1)] [] μ := by
  unfold X7_wrap_b0 at h
  refine wv_iload_n (pc' := 1) (i := 1) (v := x1) dX7_wrap_0 rfl rfl rfl ?_
  refine wv_if_eq (pc' := 4) (tgt := 15) dX7_wrap_1 (by decide) rfl (fun c1 => ?_) (fun c1 => ?_)
  · have h := (if_pos c1).symm.trans h
    refine wv_weak (L' := [some (.inr 0), none]) ⟨rfl, trivial⟩ ?_
    exact t_X7_wrap_b15 G d hd μ  h
  · have h := (if_neg c1).symm.trans h
    refine wv_aload_n (pc' := 5) (i := 0) (v := 0) dX7_wrap_4 rfl rfl rfl ?_
    refine wv_gr (pc' := 8) g_X7_19_0 dX7_wrap_5 rfl ?_
    refine wv_iload_n (pc' := 9) (i := 1) (v := x1) dX7_wrap_8 rfl rfl rfl ?_
    refine wv_callVi (pc' := 12) (x := (X4_hasSet 3 μ x1)) (ν := μ) [.inl x1] ml_X7_168 rc_3 rfl (Nat.le_of_ble_eq_true rfl) dX7_wrap_9 rfl (c_X4_hasSet G d (Nat.le_trans (Nat.le_of_ble_eq_true rfl) hd) (Or.inl rfl) rfl) ?_
    refine wv_if_ne (pc' := 15) (tgt := 17) dX7_wrap_12 (by decide) rfl (fun c2 => ?_) (fun c2 => ?_)
    · have h := (if_neg c2).symm.trans h
      refine wv_aload_n (pc' := 18) (i := 0) (v := 0) dX7_wrap_17 rfl rfl rfl ?_
      refine wv_gr (pc' := 21) g_X7_56_0 dX7_wrap_18 rfl ?_
      refine wv_aload_n (pc' := 22) (i := 0) (v := 0) dX7_wrap_21 rfl rfl rfl ?_
      refine wv_gr (pc' := 25) g_X7_29_0 dX7_wrap_22 rfl ?_
      refine wv_iconst (pc' := 26) dX7_wrap_25 ic_0 rfl ?_
      obtain ⟨r3, er3, h⟩ := wd_bind_some h
      refine wv_callVv (pc' := 29) (ν := r3) [.inr 48, .inl (0 : Int32)] ml_X7_127 rc_9 rfl (Nat.le_of_ble_eq_true rfl) dX7_wrap_26 rfl (c_X3_look G d (Nat.le_trans (Nat.le_of_ble_eq_true rfl) hd) sh_48 er3) ?_
      refine wv_aload_n (pc' := 30) (i := 0) (v := 0) dX7_wrap_29 rfl rfl rfl ?_
      refine wv_gr (pc' := 33) g_X7_56_0 dX7_wrap_30 rfl ?_
      refine wv_iload_n (pc' := 34) (i := 1) (v := x1) dX7_wrap_33 rfl rfl rfl ?_
      obtain ⟨r4, er4, h⟩ := wd_bind_some h
      refine wv_callVi (pc' := 37) (x := r4) (ν := r3) [.inl x1] ml_X7_171 rc_9 rfl (Nat.le_of_ble_eq_true rfl) dX7_wrap_34 rfl (c_X3_wrapOf G d (Nat.le_trans (Nat.le_of_ble_eq_true rfl) hd)  er4) ?_
      exact wv_ireturn rfl dX7_wrap_37 (wd_liv h)
    · have h := (if_pos c2).symm.trans h
      refine wv_weak (L' := [some (.inr 0), none]) ⟨rfl, trivial⟩ ?_
      exact t_X7_wrap_b15 G d hd μ  h
set_option maxRecDepth 100000 in
set_option maxHeartbeats 4000000 in
theorem c_X7_wrap (G : wd_G) (d : Nat) (hd : 4 ≤ d) {μ : wd_Mem} {x1 : Int32} {out : Int32 × wd_Mem}  (h : X7_wrap μ x1 = some out) : wd_C G d yX7_wrap [.inr 0, .inl x1] μ (fun r u => r = some (.inl out.1) ∧ u = out.2) := by
  obtain ⟨d, rfl⟩ : ∃ e, d = e + 1 := ⟨d - 1, by omega⟩
  refine wd_enter mc_X7_wrap (by decide) (by decide +kernel) rfl (Nat.le_of_ble_eq_true rfl) (L0 := [some (.inr 0), some (.inl x1)]) rfl ?_
  exact t_X7_wrap_b0 G d (by omega) μ x1 h
set_option maxRecDepth 100000 in
set_option maxHeartbeats 4000000 in
theorem t_X3_greyest_b60 (G : wd_G) (d : Nat) (hd : 1 ≤ d) {out : Int32} (rec : Int32 → Int32 → Int32 → Option (Int32)) (k : Int32 → Option (Int32)) (μ : wd_Mem) (x1 x2 x3 x4 x5 : Int32) (hrec : ∀ (x3 x4 x5 : Int32), rec x3 x4 x5 = some out → wd_V G (d + 1) RX3 cX3_greyest 6 (some .int) (fun r u => r = some (.inl out) ∧ u = μ) 8 [some (.inr 9), some (.inl x1), some (.inl x2), some (.inl x3), some (.inl x4), some (.inl x5)] [] μ) (hk : ∀ (x3 : Int32), k x3 = some out → wd_V G (d + 1) RX3 cX3_greyest 6 (some .int) (fun r u => r = some (.inl out) ∧ u = μ) 66 [some (.inr 9), none, none, some (.inl x3), none, none] [] μ) (h : X3_greyest_b60 rec k μ x1 x2 x3 x4 x5 = some out) : wd_V G (d + 1) RX3 cX3_greyest 6 (some .int) (fun r u => r = some (.inl out) ∧ u = μ) 60 [some (.inr 9), some (.inl x1), some (.inl x2), some (.inl x3), some (.inl x4), some (.inl x5)] [] μ := by
  unfold X3_greyest_b60 at h
  refine wv_inc (pc' := 63) (x := x5) (L' := [some (.inr 9), some (.inl x1), some (.inl x2), some (.inl x3), some (.inl x4), some (.inl (x5 + (1 : Int32)))]) dX3_greyest_60 ic_1 rfl (by decide) rfl rfl ?_
  refine wv_goto (pc' := 8) dX3_greyest_63 (by decide) ?_
  exact hrec _ _ _ h
set_option maxRecDepth 100000 in
set_option maxHeartbeats 4000000 in
theorem t_X3_greyest_c8 (G : wd_G) (d : Nat) (hd : 1 ≤ d) {out : Int32} (rec : Int32 → Int32 → Int32 → Option (Int32)) (k : Int32 → Option (Int32)) (μ : wd_Mem) (x1 x2 x3 x4 x5 : Int32) (hrec : ∀ (x3 x4 x5 : Int32), rec x3 x4 x5 = some out → wd_V G (d + 1) RX3 cX3_greyest 6 (some .int) (fun r u => r = some (.inl out) ∧ u = μ) 8 [some (.inr 9), some (.inl x1), some (.inl x2), some (.inl x3), some (.inl x4), some (.inl x5)] [] μ) (hk : ∀ (x3 : Int32), k x3 = some out → wd_V G (d + 1) RX3 cX3_greyest 6 (some .int) (fun r u => r = some (.inl out) ∧ u = μ) 66 [some (.inr 9), none, none, some (.inl x3), none, none] [] μ) (h : X3_greyest_c8 rec k μ x1 x2 x3 x4 x5 = some out) : wd_V G (d + 1) RX3 cX3_greyest 6 (some .int) (fun r u => r = some (.inl out) ∧ u = μ) 8 [some (.inr 9), some (.inl x1), some (.inl x2), some (.inl x3), some (.inl x4), some (.inl x5)] [] μ := by
  unfold X3_greyest_c8 at h
  refine wv_iload (pc' := 10) (v := x5) dX3_greyest_8 rfl rfl ?_
  refine wv_aload_n (pc' := 11) (i := 0) (v := 9) dX3_greyest_10 rfl rfl rfl ?_
  refine wv_gr (pc' := 14) g_X3_36_9 dX3_greyest_11 rfl ?_
  refine wv_gi (pc' := 17) g_X3_40_3 dX3_greyest_14 rfl ?_
  refine wv_icmp_ge (pc' := 20) (tgt := 66) dX3_greyest_17 (by decide) rfl (fun c1 => ?_) (fun c1 => ?_)
  · have h := (if_pos c1).symm.trans h
    refine wv_weak (L' := [some (.inr 9), none, none, some (.inl x3), none, none]) ⟨rfl, rfl, trivial⟩ ?_
    exact hk _ h
  · have h := (if_neg c1).symm.trans h
    refine wv_iload_n (pc' := 21) (i := 2) (v := x2) dX3_greyest_20 rfl rfl rfl ?_
    refine wv_iload (pc' := 23) (v := x5) dX3_greyest_21 rfl rfl ?_
    refine wv_ishr (pc' := 24) dX3_greyest_23 rfl ?_
    refine wv_iconst (pc' := 25) dX3_greyest_24 ic_1 rfl ?_
    refine wv_iand (pc' := 26) dX3_greyest_25 rfl ?_
    refine wv_iconst (pc' := 27) dX3_greyest_26 ic_1 rfl ?_
    refine wv_icmp_ne (pc' := 30) (tgt := 60) dX3_greyest_27 (by decide) rfl (fun c2 => ?_) (fun c2 => ?_)
    · have h := (if_neg c2).symm.trans h
      exact t_X3_greyest_b60 G d hd rec k μ x1 x2 x3 x4 x5 hrec hk h
    · have h := (if_pos c2).symm.trans h
      refine wv_aload_n (pc' := 31) (i := 0) (v := 9) dX3_greyest_30 rfl rfl rfl ?_
      refine wv_iload_n (pc' := 32) (i := 1) (v := x1) dX3_greyest_31 rfl rfl rfl ?_
      refine wv_iconst (pc' := 33) dX3_greyest_32 ic_1 rfl ?_
      refine wv_iload (pc' := 35) (v := x5) dX3_greyest_33 rfl rfl ?_
      refine wv_ishl (pc' := 36) dX3_greyest_35 rfl ?_
      refine wv_ior (pc' := 37) dX3_greyest_36 rfl ?_
      obtain ⟨r3, er3, h⟩ := wd_bind_some h
      refine wv_callVi (pc' := 40) (x := r3) (ν := μ) [.inl (x1 ||| ((1 : Int32) <<< (x5 &&& 31)))] ml_X3_84 rc_9 rfl (Nat.le_of_ble_eq_true rfl) dX3_greyest_37 rfl (c_X3_wrapOf G d (Nat.le_trans (Nat.le_of_ble_eq_true rfl) hd)  er3) ?_
      refine wv_iload (pc' := 42) (v := x4) dX3_greyest_40 rfl rfl ?_
      refine wv_icmp_le (pc' := 45) (tgt := 60) dX3_greyest_42 (by decide) rfl (fun c4 => ?_) (fun c4 => ?_)
      · have h := (if_pos c4).symm.trans h
        exact t_X3_greyest_b60 G d hd rec k μ x1 x2 x3 x4 x5 hrec hk h
      · have h := (if_neg c4).symm.trans h
        refine wv_aload_n (pc' := 46) (i := 0) (v := 9) dX3_greyest_45 rfl rfl rfl ?_
        refine wv_iload_n (pc' := 47) (i := 1) (v := x1) dX3_greyest_46 rfl rfl rfl ?_
        refine wv_iconst (pc' := 48) dX3_greyest_47 ic_1 rfl ?_
        refine wv_iload (pc' := 50) (v := x5) dX3_greyest_48 rfl rfl ?_
        refine wv_ishl (pc' := 51) dX3_greyest_50 rfl ?_
        refine wv_ior (pc' := 52) dX3_greyest_51 rfl ?_
        obtain ⟨r5, er5, h⟩ := wd_bind_some h
        refine wv_callVi (pc' := 55) (x := r5) (ν := μ) [.inl (x1 ||| ((1 : Int32) <<< (x5 &&& 31)))] ml_X3_84 rc_9 rfl (Nat.le_of_ble_eq_true rfl) dX3_greyest_52 rfl (c_X3_wrapOf G d (Nat.le_trans (Nat.le_of_ble_eq_true rfl) hd)  er5) ?_
        refine wv_istore (pc' := 57) (L' := [some (.inr 9), some (.inl x1), some (.inl x2), some (.inl x3), some (.inl r5), some (.inl x5)]) dX3_greyest_55 (by decide) rfl rfl ?_
        refine wv_iload (pc' := 59) (v := x5) dX3_greyest_57 rfl rfl ?_
        refine wv_istore_n (pc' := 60) (i := 3) (L' := [some (.inr 9), some (.inl x1), some (.inl x2), some (.inl x5), some (.inl r5), some (.inl x5)]) dX3_greyest_59 rfl (by decide) rfl rfl ?_
        exact t_X3_greyest_b60 G d hd rec k μ x1 x2 x5 r5 x5 hrec hk h
set_option maxRecDepth 100000 in
set_option maxHeartbeats 4000000 in
theorem t_X3_greyest_l8 (G : wd_G) (d : Nat) (hd : 1 ≤ d) {out : Int32} (k : Int32 → Option (Int32)) (μ : wd_Mem) (x1 x2 : Int32) (hk : ∀ (x3 : Int32), k x3 = some out → wd_V G (d + 1) RX3 cX3_greyest 6 (some .int) (fun r u => r = some (.inl out) ∧ u = μ) 66 [some (.inr 9), none, none, some (.inl x3), none, none] [] μ) : ∀ (n : Nat) (x3 x4 x5 : Int32), X3_greyest_l8 k μ x1 x2 n x3 x4 x5 = some out → wd_V G (d + 1) RX3 cX3_greyest 6 (some .int) (fun r u => r = some (.inl out) ∧ u = μ) 8 [some (.inr 9), some (.inl x1), some (.inl x2), some (.inl x3), some (.inl x4), some (.inl x5)] [] μ := by
  intro n
  induction n with
  | zero => intro x3 x4 x5 h; exact absurd h (by unfold X3_greyest_l8; simp)
  | succ n ih =>
    intro x3 x4 x5 h
    exact t_X3_greyest_c8 G d hd (X3_greyest_l8 k μ x1 x2 n) k μ x1 x2 x3 x4 x5  (fun x3 x4 x5 h => ih x3 x4 x5 h) hk h
set_option maxRecDepth 100000 in
set_option maxHeartbeats 4000000 in
theorem t_X3_greyest_b66 (G : wd_G) (d : Nat) (hd : 1 ≤ d) {out : Int32} (μ : wd_Mem) (x3 : Int32)  (h : X3_greyest_b66 μ x3 = some out) : wd_V G (d + 1) RX3 cX3_greyest 6 (some .int) (fun r u => r = some (.inl out) ∧ u = μ) 66 [some (.inr 9), none, none, some (.inl x3), none, none] [] μ := by
  unfold X3_greyest_b66 at h
  refine wv_iload_n (pc' := 67) (i := 3) (v := x3) dX3_greyest_66 rfl rfl rfl ?_
  exact wv_ireturn rfl dX3_greyest_67 (wd_li h)
set_option maxRecDepth 100000 in
set_option maxHeartbeats 4000000 in
theorem t_X3_greyest_b0 (G : wd_G) (d : Nat) (hd : 1 ≤ d) {out : Int32} (μ : wd_Mem) (x1 x2 : Int32)  (h : X3_greyest_b0 μ x1 x2 = some out) : wd_V G (d + 1) RX3 cX3_greyest 6 (some .int) (fun r u => r = some (.inl out) ∧ u = μ) 0 [some (.inr 9), some (.inl x1), some (.inl x2), none, none, none] [] μ := by
  unfold X3_greyest_b0 at h
  refine wv_iconst (pc' := 1) dX3_greyest_0 ic_0 rfl ?_
  refine wv_istore_n (pc' := 2) (i := 3) (L' := [some (.inr 9), some (.inl x1), some (.inl x2), some (.inl (0 : Int32)), none, none]) dX3_greyest_1 rfl (by decide) rfl rfl ?_
  refine wv_iconst (pc' := 3) dX3_greyest_2 ic_m1 rfl ?_
  refine wv_istore (pc' := 5) (L' := [some (.inr 9), some (.inl x1), some (.inl x2), some (.inl (0 : Int32)), some (.inl (-1 : Int32)), none]) dX3_greyest_3 (by decide) rfl rfl ?_
  refine wv_iconst (pc' := 6) dX3_greyest_5 ic_0 rfl ?_
  refine wv_istore (pc' := 8) (L' := [some (.inr 9), some (.inl x1), some (.inl x2), some (.inl (0 : Int32)), some (.inl (-1 : Int32)), some (.inl (0 : Int32))]) dX3_greyest_6 (by decide) rfl rfl ?_
  exact t_X3_greyest_l8 G d hd (fun x3 => X3_greyest_b66 μ x3) μ x1 x2  (fun x3 h => t_X3_greyest_b66 G d hd μ x3  h) wd_big (0 : Int32) (-1 : Int32) (0 : Int32) h
set_option maxRecDepth 100000 in
set_option maxHeartbeats 4000000 in
theorem c_X3_greyest (G : wd_G) (d : Nat) (hd : 2 ≤ d) {μ : wd_Mem} {x1 x2 : Int32} {out : Int32}  (h : X3_greyest μ x1 x2 = some out) : wd_C G d yX3_greyest [.inr 9, .inl x1, .inl x2] μ (fun r u => r = some (.inl out) ∧ u = μ) := by
  obtain ⟨d, rfl⟩ : ∃ e, d = e + 1 := ⟨d - 1, by omega⟩
  refine wd_enter mc_X3_greyest (by decide) (by decide +kernel) rfl (Nat.le_of_ble_eq_true rfl) (L0 := [some (.inr 9), some (.inl x1), some (.inl x2), none, none, none]) rfl ?_
  exact t_X3_greyest_b0 G d (by omega) μ x1 x2 h
set_option maxRecDepth 100000 in
set_option maxHeartbeats 4000000 in
theorem t_X7_grey_b26 (G : wd_G) (d : Nat) (hd : 3 ≤ d) {out : Int32 × wd_Mem} (μ : wd_Mem)  (h : X7_grey_b26 μ = some out) : wd_V G (d + 1) RX7 cX7_grey 5 (some .int) (fun r u => r = some (.inl out.1) ∧ u = out.2) 26 [some (.inr 0), none, none, none, none] [] μ := by
  unfold X7_grey_b26 at h
  refine wv_iconst (pc' := 27) dX7_grey_26 ic_m1 rfl ?_
  exact wv_ireturn rfl dX7_grey_27 (wd_liv h)
set_option maxRecDepth 100000 in
set_option maxHeartbeats 4000000 in
theorem t_X7_grey_b41 (G : wd_G) (d : Nat) (hd : 3 ≤ d) {out : Int32 × wd_Mem} (μ : wd_Mem)  (h : X7_grey_b41 μ = some out) : wd_V G (d + 1) RX7 cX7_grey 5 (some .int) (fun r u => r = some (.inl out.1) ∧ u = out.2) 41 [some (.inr 0), none, none, none, none] [] μ := by
  unfold X7_grey_b41 at h
  refine wv_iconst (pc' := 42) dX7_grey_41 ic_m1 rfl ?_
  exact wv_ireturn rfl dX7_grey_42 (wd_liv h)
set_option maxRecDepth 100000 in
set_option maxHeartbeats 4000000 in
theorem t_X7_grey_b0 (G : wd_G) (d : Nat) (hd : 3 ≤ d) {out : Int32 × wd_Mem} (μ : wd_Mem) (x1 x2 x3 : Int32)  (h : X7_grey_b0 μ x1 x2 x3 = some out) : wd_V G (d + 1) RX7 cX7_grey 5 (some .int) (fun r u => r = some (.inl out.1) ∧ u = out.2) 0 [some (.inr 0), some (.inl x1), some (.inl x2), some (.inl x3), none] [] μ := by
  unfold X7_grey_b0 at h
  refine wv_aload_n (pc' := 1) (i := 0) (v := 0) dX7_grey_0 rfl rfl rfl ?_
  refine wv_gr (pc' := 4) g_X7_19_0 dX7_grey_1 rfl ?_
  refine wv_iload_n (pc' := 5) (i := 1) (v := x1) dX7_grey_4 rfl rfl rfl ?_
  refine wv_callVi (pc' := 8) (x := (X4_hasSet 3 μ x1)) (ν := μ) [.inl x1] ml_X7_168 rc_3 rfl (Nat.le_of_ble_eq_true rfl) dX7_grey_5 rfl (c_X4_hasSet G d (Nat.le_trans (Nat.le_of_ble_eq_true rfl) hd) (Or.inl rfl) rfl) ?_
  refine wv_if_eq (pc' := 11) (tgt := 26) dX7_grey_8 (by decide) rfl (fun c1 => ?_) (fun c1 => ?_)
  · have h := (if_pos c1).symm.trans h
    refine wv_weak (L' := [some (.inr 0), none, none, none, none]) ⟨rfl, trivial⟩ ?_
    exact t_X7_grey_b26 G d hd μ  h
  · have h := (if_neg c1).symm.trans h
    refine wv_aload_n (pc' := 12) (i := 0) (v := 0) dX7_grey_11 rfl rfl rfl ?_
    refine wv_gr (pc' := 15) g_X7_19_0 dX7_grey_12 rfl ?_
    refine wv_iload_n (pc' := 16) (i := 2) (v := x2) dX7_grey_15 rfl rfl rfl ?_
    refine wv_callVi (pc' := 19) (x := (X4_hasSet 3 μ x2)) (ν := μ) [.inl x2] ml_X7_168 rc_3 rfl (Nat.le_of_ble_eq_true rfl) dX7_grey_16 rfl (c_X4_hasSet G d (Nat.le_trans (Nat.le_of_ble_eq_true rfl) hd) (Or.inl rfl) rfl) ?_
    refine wv_if_eq (pc' := 22) (tgt := 26) dX7_grey_19 (by decide) rfl (fun c2 => ?_) (fun c2 => ?_)
    · have h := (if_pos c2).symm.trans h
      refine wv_weak (L' := [some (.inr 0), none, none, none, none]) ⟨rfl, trivial⟩ ?_
      exact t_X7_grey_b26 G d hd μ  h
    · have h := (if_neg c2).symm.trans h
      refine wv_iload_n (pc' := 23) (i := 2) (v := x2) dX7_grey_22 rfl rfl rfl ?_
      refine wv_if_ne (pc' := 26) (tgt := 28) dX7_grey_23 (by decide) rfl (fun c3 => ?_) (fun c3 => ?_)
      · have h := (if_neg c3).symm.trans h
        refine wv_iload_n (pc' := 29) (i := 1) (v := x1) dX7_grey_28 rfl rfl rfl ?_
        refine wv_iload_n (pc' := 30) (i := 2) (v := x2) dX7_grey_29 rfl rfl rfl ?_
        refine wv_iand (pc' := 31) dX7_grey_30 rfl ?_
        refine wv_if_ne (pc' := 34) (tgt := 41) dX7_grey_31 (by decide) rfl (fun c4 => ?_) (fun c4 => ?_)
        · have h := (if_neg c4).symm.trans h
          refine wv_weak (L' := [some (.inr 0), none, none, none, none]) ⟨rfl, trivial⟩ ?_
          exact t_X7_grey_b41 G d hd μ  h
        · have h := (if_pos c4).symm.trans h
          refine wv_iload_n (pc' := 35) (i := 3) (v := x3) dX7_grey_34 rfl rfl rfl ?_
          refine wv_callSi (pc' := 38) (x := (X7_isZeroOrOne μ x3)) (ν := μ) [.inl x3] ml_X7_118 rfl (Nat.le_of_ble_eq_true rfl) dX7_grey_35 rfl (c_X7_isZeroOrOne G d (Nat.le_trans (Nat.le_of_ble_eq_true rfl) hd)  rfl) ?_
          refine wv_if_ne (pc' := 41) (tgt := 43) dX7_grey_38 (by decide) rfl (fun c5 => ?_) (fun c5 => ?_)
          · have h := (if_neg c5).symm.trans h
            refine wv_aload_n (pc' := 44) (i := 0) (v := 0) dX7_grey_43 rfl rfl rfl ?_
            refine wv_gr (pc' := 47) g_X7_56_0 dX7_grey_44 rfl ?_
            refine wv_aload_n (pc' := 48) (i := 0) (v := 0) dX7_grey_47 rfl rfl rfl ?_
            refine wv_gr (pc' := 51) g_X7_29_0 dX7_grey_48 rfl ?_
            refine wv_iconst (pc' := 52) dX7_grey_51 ic_0 rfl ?_
            obtain ⟨r6, er6, h⟩ := wd_bind_some h
            refine wv_callVv (pc' := 55) (ν := r6) [.inr 48, .inl (0 : Int32)] ml_X7_127 rc_9 rfl (Nat.le_of_ble_eq_true rfl) dX7_grey_52 rfl (c_X3_look G d (Nat.le_trans (Nat.le_of_ble_eq_true rfl) hd) sh_48 er6) ?_
            refine wv_aload_n (pc' := 56) (i := 0) (v := 0) dX7_grey_55 rfl rfl rfl ?_
            refine wv_gr (pc' := 59) g_X7_56_0 dX7_grey_56 rfl ?_
            refine wv_iload_n (pc' := 60) (i := 1) (v := x1) dX7_grey_59 rfl rfl rfl ?_
            refine wv_iload_n (pc' := 61) (i := 2) (v := x2) dX7_grey_60 rfl rfl rfl ?_
            obtain ⟨r7, er7, h⟩ := wd_bind_some h
            refine wv_callVi (pc' := 64) (x := r7) (ν := r6) [.inl x1, .inl x2] ml_X7_175 rc_9 rfl (Nat.le_of_ble_eq_true rfl) dX7_grey_61 rfl (c_X3_greyest G d (Nat.le_trans (Nat.le_of_ble_eq_true rfl) hd)  er7) ?_
            refine wv_istore (pc' := 66) (L' := [some (.inr 0), some (.inl x1), some (.inl x2), some (.inl x3), some (.inl r7)]) dX7_grey_64 (by decide) rfl rfl ?_
            refine wv_iload_n (pc' := 67) (i := 3) (v := x3) dX7_grey_66 rfl rfl rfl ?_
            refine wv_if_ne (pc' := 70) (tgt := 86) dX7_grey_67 (by decide) rfl (fun c8 => ?_) (fun c8 => ?_)
            · have h := (if_neg c8).symm.trans h
              refine wv_iload (pc' := 88) (v := r7) dX7_grey_86 rfl rfl ?_
              exact wv_ireturn rfl dX7_grey_88 (wd_liv h)
            · have h := (if_pos c8).symm.trans h
              refine wv_aload_n (pc' := 71) (i := 0) (v := 0) dX7_grey_70 rfl rfl rfl ?_
              refine wv_gr (pc' := 74) g_X7_56_0 dX7_grey_71 rfl ?_
              refine wv_iload_n (pc' := 75) (i := 1) (v := x1) dX7_grey_74 rfl rfl rfl ?_
              refine wv_iconst (pc' := 76) dX7_grey_75 ic_1 rfl ?_
              refine wv_iload (pc' := 78) (v := r7) dX7_grey_76 rfl rfl ?_
              refine wv_ishl (pc' := 79) dX7_grey_78 rfl ?_
              refine wv_ior (pc' := 80) dX7_grey_79 rfl ?_
              obtain ⟨r9, er9, h⟩ := wd_bind_some h
              refine wv_callVi (pc' := 83) (x := r9) (ν := r6) [.inl (x1 ||| ((1 : Int32) <<< (r7 &&& 31)))] ml_X7_171 rc_9 rfl (Nat.le_of_ble_eq_true rfl) dX7_grey_80 rfl (c_X3_wrapOf G d (Nat.le_trans (Nat.le_of_ble_eq_true rfl) hd)  er9) ?_
              refine wv_goto (pc' := 88) dX7_grey_83 (by decide) ?_
              exact wv_ireturn rfl dX7_grey_88 (wd_liv h)
          · have h := (if_pos c5).symm.trans h
            refine wv_weak (L' := [some (.inr 0), none, none, none, none]) ⟨rfl, trivial⟩ ?_
            exact t_X7_grey_b41 G d hd μ  h
      · have h := (if_pos c3).symm.trans h
        refine wv_weak (L' := [some (.inr 0), none, none, none, none]) ⟨rfl, trivial⟩ ?_
        exact t_X7_grey_b26 G d hd μ  h
set_option maxRecDepth 100000 in
set_option maxHeartbeats 4000000 in
theorem c_X7_grey (G : wd_G) (d : Nat) (hd : 4 ≤ d) {μ : wd_Mem} {x1 x2 x3 : Int32} {out : Int32 × wd_Mem}  (h : X7_grey μ x1 x2 x3 = some out) : wd_C G d yX7_grey [.inr 0, .inl x1, .inl x2, .inl x3] μ (fun r u => r = some (.inl out.1) ∧ u = out.2) := by
  obtain ⟨d, rfl⟩ : ∃ e, d = e + 1 := ⟨d - 1, by omega⟩
  refine wd_enter mc_X7_grey (by decide) (by decide +kernel) rfl (Nat.le_of_ble_eq_true rfl) (L0 := [some (.inr 0), some (.inl x1), some (.inl x2), some (.inl x3), none]) rfl ?_
  exact t_X7_grey_b0 G d (by omega) μ x1 x2 x3 h
set_option maxRecDepth 100000 in
set_option maxHeartbeats 4000000 in
theorem t_J6_bitCount_b0 (G : wd_G) (d : Nat) (hd : 0 ≤ d) {out : Int32} (μ : wd_Mem) (x0 : Int32)  (h : J6_bitCount_b0 μ x0 = out) : wd_V G (d + 1) RJ6 cJ6_bitCount_0f7a4 1 (some .int) (fun r u => r = some (.inl out) ∧ u = μ) 0 [some (.inl x0)] [] μ := by
  unfold J6_bitCount_b0 at h
  refine wv_iload_n (pc' := 1) (i := 0) (v := x0) dJ6_bitCount_0f7a4_0 rfl rfl rfl ?_
  refine wv_iload_n (pc' := 2) (i := 0) (v := x0) dJ6_bitCount_0f7a4_1 rfl rfl rfl ?_
  refine wv_iconst (pc' := 3) dJ6_bitCount_0f7a4_2 ic_1 rfl ?_
  refine wv_iushr (pc' := 4) dJ6_bitCount_0f7a4_3 rfl ?_
  refine wv_ldcw (pc' := 7) ck_J6_265 dJ6_bitCount_0f7a4_4 rfl ?_
  refine wv_iand (pc' := 8) dJ6_bitCount_0f7a4_7 rfl ?_
  refine wv_isub (pc' := 9) dJ6_bitCount_0f7a4_8 rfl ?_
  refine wv_istore_n (pc' := 10) (i := 0) (L' := [some (.inl (x0 - (((x0).toUInt32 >>> (((1 : Int32)).toUInt32 &&& Int32.toUInt32 31)).toInt32 &&& (1431655765 : Int32))))]) dJ6_bitCount_0f7a4_9 rfl (by decide) rfl rfl ?_
  refine wv_iload_n (pc' := 11) (i := 0) (v := (x0 - (((x0).toUInt32 >>> (((1 : Int32)).toUInt32 &&& Int32.toUInt32 31)).toInt32 &&& (1431655765 : Int32)))) dJ6_bitCount_0f7a4_10 rfl rfl rfl ?_
  refine wv_ldcw (pc' := 14) ck_J6_266 dJ6_bitCount_0f7a4_11 rfl ?_
  refine wv_iand (pc' := 15) dJ6_bitCount_0f7a4_14 rfl ?_
  refine wv_iload_n (pc' := 16) (i := 0) (v := (x0 - (((x0).toUInt32 >>> (((1 : Int32)).toUInt32 &&& Int32.toUInt32 31)).toInt32 &&& (1431655765 : Int32)))) dJ6_bitCount_0f7a4_15 rfl rfl rfl ?_
  refine wv_iconst (pc' := 17) dJ6_bitCount_0f7a4_16 ic_2 rfl ?_
  refine wv_iushr (pc' := 18) dJ6_bitCount_0f7a4_17 rfl ?_
  refine wv_ldcw (pc' := 21) ck_J6_266 dJ6_bitCount_0f7a4_18 rfl ?_
  refine wv_iand (pc' := 22) dJ6_bitCount_0f7a4_21 rfl ?_
  refine wv_iadd (pc' := 23) dJ6_bitCount_0f7a4_22 rfl ?_
  refine wv_istore_n (pc' := 24) (i := 0) (L' := [some (.inl (((x0 - (((x0).toUInt32 >>> (((1 : Int32)).toUInt32 &&& Int32.toUInt32 31)).toInt32 &&& (1431655765 : Int32))) &&& (858993459 : Int32)) + ((((x0 - (((x0).toUInt32 >>> (((1 : Int32)).toUInt32 &&& Int32.toUInt32 31)).toInt32 &&& (1431655765 : Int32)))).toUInt32 >>> (((2 : Int32)).toUInt32 &&& Int32.toUInt32 31)).toInt32 &&& (858993459 : Int32))))]) dJ6_bitCount_0f7a4_23 rfl (by decide) rfl rfl ?_
  refine wv_iload_n (pc' := 25) (i := 0) (v := (((x0 - (((x0).toUInt32 >>> (((1 : Int32)).toUInt32 &&& Int32.toUInt32 31)).toInt32 &&& (1431655765 : Int32))) &&& (858993459 : Int32)) + ((((x0 - (((x0).toUInt32 >>> (((1 : Int32)).toUInt32 &&& Int32.toUInt32 31)).toInt32 &&& (1431655765 : Int32)))).toUInt32 >>> (((2 : Int32)).toUInt32 &&& Int32.toUInt32 31)).toInt32 &&& (858993459 : Int32)))) dJ6_bitCount_0f7a4_24 rfl rfl rfl ?_
  refine wv_iload_n (pc' := 26) (i := 0) (v := (((x0 - (((x0).toUInt32 >>> (((1 : Int32)).toUInt32 &&& Int32.toUInt32 31)).toInt32 &&& (1431655765 : Int32))) &&& (858993459 : Int32)) + ((((x0 - (((x0).toUInt32 >>> (((1 : Int32)).toUInt32 &&& Int32.toUInt32 31)).toInt32 &&& (1431655765 : Int32)))).toUInt32 >>> (((2 : Int32)).toUInt32 &&& Int32.toUInt32 31)).toInt32 &&& (858993459 : Int32)))) dJ6_bitCount_0f7a4_25 rfl rfl rfl ?_
  refine wv_iconst (pc' := 27) dJ6_bitCount_0f7a4_26 ic_4 rfl ?_
  refine wv_iushr (pc' := 28) dJ6_bitCount_0f7a4_27 rfl ?_
  refine wv_iadd (pc' := 29) dJ6_bitCount_0f7a4_28 rfl ?_
  refine wv_ldcw (pc' := 32) ck_J6_267 dJ6_bitCount_0f7a4_29 rfl ?_
  refine wv_iand (pc' := 33) dJ6_bitCount_0f7a4_32 rfl ?_
  refine wv_istore_n (pc' := 34) (i := 0) (L' := [some (.inl (((((x0 - (((x0).toUInt32 >>> (((1 : Int32)).toUInt32 &&& Int32.toUInt32 31)).toInt32 &&& (1431655765 : Int32))) &&& (858993459 : Int32)) + ((((x0 - (((x0).toUInt32 >>> (((1 : Int32)).toUInt32 &&& Int32.toUInt32 31)).toInt32 &&& (1431655765 : Int32)))).toUInt32 >>> (((2 : Int32)).toUInt32 &&& Int32.toUInt32 31)).toInt32 &&& (858993459 : Int32))) + (((((x0 - (((x0).toUInt32 >>> (((1 : Int32)).toUInt32 &&& Int32.toUInt32 31)).toInt32 &&& (1431655765 : Int32))) &&& (858993459 : Int32)) + ((((x0 - (((x0).toUInt32 >>> (((1 : Int32)).toUInt32 &&& Int32.toUInt32 31)).toInt32 &&& (1431655765 : Int32)))).toUInt32 >>> (((2 : Int32)).toUInt32 &&& Int32.toUInt32 31)).toInt32 &&& (858993459 : Int32)))).toUInt32 >>> (((4 : Int32)).toUInt32 &&& Int32.toUInt32 31)).toInt32) &&& (252645135 : Int32)))]) dJ6_bitCount_0f7a4_33 rfl (by decide) rfl rfl ?_
  refine wv_iload_n (pc' := 35) (i := 0) (v := (((((x0 - (((x0).toUInt32 >>> (((1 : Int32)).toUInt32 &&& Int32.toUInt32 31)).toInt32 &&& (1431655765 : Int32))) &&& (858993459 : Int32)) + ((((x0 - (((x0).toUInt32 >>> (((1 : Int32)).toUInt32 &&& Int32.toUInt32 31)).toInt32 &&& (1431655765 : Int32)))).toUInt32 >>> (((2 : Int32)).toUInt32 &&& Int32.toUInt32 31)).toInt32 &&& (858993459 : Int32))) + (((((x0 - (((x0).toUInt32 >>> (((1 : Int32)).toUInt32 &&& Int32.toUInt32 31)).toInt32 &&& (1431655765 : Int32))) &&& (858993459 : Int32)) + ((((x0 - (((x0).toUInt32 >>> (((1 : Int32)).toUInt32 &&& Int32.toUInt32 31)).toInt32 &&& (1431655765 : Int32)))).toUInt32 >>> (((2 : Int32)).toUInt32 &&& Int32.toUInt32 31)).toInt32 &&& (858993459 : Int32)))).toUInt32 >>> (((4 : Int32)).toUInt32 &&& Int32.toUInt32 31)).toInt32) &&& (252645135 : Int32))) dJ6_bitCount_0f7a4_34 rfl rfl rfl ?_
  refine wv_iload_n (pc' := 36) (i := 0) (v := (((((x0 - (((x0).toUInt32 >>> (((1 : Int32)).toUInt32 &&& Int32.toUInt32 31)).toInt32 &&& (1431655765 : Int32))) &&& (858993459 : Int32)) + ((((x0 - (((x0).toUInt32 >>> (((1 : Int32)).toUInt32 &&& Int32.toUInt32 31)).toInt32 &&& (1431655765 : Int32)))).toUInt32 >>> (((2 : Int32)).toUInt32 &&& Int32.toUInt32 31)).toInt32 &&& (858993459 : Int32))) + (((((x0 - (((x0).toUInt32 >>> (((1 : Int32)).toUInt32 &&& Int32.toUInt32 31)).toInt32 &&& (1431655765 : Int32))) &&& (858993459 : Int32)) + ((((x0 - (((x0).toUInt32 >>> (((1 : Int32)).toUInt32 &&& Int32.toUInt32 31)).toInt32 &&& (1431655765 : Int32)))).toUInt32 >>> (((2 : Int32)).toUInt32 &&& Int32.toUInt32 31)).toInt32 &&& (858993459 : Int32)))).toUInt32 >>> (((4 : Int32)).toUInt32 &&& Int32.toUInt32 31)).toInt32) &&& (252645135 : Int32))) dJ6_bitCount_0f7a4_35 rfl rfl rfl ?_
  refine wv_bipush (pc' := 38) dJ6_bitCount_0f7a4_36 bp_8 rfl ?_
  refine wv_iushr (pc' := 39) dJ6_bitCount_0f7a4_38 rfl ?_
  refine wv_iadd (pc' := 40) dJ6_bitCount_0f7a4_39 rfl ?_
  refine wv_istore_n (pc' := 41) (i := 0) (L' := [some (.inl ((((((x0 - (((x0).toUInt32 >>> (((1 : Int32)).toUInt32 &&& Int32.toUInt32 31)).toInt32 &&& (1431655765 : Int32))) &&& (858993459 : Int32)) + ((((x0 - (((x0).toUInt32 >>> (((1 : Int32)).toUInt32 &&& Int32.toUInt32 31)).toInt32 &&& (1431655765 : Int32)))).toUInt32 >>> (((2 : Int32)).toUInt32 &&& Int32.toUInt32 31)).toInt32 &&& (858993459 : Int32))) + (((((x0 - (((x0).toUInt32 >>> (((1 : Int32)).toUInt32 &&& Int32.toUInt32 31)).toInt32 &&& (1431655765 : Int32))) &&& (858993459 : Int32)) + ((((x0 - (((x0).toUInt32 >>> (((1 : Int32)).toUInt32 &&& Int32.toUInt32 31)).toInt32 &&& (1431655765 : Int32)))).toUInt32 >>> (((2 : Int32)).toUInt32 &&& Int32.toUInt32 31)).toInt32 &&& (858993459 : Int32)))).toUInt32 >>> (((4 : Int32)).toUInt32 &&& Int32.toUInt32 31)).toInt32) &&& (252645135 : Int32)) + (((((((x0 - (((x0).toUInt32 >>> (((1 : Int32)).toUInt32 &&& Int32.toUInt32 31)).toInt32 &&& (1431655765 : Int32))) &&& (858993459 : Int32)) + ((((x0 - (((x0).toUInt32 >>> (((1 : Int32)).toUInt32 &&& Int32.toUInt32 31)).toInt32 &&& (1431655765 : Int32)))).toUInt32 >>> (((2 : Int32)).toUInt32 &&& Int32.toUInt32 31)).toInt32 &&& (858993459 : Int32))) + (((((x0 - (((x0).toUInt32 >>> (((1 : Int32)).toUInt32 &&& Int32.toUInt32 31)).toInt32 &&& (1431655765 : Int32))) &&& (858993459 : Int32)) + ((((x0 - (((x0).toUInt32 >>> (((1 : Int32)).toUInt32 &&& Int32.toUInt32 31)).toInt32 &&& (1431655765 : Int32)))).toUInt32 >>> (((2 : Int32)).toUInt32 &&& Int32.toUInt32 31)).toInt32 &&& (858993459 : Int32)))).toUInt32 >>> (((4 : Int32)).toUInt32 &&& Int32.toUInt32 31)).toInt32) &&& (252645135 : Int32))).toUInt32 >>> (((8 : Int32)).toUInt32 &&& Int32.toUInt32 31)).toInt32))]) dJ6_bitCount_0f7a4_40 rfl (by decide) rfl rfl ?_
  refine wv_iload_n (pc' := 42) (i := 0) (v := ((((((x0 - (((x0).toUInt32 >>> (((1 : Int32)).toUInt32 &&& Int32.toUInt32 31)).toInt32 &&& (1431655765 : Int32))) &&& (858993459 : Int32)) + ((((x0 - (((x0).toUInt32 >>> (((1 : Int32)).toUInt32 &&& Int32.toUInt32 31)).toInt32 &&& (1431655765 : Int32)))).toUInt32 >>> (((2 : Int32)).toUInt32 &&& Int32.toUInt32 31)).toInt32 &&& (858993459 : Int32))) + (((((x0 - (((x0).toUInt32 >>> (((1 : Int32)).toUInt32 &&& Int32.toUInt32 31)).toInt32 &&& (1431655765 : Int32))) &&& (858993459 : Int32)) + ((((x0 - (((x0).toUInt32 >>> (((1 : Int32)).toUInt32 &&& Int32.toUInt32 31)).toInt32 &&& (1431655765 : Int32)))).toUInt32 >>> (((2 : Int32)).toUInt32 &&& Int32.toUInt32 31)).toInt32 &&& (858993459 : Int32)))).toUInt32 >>> (((4 : Int32)).toUInt32 &&& Int32.toUInt32 31)).toInt32) &&& (252645135 : Int32)) + (((((((x0 - (((x0).toUInt32 >>> (((1 : Int32)).toUInt32 &&& Int32.toUInt32 31)).toInt32 &&& (1431655765 : Int32))) &&& (858993459 : Int32)) + ((((x0 - (((x0).toUInt32 >>> (((1 : Int32)).toUInt32 &&& Int32.toUInt32 31)).toInt32 &&& (1431655765 : Int32)))).toUInt32 >>> (((2 : Int32)).toUInt32 &&& Int32.toUInt32 31)).toInt32 &&& (858993459 : Int32))) + (((((x0 - (((x0).toUInt32 >>> (((1 : Int32)).toUInt32 &&& Int32.toUInt32 31)).toInt32 &&& (1431655765 : Int32))) &&& (858993459 : Int32)) + ((((x0 - (((x0).toUInt32 >>> (((1 : Int32)).toUInt32 &&& Int32.toUInt32 31)).toInt32 &&& (1431655765 : Int32)))).toUInt32 >>> (((2 : Int32)).toUInt32 &&& Int32.toUInt32 31)).toInt32 &&& (858993459 : Int32)))).toUInt32 >>> (((4 : Int32)).toUInt32 &&& Int32.toUInt32 31)).toInt32) &&& (252645135 : Int32))).toUInt32 >>> (((8 : Int32)).toUInt32 &&& Int32.toUInt32 31)).toInt32)) dJ6_bitCount_0f7a4_41 rfl rfl rfl ?_
  refine wv_iload_n (pc' := 43) (i := 0) (v := ((((((x0 - (((x0).toUInt32 >>> (((1 : Int32)).toUInt32 &&& Int32.toUInt32 31)).toInt32 &&& (1431655765 : Int32))) &&& (858993459 : Int32)) + ((((x0 - (((x0).toUInt32 >>> (((1 : Int32)).toUInt32 &&& Int32.toUInt32 31)).toInt32 &&& (1431655765 : Int32)))).toUInt32 >>> (((2 : Int32)).toUInt32 &&& Int32.toUInt32 31)).toInt32 &&& (858993459 : Int32))) + (((((x0 - (((x0).toUInt32 >>> (((1 : Int32)).toUInt32 &&& Int32.toUInt32 31)).toInt32 &&& (1431655765 : Int32))) &&& (858993459 : Int32)) + ((((x0 - (((x0).toUInt32 >>> (((1 : Int32)).toUInt32 &&& Int32.toUInt32 31)).toInt32 &&& (1431655765 : Int32)))).toUInt32 >>> (((2 : Int32)).toUInt32 &&& Int32.toUInt32 31)).toInt32 &&& (858993459 : Int32)))).toUInt32 >>> (((4 : Int32)).toUInt32 &&& Int32.toUInt32 31)).toInt32) &&& (252645135 : Int32)) + (((((((x0 - (((x0).toUInt32 >>> (((1 : Int32)).toUInt32 &&& Int32.toUInt32 31)).toInt32 &&& (1431655765 : Int32))) &&& (858993459 : Int32)) + ((((x0 - (((x0).toUInt32 >>> (((1 : Int32)).toUInt32 &&& Int32.toUInt32 31)).toInt32 &&& (1431655765 : Int32)))).toUInt32 >>> (((2 : Int32)).toUInt32 &&& Int32.toUInt32 31)).toInt32 &&& (858993459 : Int32))) + (((((x0 - (((x0).toUInt32 >>> (((1 : Int32)).toUInt32 &&& Int32.toUInt32 31)).toInt32 &&& (1431655765 : Int32))) &&& (858993459 : Int32)) + ((((x0 - (((x0).toUInt32 >>> (((1 : Int32)).toUInt32 &&& Int32.toUInt32 31)).toInt32 &&& (1431655765 : Int32)))).toUInt32 >>> (((2 : Int32)).toUInt32 &&& Int32.toUInt32 31)).toInt32 &&& (858993459 : Int32)))).toUInt32 >>> (((4 : Int32)).toUInt32 &&& Int32.toUInt32 31)).toInt32) &&& (252645135 : Int32))).toUInt32 >>> (((8 : Int32)).toUInt32 &&& Int32.toUInt32 31)).toInt32)) dJ6_bitCount_0f7a4_42 rfl rfl rfl ?_
  refine wv_bipush (pc' := 45) dJ6_bitCount_0f7a4_43 bp_16 rfl ?_
  refine wv_iushr (pc' := 46) dJ6_bitCount_0f7a4_45 rfl ?_
  refine wv_iadd (pc' := 47) dJ6_bitCount_0f7a4_46 rfl ?_
  refine wv_istore_n (pc' := 48) (i := 0) (L' := [some (.inl (((((((x0 - (((x0).toUInt32 >>> (((1 : Int32)).toUInt32 &&& Int32.toUInt32 31)).toInt32 &&& (1431655765 : Int32))) &&& (858993459 : Int32)) + ((((x0 - (((x0).toUInt32 >>> (((1 : Int32)).toUInt32 &&& Int32.toUInt32 31)).toInt32 &&& (1431655765 : Int32)))).toUInt32 >>> (((2 : Int32)).toUInt32 &&& Int32.toUInt32 31)).toInt32 &&& (858993459 : Int32))) + (((((x0 - (((x0).toUInt32 >>> (((1 : Int32)).toUInt32 &&& Int32.toUInt32 31)).toInt32 &&& (1431655765 : Int32))) &&& (858993459 : Int32)) + ((((x0 - (((x0).toUInt32 >>> (((1 : Int32)).toUInt32 &&& Int32.toUInt32 31)).toInt32 &&& (1431655765 : Int32)))).toUInt32 >>> (((2 : Int32)).toUInt32 &&& Int32.toUInt32 31)).toInt32 &&& (858993459 : Int32)))).toUInt32 >>> (((4 : Int32)).toUInt32 &&& Int32.toUInt32 31)).toInt32) &&& (252645135 : Int32)) + (((((((x0 - (((x0).toUInt32 >>> (((1 : Int32)).toUInt32 &&& Int32.toUInt32 31)).toInt32 &&& (1431655765 : Int32))) &&& (858993459 : Int32)) + ((((x0 - (((x0).toUInt32 >>> (((1 : Int32)).toUInt32 &&& Int32.toUInt32 31)).toInt32 &&& (1431655765 : Int32)))).toUInt32 >>> (((2 : Int32)).toUInt32 &&& Int32.toUInt32 31)).toInt32 &&& (858993459 : Int32))) + (((((x0 - (((x0).toUInt32 >>> (((1 : Int32)).toUInt32 &&& Int32.toUInt32 31)).toInt32 &&& (1431655765 : Int32))) &&& (858993459 : Int32)) + ((((x0 - (((x0).toUInt32 >>> (((1 : Int32)).toUInt32 &&& Int32.toUInt32 31)).toInt32 &&& (1431655765 : Int32)))).toUInt32 >>> (((2 : Int32)).toUInt32 &&& Int32.toUInt32 31)).toInt32 &&& (858993459 : Int32)))).toUInt32 >>> (((4 : Int32)).toUInt32 &&& Int32.toUInt32 31)).toInt32) &&& (252645135 : Int32))).toUInt32 >>> (((8 : Int32)).toUInt32 &&& Int32.toUInt32 31)).toInt32) + ((((((((x0 - (((x0).toUInt32 >>> (((1 : Int32)).toUInt32 &&& Int32.toUInt32 31)).toInt32 &&& (1431655765 : Int32))) &&& (858993459 : Int32)) + ((((x0 - (((x0).toUInt32 >>> (((1 : Int32)).toUInt32 &&& Int32.toUInt32 31)).toInt32 &&& (1431655765 : Int32)))).toUInt32 >>> (((2 : Int32)).toUInt32 &&& Int32.toUInt32 31)).toInt32 &&& (858993459 : Int32))) + (((((x0 - (((x0).toUInt32 >>> (((1 : Int32)).toUInt32 &&& Int32.toUInt32 31)).toInt32 &&& (1431655765 : Int32))) &&& (858993459 : Int32)) + ((((x0 - (((x0).toUInt32 >>> (((1 : Int32)).toUInt32 &&& Int32.toUInt32 31)).toInt32 &&& (1431655765 : Int32)))).toUInt32 >>> (((2 : Int32)).toUInt32 &&& Int32.toUInt32 31)).toInt32 &&& (858993459 : Int32)))).toUInt32 >>> (((4 : Int32)).toUInt32 &&& Int32.toUInt32 31)).toInt32) &&& (252645135 : Int32)) + (((((((x0 - (((x0).toUInt32 >>> (((1 : Int32)).toUInt32 &&& Int32.toUInt32 31)).toInt32 &&& (1431655765 : Int32))) &&& (858993459 : Int32)) + ((((x0 - (((x0).toUInt32 >>> (((1 : Int32)).toUInt32 &&& Int32.toUInt32 31)).toInt32 &&& (1431655765 : Int32)))).toUInt32 >>> (((2 : Int32)).toUInt32 &&& Int32.toUInt32 31)).toInt32 &&& (858993459 : Int32))) + (((((x0 - (((x0).toUInt32 >>> (((1 : Int32)).toUInt32 &&& Int32.toUInt32 31)).toInt32 &&& (1431655765 : Int32))) &&& (858993459 : Int32)) + ((((x0 - (((x0).toUInt32 >>> (((1 : Int32)).toUInt32 &&& Int32.toUInt32 31)).toInt32 &&& (1431655765 : Int32)))).toUInt32 >>> (((2 : Int32)).toUInt32 &&& Int32.toUInt32 31)).toInt32 &&& (858993459 : Int32)))).toUInt32 >>> (((4 : Int32)).toUInt32 &&& Int32.toUInt32 31)).toInt32) &&& (252645135 : Int32))).toUInt32 >>> (((8 : Int32)).toUInt32 &&& Int32.toUInt32 31)).toInt32)).toUInt32 >>> (((16 : Int32)).toUInt32 &&& Int32.toUInt32 31)).toInt32))]) dJ6_bitCount_0f7a4_47 rfl (by decide) rfl rfl ?_
  refine wv_iload_n (pc' := 49) (i := 0) (v := (((((((x0 - (((x0).toUInt32 >>> (((1 : Int32)).toUInt32 &&& Int32.toUInt32 31)).toInt32 &&& (1431655765 : Int32))) &&& (858993459 : Int32)) + ((((x0 - (((x0).toUInt32 >>> (((1 : Int32)).toUInt32 &&& Int32.toUInt32 31)).toInt32 &&& (1431655765 : Int32)))).toUInt32 >>> (((2 : Int32)).toUInt32 &&& Int32.toUInt32 31)).toInt32 &&& (858993459 : Int32))) + (((((x0 - (((x0).toUInt32 >>> (((1 : Int32)).toUInt32 &&& Int32.toUInt32 31)).toInt32 &&& (1431655765 : Int32))) &&& (858993459 : Int32)) + ((((x0 - (((x0).toUInt32 >>> (((1 : Int32)).toUInt32 &&& Int32.toUInt32 31)).toInt32 &&& (1431655765 : Int32)))).toUInt32 >>> (((2 : Int32)).toUInt32 &&& Int32.toUInt32 31)).toInt32 &&& (858993459 : Int32)))).toUInt32 >>> (((4 : Int32)).toUInt32 &&& Int32.toUInt32 31)).toInt32) &&& (252645135 : Int32)) + (((((((x0 - (((x0).toUInt32 >>> (((1 : Int32)).toUInt32 &&& Int32.toUInt32 31)).toInt32 &&& (1431655765 : Int32))) &&& (858993459 : Int32)) + ((((x0 - (((x0).toUInt32 >>> (((1 : Int32)).toUInt32 &&& Int32.toUInt32 31)).toInt32 &&& (1431655765 : Int32)))).toUInt32 >>> (((2 : Int32)).toUInt32 &&& Int32.toUInt32 31)).toInt32 &&& (858993459 : Int32))) + (((((x0 - (((x0).toUInt32 >>> (((1 : Int32)).toUInt32 &&& Int32.toUInt32 31)).toInt32 &&& (1431655765 : Int32))) &&& (858993459 : Int32)) + ((((x0 - (((x0).toUInt32 >>> (((1 : Int32)).toUInt32 &&& Int32.toUInt32 31)).toInt32 &&& (1431655765 : Int32)))).toUInt32 >>> (((2 : Int32)).toUInt32 &&& Int32.toUInt32 31)).toInt32 &&& (858993459 : Int32)))).toUInt32 >>> (((4 : Int32)).toUInt32 &&& Int32.toUInt32 31)).toInt32) &&& (252645135 : Int32))).toUInt32 >>> (((8 : Int32)).toUInt32 &&& Int32.toUInt32 31)).toInt32) + ((((((((x0 - (((x0).toUInt32 >>> (((1 : Int32)).toUInt32 &&& Int32.toUInt32 31)).toInt32 &&& (1431655765 : Int32))) &&& (858993459 : Int32)) + ((((x0 - (((x0).toUInt32 >>> (((1 : Int32)).toUInt32 &&& Int32.toUInt32 31)).toInt32 &&& (1431655765 : Int32)))).toUInt32 >>> (((2 : Int32)).toUInt32 &&& Int32.toUInt32 31)).toInt32 &&& (858993459 : Int32))) + (((((x0 - (((x0).toUInt32 >>> (((1 : Int32)).toUInt32 &&& Int32.toUInt32 31)).toInt32 &&& (1431655765 : Int32))) &&& (858993459 : Int32)) + ((((x0 - (((x0).toUInt32 >>> (((1 : Int32)).toUInt32 &&& Int32.toUInt32 31)).toInt32 &&& (1431655765 : Int32)))).toUInt32 >>> (((2 : Int32)).toUInt32 &&& Int32.toUInt32 31)).toInt32 &&& (858993459 : Int32)))).toUInt32 >>> (((4 : Int32)).toUInt32 &&& Int32.toUInt32 31)).toInt32) &&& (252645135 : Int32)) + (((((((x0 - (((x0).toUInt32 >>> (((1 : Int32)).toUInt32 &&& Int32.toUInt32 31)).toInt32 &&& (1431655765 : Int32))) &&& (858993459 : Int32)) + ((((x0 - (((x0).toUInt32 >>> (((1 : Int32)).toUInt32 &&& Int32.toUInt32 31)).toInt32 &&& (1431655765 : Int32)))).toUInt32 >>> (((2 : Int32)).toUInt32 &&& Int32.toUInt32 31)).toInt32 &&& (858993459 : Int32))) + (((((x0 - (((x0).toUInt32 >>> (((1 : Int32)).toUInt32 &&& Int32.toUInt32 31)).toInt32 &&& (1431655765 : Int32))) &&& (858993459 : Int32)) + ((((x0 - (((x0).toUInt32 >>> (((1 : Int32)).toUInt32 &&& Int32.toUInt32 31)).toInt32 &&& (1431655765 : Int32)))).toUInt32 >>> (((2 : Int32)).toUInt32 &&& Int32.toUInt32 31)).toInt32 &&& (858993459 : Int32)))).toUInt32 >>> (((4 : Int32)).toUInt32 &&& Int32.toUInt32 31)).toInt32) &&& (252645135 : Int32))).toUInt32 >>> (((8 : Int32)).toUInt32 &&& Int32.toUInt32 31)).toInt32)).toUInt32 >>> (((16 : Int32)).toUInt32 &&& Int32.toUInt32 31)).toInt32)) dJ6_bitCount_0f7a4_48 rfl rfl rfl ?_
  refine wv_bipush (pc' := 51) dJ6_bitCount_0f7a4_49 bp_63 rfl ?_
  refine wv_iand (pc' := 52) dJ6_bitCount_0f7a4_51 rfl ?_
  exact wv_ireturn rfl dJ6_bitCount_0f7a4_52 (wd_lt h)
set_option maxRecDepth 100000 in
set_option maxHeartbeats 4000000 in
theorem c_J6_bitCount (G : wd_G) (d : Nat) (hd : 1 ≤ d) {μ : wd_Mem} {x0 : Int32} {out : Int32}  (h : J6_bitCount μ x0 = out) : wd_C G d yJ6_bitCount_0f7a4 [.inl x0] μ (fun r u => r = some (.inl out) ∧ u = μ) := by
  obtain ⟨d, rfl⟩ : ∃ e, d = e + 1 := ⟨d - 1, by omega⟩
  refine wd_enter mc_J6_bitCount_0f7a4 (by decide) (by decide +kernel) rfl (Nat.le_of_ble_eq_true rfl) (L0 := [some (.inl x0)]) rfl ?_
  exact t_J6_bitCount_b0 G d (by omega) μ x0 h
set_option maxRecDepth 100000 in
set_option maxHeartbeats 4000000 in
theorem t_X7_power_c4 (G : wd_G) (d : Nat) (hd : 0 ≤ d) {out : Int32} (rec : Int32 → Int32 → Option (Int32)) (k : Int32 → Option (Int32)) (μ : wd_Mem) (x0 x1 x2 x3 : Int32) (hrec : ∀ (x2 x3 : Int32), rec x2 x3 = some out → wd_V G (d + 1) RX7 cX7_power 4 (some .int) (fun r u => r = some (.inl out) ∧ u = μ) 4 [some (.inl x0), some (.inl x1), some (.inl x2), some (.inl x3)] [] μ) (hk : ∀ (x2 : Int32), k x2 = some out → wd_V G (d + 1) RX7 cX7_power 4 (some .int) (fun r u => r = some (.inl out) ∧ u = μ) 19 [none, none, some (.inl x2), none] [] μ) (h : X7_power_c4 rec k μ x0 x1 x2 x3 = some out) : wd_V G (d + 1) RX7 cX7_power 4 (some .int) (fun r u => r = some (.inl out) ∧ u = μ) 4 [some (.inl x0), some (.inl x1), some (.inl x2), some (.inl x3)] [] μ := by
  unfold X7_power_c4 at h
  refine wv_iload_n (pc' := 5) (i := 3) (v := x3) dX7_power_4 rfl rfl rfl ?_
  refine wv_iload_n (pc' := 6) (i := 1) (v := x1) dX7_power_5 rfl rfl rfl ?_
  refine wv_icmp_ge (pc' := 9) (tgt := 19) dX7_power_6 (by decide) rfl (fun c1 => ?_) (fun c1 => ?_)
  · have h := (if_pos c1).symm.trans h
    refine wv_weak (L' := [none, none, some (.inl x2), none]) ⟨rfl, trivial⟩ ?_
    exact hk _ h
  · have h := (if_neg c1).symm.trans h
    refine wv_iload_n (pc' := 10) (i := 2) (v := x2) dX7_power_9 rfl rfl rfl ?_
    refine wv_iload_n (pc' := 11) (i := 0) (v := x0) dX7_power_10 rfl rfl rfl ?_
    refine wv_imul (pc' := 12) dX7_power_11 rfl ?_
    refine wv_istore_n (pc' := 13) (i := 2) (L' := [some (.inl x0), some (.inl x1), some (.inl (x2 * x0)), some (.inl x3)]) dX7_power_12 rfl (by decide) rfl rfl ?_
    refine wv_inc (pc' := 16) (x := x3) (L' := [some (.inl x0), some (.inl x1), some (.inl (x2 * x0)), some (.inl (x3 + (1 : Int32)))]) dX7_power_13 ic_1 rfl (by decide) rfl rfl ?_
    refine wv_goto (pc' := 4) dX7_power_16 (by decide) ?_
    exact hrec _ _ h
set_option maxRecDepth 100000 in
set_option maxHeartbeats 4000000 in
theorem t_X7_power_l4 (G : wd_G) (d : Nat) (hd : 0 ≤ d) {out : Int32} (k : Int32 → Option (Int32)) (μ : wd_Mem) (x0 x1 : Int32) (hk : ∀ (x2 : Int32), k x2 = some out → wd_V G (d + 1) RX7 cX7_power 4 (some .int) (fun r u => r = some (.inl out) ∧ u = μ) 19 [none, none, some (.inl x2), none] [] μ) : ∀ (n : Nat) (x2 x3 : Int32), X7_power_l4 k μ x0 x1 n x2 x3 = some out → wd_V G (d + 1) RX7 cX7_power 4 (some .int) (fun r u => r = some (.inl out) ∧ u = μ) 4 [some (.inl x0), some (.inl x1), some (.inl x2), some (.inl x3)] [] μ := by
  intro n
  induction n with
  | zero => intro x2 x3 h; exact absurd h (by unfold X7_power_l4; simp)
  | succ n ih =>
    intro x2 x3 h
    exact t_X7_power_c4 G d hd (X7_power_l4 k μ x0 x1 n) k μ x0 x1 x2 x3  (fun x2 x3 h => ih x2 x3 h) hk h
set_option maxRecDepth 100000 in
set_option maxHeartbeats 4000000 in
theorem t_X7_power_b19 (G : wd_G) (d : Nat) (hd : 0 ≤ d) {out : Int32} (μ : wd_Mem) (x2 : Int32)  (h : X7_power_b19 μ x2 = some out) : wd_V G (d + 1) RX7 cX7_power 4 (some .int) (fun r u => r = some (.inl out) ∧ u = μ) 19 [none, none, some (.inl x2), none] [] μ := by
  unfold X7_power_b19 at h
  refine wv_iload_n (pc' := 20) (i := 2) (v := x2) dX7_power_19 rfl rfl rfl ?_
  exact wv_ireturn rfl dX7_power_20 (wd_li h)
set_option maxRecDepth 100000 in
set_option maxHeartbeats 4000000 in
theorem t_X7_power_b0 (G : wd_G) (d : Nat) (hd : 0 ≤ d) {out : Int32} (μ : wd_Mem) (x0 x1 : Int32)  (h : X7_power_b0 μ x0 x1 = some out) : wd_V G (d + 1) RX7 cX7_power 4 (some .int) (fun r u => r = some (.inl out) ∧ u = μ) 0 [some (.inl x0), some (.inl x1), none, none] [] μ := by
  unfold X7_power_b0 at h
  refine wv_iconst (pc' := 1) dX7_power_0 ic_1 rfl ?_
  refine wv_istore_n (pc' := 2) (i := 2) (L' := [some (.inl x0), some (.inl x1), some (.inl (1 : Int32)), none]) dX7_power_1 rfl (by decide) rfl rfl ?_
  refine wv_iconst (pc' := 3) dX7_power_2 ic_0 rfl ?_
  refine wv_istore_n (pc' := 4) (i := 3) (L' := [some (.inl x0), some (.inl x1), some (.inl (1 : Int32)), some (.inl (0 : Int32))]) dX7_power_3 rfl (by decide) rfl rfl ?_
  exact t_X7_power_l4 G d hd (fun x2 => X7_power_b19 μ x2) μ x0 x1  (fun x2 h => t_X7_power_b19 G d hd μ x2  h) wd_big (1 : Int32) (0 : Int32) h
set_option maxRecDepth 100000 in
set_option maxHeartbeats 4000000 in
theorem c_X7_power (G : wd_G) (d : Nat) (hd : 1 ≤ d) {μ : wd_Mem} {x0 x1 : Int32} {out : Int32}  (h : X7_power μ x0 x1 = some out) : wd_C G d yX7_power [.inl x0, .inl x1] μ (fun r u => r = some (.inl out) ∧ u = μ) := by
  obtain ⟨d, rfl⟩ : ∃ e, d = e + 1 := ⟨d - 1, by omega⟩
  refine wd_enter mc_X7_power (by decide) (by decide +kernel) rfl (Nat.le_of_ble_eq_true rfl) (L0 := [some (.inl x0), some (.inl x1), none, none]) rfl ?_
  exact t_X7_power_b0 G d (by omega) μ x0 x1 h
set_option maxRecDepth 100000 in
set_option maxHeartbeats 4000000 in
theorem t_X2_growNeeds_c2 (G : wd_G) (d : Nat) (hd : 0 ≤ d) {out : wd_Mem} (rec : Int32 → wd_Mem → Option (wd_Mem)) (k : wd_Mem → Option (wd_Mem)) (μ : wd_Mem) (x1 x2 : Int32) (hrec : ∀ (x2 : Int32) (μ : wd_Mem), rec x2 μ = some out → wd_V G (d + 1) RX2 cX2_growNeeds 3 none (fun r u => r = none ∧ u = out) 2 [some (.inr 21), some (.inl x1), some (.inl x2)] [] μ) (hk : ∀  (μ : wd_Mem), k μ = some out → wd_V G (d + 1) RX2 cX2_growNeeds 3 none (fun r u => r = none ∧ u = out) 50 [some (.inr 21), none, none] [] μ) (h : X2_growNeeds_c2 rec k μ x1 x2 = some out) : wd_V G (d + 1) RX2 cX2_growNeeds 3 none (fun r u => r = none ∧ u = out) 2 [some (.inr 21), some (.inl x1), some (.inl x2)] [] μ := by
  unfold X2_growNeeds_c2 at h
  refine wv_iload_n (pc' := 3) (i := 2) (v := x2) dX2_growNeeds_2 rfl rfl rfl ?_
  refine wv_aload_n (pc' := 4) (i := 0) (v := 21) dX2_growNeeds_3 rfl rfl rfl ?_
  refine wv_gr (pc' := 7) g_X2_27_21 dX2_growNeeds_4 rfl ?_
  refine wv_gi (pc' := 10) g_X2_31_3 dX2_growNeeds_7 rfl ?_
  refine wv_icmp_ge (pc' := 13) (tgt := 50) dX2_growNeeds_10 (by decide) rfl (fun c1 => ?_) (fun c1 => ?_)
  · have h := (if_pos c1).symm.trans h
    refine wv_weak (L' := [some (.inr 21), none, none]) ⟨rfl, trivial⟩ ?_
    exact hk _ h
  · have h := (if_neg c1).symm.trans h
    refine wv_aload_n (pc' := 14) (i := 0) (v := 21) dX2_growNeeds_13 rfl rfl rfl ?_
    refine wv_gr (pc' := 17) g_X2_18_21 dX2_growNeeds_14 rfl ?_
    refine wv_iload_n (pc' := 18) (i := 2) (v := x2) dX2_growNeeds_17 rfl rfl rfl ?_
    refine wv_aload_n (pc' := 19) (i := 0) (v := 21) dX2_growNeeds_18 rfl rfl rfl ?_
    refine wv_gr (pc' := 22) g_X2_27_21 dX2_growNeeds_19 rfl ?_
    refine wv_gi (pc' := 25) g_X2_106_3 dX2_growNeeds_22 rfl ?_
    refine wv_aload_n (pc' := 26) (i := 0) (v := 21) dX2_growNeeds_25 rfl rfl rfl ?_
    refine wv_gr (pc' := 29) g_X2_27_21 dX2_growNeeds_26 rfl ?_
    refine wv_gr (pc' := 32) g_X2_43_3 dX2_growNeeds_29 rfl ?_
    refine wv_iload_n (pc' := 33) (i := 2) (v := x2) dX2_growNeeds_32 rfl rfl rfl ?_
    obtain ⟨g2, h⟩ := wd_chk_some h
    refine wv_iald (pc' := 34) sa_5 (wd_in_vp g2) dX2_growNeeds_33 rfl ?_
    refine wv_iload_n (pc' := 35) (i := 1) (v := x1) dX2_growNeeds_34 rfl rfl rfl ?_
    refine wv_iload_n (pc' := 36) (i := 2) (v := x2) dX2_growNeeds_35 rfl rfl rfl ?_
    refine wv_ishr (pc' := 37) dX2_growNeeds_36 rfl ?_
    refine wv_iconst (pc' := 38) dX2_growNeeds_37 ic_1 rfl ?_
    refine wv_iand (pc' := 39) dX2_growNeeds_38 rfl ?_
    refine wv_iadd (pc' := 40) dX2_growNeeds_39 rfl ?_
    refine wv_min (pc' := 43) mm_X2_74 (Nat.le_of_ble_eq_true rfl) dX2_growNeeds_40 rfl ?_
    refine wv_iast (pc' := 44) sa_24 (wd_in_vp g2) dX2_growNeeds_43 rfl ?_
    refine wv_inc (pc' := 47) (x := x2) (L' := [some (.inr 21), some (.inl x1), some (.inl (x2 + (1 : Int32)))]) dX2_growNeeds_44 ic_1 rfl (by decide) rfl rfl ?_
    refine wv_goto (pc' := 2) dX2_growNeeds_47 (by decide) ?_
    exact hrec _ _ h
set_option maxRecDepth 100000 in
set_option maxHeartbeats 4000000 in
theorem t_X2_growNeeds_l2 (G : wd_G) (d : Nat) (hd : 0 ≤ d) {out : wd_Mem} (k : wd_Mem → Option (wd_Mem)) (x1 : Int32) (hk : ∀  (μ : wd_Mem), k μ = some out → wd_V G (d + 1) RX2 cX2_growNeeds 3 none (fun r u => r = none ∧ u = out) 50 [some (.inr 21), none, none] [] μ) : ∀ (n : Nat) (x2 : Int32) (μ : wd_Mem), X2_growNeeds_l2 k x1 n x2 μ = some out → wd_V G (d + 1) RX2 cX2_growNeeds 3 none (fun r u => r = none ∧ u = out) 2 [some (.inr 21), some (.inl x1), some (.inl x2)] [] μ := by
  intro n
  induction n with
  | zero => intro x2 μ h; exact absurd h (by unfold X2_growNeeds_l2; simp)
  | succ n ih =>
    intro x2 μ h
    exact t_X2_growNeeds_c2 G d hd (X2_growNeeds_l2 k x1 n) k μ x1 x2  (fun x2 μ h => ih x2 μ h) hk h
set_option maxRecDepth 100000 in
set_option maxHeartbeats 4000000 in
theorem t_X2_growNeeds_b50 (G : wd_G) (d : Nat) (hd : 0 ≤ d) {out : wd_Mem} (μ : wd_Mem)  (h : X2_growNeeds_b50 μ = some out) : wd_V G (d + 1) RX2 cX2_growNeeds 3 none (fun r u => r = none ∧ u = out) 50 [some (.inr 21), none, none] [] μ := by
  unfold X2_growNeeds_b50 at h
  exact wv_return rfl dX2_growNeeds_50 (wd_lv h)
set_option maxRecDepth 100000 in
set_option maxHeartbeats 4000000 in
theorem t_X2_growNeeds_b0 (G : wd_G) (d : Nat) (hd : 0 ≤ d) {out : wd_Mem} (μ : wd_Mem) (x1 : Int32)  (h : X2_growNeeds_b0 μ x1 = some out) : wd_V G (d + 1) RX2 cX2_growNeeds 3 none (fun r u => r = none ∧ u = out) 0 [some (.inr 21), some (.inl x1), none] [] μ := by
  unfold X2_growNeeds_b0 at h
  refine wv_iconst (pc' := 1) dX2_growNeeds_0 ic_0 rfl ?_
  refine wv_istore_n (pc' := 2) (i := 2) (L' := [some (.inr 21), some (.inl x1), some (.inl (0 : Int32))]) dX2_growNeeds_1 rfl (by decide) rfl rfl ?_
  exact t_X2_growNeeds_l2 G d hd (fun μ => X2_growNeeds_b50 μ) x1  (fun μ h => t_X2_growNeeds_b50 G d hd μ  h) wd_big (0 : Int32) μ h
set_option maxRecDepth 100000 in
set_option maxHeartbeats 4000000 in
theorem c_X2_growNeeds (G : wd_G) (d : Nat) (hd : 1 ≤ d) {μ : wd_Mem} {x1 : Int32} {out : wd_Mem}  (h : X2_growNeeds μ x1 = some out) : wd_C G d yX2_growNeeds [.inr 21, .inl x1] μ (fun r u => r = none ∧ u = out) := by
  obtain ⟨d, rfl⟩ : ∃ e, d = e + 1 := ⟨d - 1, by omega⟩
  refine wd_enter mc_X2_growNeeds (by decide) (by decide +kernel) rfl (Nat.le_of_ble_eq_true rfl) (L0 := [some (.inr 21), some (.inl x1), none]) rfl ?_
  exact t_X2_growNeeds_b0 G d (by omega) μ x1 h
set_option maxRecDepth 100000 in
set_option maxHeartbeats 4000000 in
theorem t_X2_luckyOf_b80 (G : wd_G) (d : Nat) (hd : 12 ≤ d) {out : Int32 × wd_Mem} (rec : Int32 → Int32 → wd_Mem → Option (Int32 × wd_Mem)) (k : Int32 → wd_Mem → Option (Int32 × wd_Mem)) (h1 : Nat) (μ : wd_Mem) (x2 x3 x4 : Int32) (w1 : wd_isW h1) (hrec : ∀ (x3 x4 : Int32) (μ : wd_Mem), rec x3 x4 μ = some out → wd_V G (d + 1) RX2 cX2_luckyOf 7 (some .int) (fun r u => r = some (.inl out.1) ∧ u = out.2) 10 [some (.inr 21), some (.inr h1), some (.inl x2), some (.inl x3), some (.inl x4), none, none] [] μ) (hk : ∀ (x3 : Int32) (μ : wd_Mem), k x3 μ = some out → wd_V G (d + 1) RX2 cX2_luckyOf 7 (some .int) (fun r u => r = some (.inl out.1) ∧ u = out.2) 86 [some (.inr 21), some (.inr h1), none, some (.inl x3), none, none, none] [] μ) (h : X2_luckyOf_b80 rec k h1 μ x2 x3 x4 = some out) : wd_V G (d + 1) RX2 cX2_luckyOf 7 (some .int) (fun r u => r = some (.inl out.1) ∧ u = out.2) 80 [some (.inr 21), some (.inr h1), some (.inl x2), some (.inl x3), some (.inl x4), none, none] [] μ := by
  unfold X2_luckyOf_b80 at h
  refine wv_inc (pc' := 83) (x := x4) (L' := [some (.inr 21), some (.inr h1), some (.inl x2), some (.inl x3), some (.inl (x4 + (1 : Int32))), none, none]) dX2_luckyOf_80 ic_1 rfl (by decide) rfl rfl ?_
  refine wv_goto (pc' := 10) dX2_luckyOf_83 (by decide) ?_
  exact hrec _ _ _ h
set_option maxRecDepth 100000 in
set_option maxHeartbeats 4000000 in
theorem t_X2_luckyOf_c10 (G : wd_G) (d : Nat) (hd : 12 ≤ d) {out : Int32 × wd_Mem} (rec : Int32 → Int32 → wd_Mem → Option (Int32 × wd_Mem)) (k : Int32 → wd_Mem → Option (Int32 × wd_Mem)) (h1 : Nat) (μ : wd_Mem) (x2 x3 x4 : Int32) (w1 : wd_isW h1) (hrec : ∀ (x3 x4 : Int32) (μ : wd_Mem), rec x3 x4 μ = some out → wd_V G (d + 1) RX2 cX2_luckyOf 7 (some .int) (fun r u => r = some (.inl out.1) ∧ u = out.2) 10 [some (.inr 21), some (.inr h1), some (.inl x2), some (.inl x3), some (.inl x4), none, none] [] μ) (hk : ∀ (x3 : Int32) (μ : wd_Mem), k x3 μ = some out → wd_V G (d + 1) RX2 cX2_luckyOf 7 (some .int) (fun r u => r = some (.inl out.1) ∧ u = out.2) 86 [some (.inr 21), some (.inr h1), none, some (.inl x3), none, none, none] [] μ) (h : X2_luckyOf_c10 rec k h1 μ x2 x3 x4 = some out) : wd_V G (d + 1) RX2 cX2_luckyOf 7 (some .int) (fun r u => r = some (.inl out.1) ∧ u = out.2) 10 [some (.inr 21), some (.inr h1), some (.inl x2), some (.inl x3), some (.inl x4), none, none] [] μ := by
  unfold X2_luckyOf_c10 at h
  refine wv_iload (pc' := 12) (v := x4) dX2_luckyOf_10 rfl rfl ?_
  refine wv_iconst (pc' := 13) dX2_luckyOf_12 ic_1 rfl ?_
  refine wv_aload_n (pc' := 14) (i := 0) (v := 21) dX2_luckyOf_13 rfl rfl rfl ?_
  refine wv_gr (pc' := 17) g_X2_27_21 dX2_luckyOf_14 rfl ?_
  refine wv_gi (pc' := 20) g_X2_31_3 dX2_luckyOf_17 rfl ?_
  refine wv_ishl (pc' := 21) dX2_luckyOf_20 rfl ?_
  refine wv_icmp_ge (pc' := 24) (tgt := 86) dX2_luckyOf_21 (by decide) rfl (fun c2 => ?_) (fun c2 => ?_)
  · have h := (if_pos c2).symm.trans h
    refine wv_weak (L' := [some (.inr 21), some (.inr h1), none, some (.inl x3), none, none, none]) ⟨rfl, rfl, rfl, trivial⟩ ?_
    exact hk _ _ h
  · have h := (if_neg c2).symm.trans h
    refine wv_iload (pc' := 26) (v := x4) dX2_luckyOf_24 rfl rfl ?_
    refine wv_callSi (pc' := 29) (x := (J6_bitCount μ x4)) (ν := μ) [.inl x4] ml_X2_95 rfl (Nat.le_of_ble_eq_true rfl) dX2_luckyOf_26 rfl (c_J6_bitCount G d (Nat.le_trans (Nat.le_of_ble_eq_true rfl) hd)  rfl) ?_
    refine wv_istore (pc' := 31) (L' := [some (.inr 21), some (.inr h1), some (.inl x2), some (.inl x3), some (.inl x4), some (.inl (J6_bitCount μ x4)), none]) dX2_luckyOf_29 (by decide) rfl rfl ?_
    refine wv_iload_n (pc' := 32) (i := 2) (v := x2) dX2_luckyOf_31 rfl rfl rfl ?_
    refine wv_iload (pc' := 34) (v := (J6_bitCount μ x4)) dX2_luckyOf_32 rfl rfl ?_
    obtain ⟨r3, er3, h⟩ := wd_bind_some h
    refine wv_callSNi (pc' := 37) (x := r3) (ν := μ) (.inl x2) (.inl (J6_bitCount μ x4)) rfl (wd_tab_in (List.mem_of_getElem? (i := 1) (by decide +kernel)) (by decide +kernel)) (wd_tab_in (List.mem_of_getElem? (i := 556) (by decide +kernel)) (by decide +kernel)) rfl (Nat.le_of_ble_eq_true rfl) dX2_luckyOf_34 rfl (c_X7_power G d (Nat.le_trans (Nat.le_of_ble_eq_true rfl) hd)  er3) ?_
    refine wv_bipush (pc' := 39) dX2_luckyOf_37 bp_10 rfl ?_
    refine wv_iload_n (pc' := 40) (i := 2) (v := x2) dX2_luckyOf_39 rfl rfl rfl ?_
    refine wv_isub (pc' := 41) dX2_luckyOf_40 rfl ?_
    refine wv_aload_n (pc' := 42) (i := 0) (v := 21) dX2_luckyOf_41 rfl rfl rfl ?_
    refine wv_gr (pc' := 45) g_X2_27_21 dX2_luckyOf_42 rfl ?_
    refine wv_gi (pc' := 48) g_X2_31_3 dX2_luckyOf_45 rfl ?_
    refine wv_iload (pc' := 50) (v := (J6_bitCount μ x4)) dX2_luckyOf_48 rfl rfl ?_
    refine wv_isub (pc' := 51) dX2_luckyOf_50 rfl ?_
    obtain ⟨r4, er4, h⟩ := wd_bind_some h
    refine wv_callSNi (pc' := 54) (x := r4) (ν := μ) (.inl ((10 : Int32) - x2)) (.inl ((μ 3 1) - (J6_bitCount μ x4))) rfl (wd_tab_in (List.mem_of_getElem? (i := 1) (by decide +kernel)) (by decide +kernel)) (wd_tab_in (List.mem_of_getElem? (i := 556) (by decide +kernel)) (by decide +kernel)) rfl (Nat.le_of_ble_eq_true rfl) dX2_luckyOf_51 rfl (c_X7_power G d (Nat.le_trans (Nat.le_of_ble_eq_true rfl) hd)  er4) ?_
    refine wv_imul (pc' := 55) dX2_luckyOf_54 rfl ?_
    refine wv_istore (pc' := 57) (L' := [some (.inr 21), some (.inr h1), some (.inl x2), some (.inl x3), some (.inl x4), some (.inl (J6_bitCount μ x4)), some (.inl (r3 * r4))]) dX2_luckyOf_55 (by decide) rfl rfl ?_
    refine wv_aload_n (pc' := 58) (i := 0) (v := 21) dX2_luckyOf_57 rfl rfl rfl ?_
    refine wv_iload (pc' := 60) (v := x4) dX2_luckyOf_58 rfl rfl ?_
    obtain ⟨r5, er5, h⟩ := wd_bind_some h
    refine wv_callVv (pc' := 63) (ν := r5) [.inl x4] ml_X2_103 rc_21 rfl (Nat.le_of_ble_eq_true rfl) dX2_luckyOf_60 rfl (c_X2_growNeeds G d (Nat.le_trans (Nat.le_of_ble_eq_true rfl) hd)  er5) ?_
    refine wv_iload (pc' := 65) (v := (r3 * r4)) dX2_luckyOf_63 rfl rfl ?_
    refine wv_if_le (pc' := 68) (tgt := 80) dX2_luckyOf_65 (by decide) rfl (fun c6 => ?_) (fun c6 => ?_)
    · have h := (if_pos c6).symm.trans h
      refine wv_weak (L' := [some (.inr 21), some (.inr h1), some (.inl x2), some (.inl x3), some (.inl x4), none, none]) ⟨rfl, rfl, rfl, rfl, rfl, trivial⟩ ?_
      exact t_X2_luckyOf_b80 G d hd rec k h1 r5 x2 x3 x4 w1 hrec hk h
    · have h := (if_neg c6).symm.trans h
      refine wv_aload_n (pc' := 69) (i := 0) (v := 21) dX2_luckyOf_68 rfl rfl rfl ?_
      obtain ⟨r7, er7, h⟩ := wd_bind_some h
      refine wv_callVi (pc' := 72) (x := r7.1) (ν := r7.2) [] ml_X2_54 rc_21 rfl (Nat.le_of_ble_eq_true rfl) dX2_luckyOf_69 rfl (c_X2_isAny G d (Nat.le_trans (Nat.le_of_ble_eq_true rfl) hd)  er7) ?_
      refine wv_if_eq (pc' := 75) (tgt := 80) dX2_luckyOf_72 (by decide) rfl (fun c8 => ?_) (fun c8 => ?_)
      · have h := (if_pos c8).symm.trans h
        refine wv_weak (L' := [some (.inr 21), some (.inr h1), some (.inl x2), some (.inl x3), some (.inl x4), none, none]) ⟨rfl, rfl, rfl, rfl, rfl, trivial⟩ ?_
        exact t_X2_luckyOf_b80 G d hd rec k h1 r7.2 x2 x3 x4 w1 hrec hk h
      · have h := (if_neg c8).symm.trans h
        refine wv_iload_n (pc' := 76) (i := 3) (v := x3) dX2_luckyOf_75 rfl rfl rfl ?_
        refine wv_iload (pc' := 78) (v := (r3 * r4)) dX2_luckyOf_76 rfl rfl ?_
        refine wv_iadd (pc' := 79) dX2_luckyOf_78 rfl ?_
        refine wv_istore_n (pc' := 80) (i := 3) (L' := [some (.inr 21), some (.inr h1), some (.inl x2), some (.inl (x3 + (r3 * r4))), some (.inl x4), some (.inl (J6_bitCount μ x4)), some (.inl (r3 * r4))]) dX2_luckyOf_79 rfl (by decide) rfl rfl ?_
        refine wv_weak (L' := [some (.inr 21), some (.inr h1), some (.inl x2), some (.inl (x3 + (r3 * r4))), some (.inl x4), none, none]) ⟨rfl, rfl, rfl, rfl, rfl, trivial⟩ ?_
        exact t_X2_luckyOf_b80 G d hd rec k h1 r7.2 x2 (x3 + (r3 * r4)) x4 w1 hrec hk h
set_option maxRecDepth 100000 in
set_option maxHeartbeats 4000000 in
theorem t_X2_luckyOf_l10 (G : wd_G) (d : Nat) (hd : 12 ≤ d) {out : Int32 × wd_Mem} (k : Int32 → wd_Mem → Option (Int32 × wd_Mem)) (h1 : Nat) (x2 : Int32) (w1 : wd_isW h1) (hk : ∀ (x3 : Int32) (μ : wd_Mem), k x3 μ = some out → wd_V G (d + 1) RX2 cX2_luckyOf 7 (some .int) (fun r u => r = some (.inl out.1) ∧ u = out.2) 86 [some (.inr 21), some (.inr h1), none, some (.inl x3), none, none, none] [] μ) : ∀ (n : Nat) (x3 x4 : Int32) (μ : wd_Mem), X2_luckyOf_l10 k h1 x2 n x3 x4 μ = some out → wd_V G (d + 1) RX2 cX2_luckyOf 7 (some .int) (fun r u => r = some (.inl out.1) ∧ u = out.2) 10 [some (.inr 21), some (.inr h1), some (.inl x2), some (.inl x3), some (.inl x4), none, none] [] μ := by
  intro n
  induction n with
  | zero => intro x3 x4 μ h; exact absurd h (by unfold X2_luckyOf_l10; simp)
  | succ n ih =>
    intro x3 x4 μ h
    exact t_X2_luckyOf_c10 G d hd (X2_luckyOf_l10 k h1 x2 n) k h1 μ x2 x3 x4 w1 (fun x3 x4 μ h => ih x3 x4 μ h) hk h
set_option maxRecDepth 100000 in
set_option maxHeartbeats 4000000 in
theorem t_X2_luckyOf_b86 (G : wd_G) (d : Nat) (hd : 12 ≤ d) {out : Int32 × wd_Mem} (h1 : Nat) (μ : wd_Mem) (x3 : Int32) (w1 : wd_isW h1) (h : X2_luckyOf_b86 h1 μ x3 = some out) : wd_V G (d + 1) RX2 cX2_luckyOf 7 (some .int) (fun r u => r = some (.inl out.1) ∧ u = out.2) 86 [some (.inr 21), some (.inr h1), none, some (.inl x3), none, none, none] [] μ := by
  unfold X2_luckyOf_b86 at h
  refine wv_iload_n (pc' := 87) (i := 3) (v := x3) dX2_luckyOf_86 rfl rfl rfl ?_
  exact wv_ireturn rfl dX2_luckyOf_87 (wd_liv h)
set_option maxRecDepth 100000 in
set_option maxHeartbeats 4000000 in
theorem t_X2_luckyOf_b0 (G : wd_G) (d : Nat) (hd : 12 ≤ d) {out : Int32 × wd_Mem} (h1 : Nat) (μ : wd_Mem) (x2 : Int32) (w1 : wd_isW h1) (h : X2_luckyOf_b0 h1 μ x2 = some out) : wd_V G (d + 1) RX2 cX2_luckyOf 7 (some .int) (fun r u => r = some (.inl out.1) ∧ u = out.2) 0 [some (.inr 21), some (.inr h1), some (.inl x2), none, none, none, none] [] μ := by
  unfold X2_luckyOf_b0 at h
  refine wv_iconst (pc' := 1) dX2_luckyOf_0 ic_0 rfl ?_
  refine wv_istore_n (pc' := 2) (i := 3) (L' := [some (.inr 21), some (.inr h1), some (.inl x2), some (.inl (0 : Int32)), none, none, none]) dX2_luckyOf_1 rfl (by decide) rfl rfl ?_
  refine wv_aload_n (pc' := 3) (i := 0) (v := 21) dX2_luckyOf_2 rfl rfl rfl ?_
  refine wv_aload_n (pc' := 4) (i := 1) (v := h1) dX2_luckyOf_3 rfl rfl rfl ?_
  obtain ⟨r1, er1, h⟩ := wd_bind_some h
  refine wv_callVv (pc' := 7) (ν := r1) [.inr h1] ml_X2_47 rc_21 rfl (Nat.le_of_ble_eq_true rfl) dX2_luckyOf_4 rfl (c_X2_open G d (Nat.le_trans (Nat.le_of_ble_eq_true rfl) hd) w1 er1) ?_
  refine wv_iconst (pc' := 8) dX2_luckyOf_7 ic_0 rfl ?_
  refine wv_istore (pc' := 10) (L' := [some (.inr 21), some (.inr h1), some (.inl x2), some (.inl (0 : Int32)), some (.inl (0 : Int32)), none, none]) dX2_luckyOf_8 (by decide) rfl rfl ?_
  exact t_X2_luckyOf_l10 G d hd (fun x3 μ => X2_luckyOf_b86 h1 μ x3) h1 x2 w1 (fun x3 μ h => t_X2_luckyOf_b86 G d hd h1 μ x3 w1 h) wd_big (0 : Int32) (0 : Int32) r1 h
set_option maxRecDepth 100000 in
set_option maxHeartbeats 4000000 in
theorem c_X2_luckyOf (G : wd_G) (d : Nat) (hd : 13 ≤ d) {h1 : Nat} {μ : wd_Mem} {x2 : Int32} {out : Int32 × wd_Mem} (w1 : wd_isW h1) (h : X2_luckyOf h1 μ x2 = some out) : wd_C G d yX2_luckyOf [.inr 21, .inr h1, .inl x2] μ (fun r u => r = some (.inl out.1) ∧ u = out.2) := by
  obtain ⟨d, rfl⟩ : ∃ e, d = e + 1 := ⟨d - 1, by omega⟩
  refine wd_enter mc_X2_luckyOf (by decide) (by decide +kernel) rfl (Nat.le_of_ble_eq_true rfl) (L0 := [some (.inr 21), some (.inr h1), some (.inl x2), none, none, none, none]) rfl ?_
  exact t_X2_luckyOf_b0 G d (by omega) h1 μ x2 w1 h
set_option maxRecDepth 100000 in
set_option maxHeartbeats 4000000 in
theorem t_X7_commonDivisor_c19 (G : wd_G) (d : Nat) (hd : 0 ≤ d) {out : Int32} (rec : Int32 → Int32 → Int32 → Option (Int32)) (k : Int32 → Option (Int32)) (μ : wd_Mem) (x2 x3 x4 : Int32) (hrec : ∀ (x2 x3 x4 : Int32), rec x2 x3 x4 = some out → wd_V G (d + 1) RX7 cX7_commonDivisor 6 (some .int) (fun r u => r = some (.inl out) ∧ u = μ) 19 [none, none, some (.inl x2), some (.inl x3), some (.inl x4), none] [] μ) (hk : ∀ (x2 : Int32), k x2 = some out → wd_V G (d + 1) RX7 cX7_commonDivisor 6 (some .int) (fun r u => r = some (.inl out) ∧ u = μ) 44 [none, none, some (.inl x2), none, none, none] [] μ) (h : X7_commonDivisor_c19 rec k μ x2 x3 x4 = some out) : wd_V G (d + 1) RX7 cX7_commonDivisor 6 (some .int) (fun r u => r = some (.inl out) ∧ u = μ) 19 [none, none, some (.inl x2), some (.inl x3), some (.inl x4), none] [] μ := by
  unfold X7_commonDivisor_c19 at h
  refine wv_iload (pc' := 21) (v := x4) dX7_commonDivisor_19 rfl rfl ?_
  refine wv_if_le (pc' := 24) (tgt := 44) dX7_commonDivisor_21 (by decide) rfl (fun c1 => ?_) (fun c1 => ?_)
  · have h := (if_pos c1).symm.trans h
    refine wv_weak (L' := [none, none, some (.inl x2), none, none, none]) ⟨rfl, trivial⟩ ?_
    exact hk _ h
  · have h := (if_neg c1).symm.trans h
    refine wv_iload_n (pc' := 25) (i := 3) (v := x3) dX7_commonDivisor_24 rfl rfl rfl ?_
    refine wv_if_le (pc' := 28) (tgt := 44) dX7_commonDivisor_25 (by decide) rfl (fun c2 => ?_) (fun c2 => ?_)
    · have h := (if_pos c2).symm.trans h
      refine wv_weak (L' := [none, none, some (.inl x2), none, none, none]) ⟨rfl, trivial⟩ ?_
      exact hk _ h
    · have h := (if_neg c2).symm.trans h
      refine wv_iload_n (pc' := 29) (i := 2) (v := x2) dX7_commonDivisor_28 rfl rfl rfl ?_
      refine wv_iload_n (pc' := 30) (i := 3) (v := x3) dX7_commonDivisor_29 rfl rfl rfl ?_
      obtain ⟨g3, h⟩ := wd_chk_some h
      refine wv_irem (pc' := 31) dX7_commonDivisor_30 (wd_nz_ne g3) rfl ?_
      refine wv_istore (pc' := 33) (L' := [none, none, some (.inl x2), some (.inl x3), some (.inl x4), some (.inl (x2 - x2 / x3 * x3))]) dX7_commonDivisor_31 (by decide) rfl rfl ?_
      refine wv_iload_n (pc' := 34) (i := 3) (v := x3) dX7_commonDivisor_33 rfl rfl rfl ?_
      refine wv_istore_n (pc' := 35) (i := 2) (L' := [none, none, some (.inl x3), some (.inl x3), some (.inl x4), some (.inl (x2 - x2 / x3 * x3))]) dX7_commonDivisor_34 rfl (by decide) rfl rfl ?_
      refine wv_iload (pc' := 37) (v := (x2 - x2 / x3 * x3)) dX7_commonDivisor_35 rfl rfl ?_
      refine wv_istore_n (pc' := 38) (i := 3) (L' := [none, none, some (.inl x3), some (.inl (x2 - x2 / x3 * x3)), some (.inl x4), some (.inl (x2 - x2 / x3 * x3))]) dX7_commonDivisor_37 rfl (by decide) rfl rfl ?_
      refine wv_inc (pc' := 41) (x := x4) (L' := [none, none, some (.inl x3), some (.inl (x2 - x2 / x3 * x3)), some (.inl (x4 + (-1 : Int32))), some (.inl (x2 - x2 / x3 * x3))]) dX7_commonDivisor_38 ic_m1 rfl (by decide) rfl rfl ?_
      refine wv_goto (pc' := 19) dX7_commonDivisor_41 (by decide) ?_
      refine wv_weak (L' := [none, none, some (.inl x3), some (.inl (x2 - x2 / x3 * x3)), some (.inl (x4 + (-1 : Int32))), none]) ⟨rfl, rfl, rfl, trivial⟩ ?_
      exact hrec _ _ _ h
set_option maxRecDepth 100000 in
set_option maxHeartbeats 4000000 in
theorem t_X7_commonDivisor_l19 (G : wd_G) (d : Nat) (hd : 0 ≤ d) {out : Int32} (k : Int32 → Option (Int32)) (μ : wd_Mem) (hk : ∀ (x2 : Int32), k x2 = some out → wd_V G (d + 1) RX7 cX7_commonDivisor 6 (some .int) (fun r u => r = some (.inl out) ∧ u = μ) 44 [none, none, some (.inl x2), none, none, none] [] μ) : ∀ (n : Nat) (x2 x3 x4 : Int32), X7_commonDivisor_l19 k μ n x2 x3 x4 = some out → wd_V G (d + 1) RX7 cX7_commonDivisor 6 (some .int) (fun r u => r = some (.inl out) ∧ u = μ) 19 [none, none, some (.inl x2), some (.inl x3), some (.inl x4), none] [] μ := by
  intro n
  induction n with
  | zero => intro x2 x3 x4 h; exact absurd h (by unfold X7_commonDivisor_l19; simp)
  | succ n ih =>
    intro x2 x3 x4 h
    exact t_X7_commonDivisor_c19 G d hd (X7_commonDivisor_l19 k μ n) k μ x2 x3 x4  (fun x2 x3 x4 h => ih x2 x3 x4 h) hk h
set_option maxRecDepth 100000 in
set_option maxHeartbeats 4000000 in
theorem t_X7_commonDivisor_b44 (G : wd_G) (d : Nat) (hd : 0 ≤ d) {out : Int32} (μ : wd_Mem) (x2 : Int32)  (h : X7_commonDivisor_b44 μ x2 = some out) : wd_V G (d + 1) RX7 cX7_commonDivisor 6 (some .int) (fun r u => r = some (.inl out) ∧ u = μ) 44 [none, none, some (.inl x2), none, none, none] [] μ := by
  unfold X7_commonDivisor_b44 at h
  refine wv_iload_n (pc' := 45) (i := 2) (v := x2) dX7_commonDivisor_44 rfl rfl rfl ?_
  exact wv_ireturn rfl dX7_commonDivisor_45 (wd_li h)
set_option maxRecDepth 100000 in
set_option maxHeartbeats 4000000 in
theorem t_X7_commonDivisor_b0 (G : wd_G) (d : Nat) (hd : 0 ≤ d) {out : Int32} (μ : wd_Mem) (x0 x1 : Int32)  (h : X7_commonDivisor_b0 μ x0 x1 = some out) : wd_V G (d + 1) RX7 cX7_commonDivisor 6 (some .int) (fun r u => r = some (.inl out) ∧ u = μ) 0 [some (.inl x0), some (.inl x1), none, none, none, none] [] μ := by
  unfold X7_commonDivisor_b0 at h
  refine wv_iload_n (pc' := 1) (i := 0) (v := x0) dX7_commonDivisor_0 rfl rfl rfl ?_
  refine wv_iload_n (pc' := 2) (i := 1) (v := x1) dX7_commonDivisor_1 rfl rfl rfl ?_
  refine wv_max (pc' := 5) mm_X7_204 (Nat.le_of_ble_eq_true rfl) dX7_commonDivisor_2 rfl ?_
  refine wv_istore_n (pc' := 6) (i := 2) (L' := [some (.inl x0), some (.inl x1), some (.inl (if x0 < x1 then x1 else x0)), none, none, none]) dX7_commonDivisor_5 rfl (by decide) rfl rfl ?_
  refine wv_iload_n (pc' := 7) (i := 0) (v := x0) dX7_commonDivisor_6 rfl rfl rfl ?_
  refine wv_iload_n (pc' := 8) (i := 1) (v := x1) dX7_commonDivisor_7 rfl rfl rfl ?_
  refine wv_min (pc' := 11) mm_X7_209 (Nat.le_of_ble_eq_true rfl) dX7_commonDivisor_8 rfl ?_
  refine wv_istore_n (pc' := 12) (i := 3) (L' := [some (.inl x0), some (.inl x1), some (.inl (if x0 < x1 then x1 else x0)), some (.inl (if x1 < x0 then x1 else x0)), none, none]) dX7_commonDivisor_11 rfl (by decide) rfl rfl ?_
  refine wv_iload_n (pc' := 13) (i := 0) (v := x0) dX7_commonDivisor_12 rfl rfl rfl ?_
  refine wv_iload_n (pc' := 14) (i := 1) (v := x1) dX7_commonDivisor_13 rfl rfl rfl ?_
  refine wv_min (pc' := 17) mm_X7_209 (Nat.le_of_ble_eq_true rfl) dX7_commonDivisor_14 rfl ?_
  refine wv_istore (pc' := 19) (L' := [some (.inl x0), some (.inl x1), some (.inl (if x0 < x1 then x1 else x0)), some (.inl (if x1 < x0 then x1 else x0)), some (.inl (if x1 < x0 then x1 else x0)), none]) dX7_commonDivisor_17 (by decide) rfl rfl ?_
  refine wv_weak (L' := [none, none, some (.inl (if x0 < x1 then x1 else x0)), some (.inl (if x1 < x0 then x1 else x0)), some (.inl (if x1 < x0 then x1 else x0)), none]) ⟨rfl, rfl, rfl, trivial⟩ ?_
  exact t_X7_commonDivisor_l19 G d hd (fun x2 => X7_commonDivisor_b44 μ x2) μ  (fun x2 h => t_X7_commonDivisor_b44 G d hd μ x2  h) wd_big (if x0 < x1 then x1 else x0) (if x1 < x0 then x1 else x0) (if x1 < x0 then x1 else x0) h
set_option maxRecDepth 100000 in
set_option maxHeartbeats 4000000 in
theorem c_X7_commonDivisor (G : wd_G) (d : Nat) (hd : 1 ≤ d) {μ : wd_Mem} {x0 x1 : Int32} {out : Int32}  (h : X7_commonDivisor μ x0 x1 = some out) : wd_C G d yX7_commonDivisor [.inl x0, .inl x1] μ (fun r u => r = some (.inl out) ∧ u = μ) := by
  obtain ⟨d, rfl⟩ : ∃ e, d = e + 1 := ⟨d - 1, by omega⟩
  refine wd_enter mc_X7_commonDivisor (by decide) (by decide +kernel) rfl (Nat.le_of_ble_eq_true rfl) (L0 := [some (.inl x0), some (.inl x1), none, none, none, none]) rfl ?_
  exact t_X7_commonDivisor_b0 G d (by omega) μ x0 x1 h
set_option maxRecDepth 100000 in
set_option maxHeartbeats 4000000 in
theorem t_X7_odds_b17 (G : wd_G) (d : Nat) (hd : 13 ≤ d) {out : Int32 × wd_Mem} (μ : wd_Mem)  (h : X7_odds_b17 μ = some out) : wd_V G (d + 1) RX7 cX7_odds 6 (some .int) (fun r u => r = some (.inl out.1) ∧ u = out.2) 17 [some (.inr 0), none, none, none, none, none] [] μ := by
  unfold X7_odds_b17 at h
  refine wv_iconst (pc' := 18) dX7_odds_17 ic_m1 rfl ?_
  exact wv_ireturn rfl dX7_odds_18 (wd_liv h)
set_option maxRecDepth 100000 in
set_option maxHeartbeats 4000000 in
theorem t_X7_odds_b0 (G : wd_G) (d : Nat) (hd : 13 ≤ d) {out : Int32 × wd_Mem} (μ : wd_Mem) (x1 x2 : Int32)  (h : X7_odds_b0 μ x1 x2 = some out) : wd_V G (d + 1) RX7 cX7_odds 6 (some .int) (fun r u => r = some (.inl out.1) ∧ u = out.2) 0 [some (.inr 0), some (.inl x1), some (.inl x2), none, none, none] [] μ := by
  unfold X7_odds_b0 at h
  refine wv_iload_n (pc' := 1) (i := 1) (v := x1) dX7_odds_0 rfl rfl rfl ?_
  refine wv_if_lt (pc' := 4) (tgt := 17) dX7_odds_1 (by decide) rfl (fun c1 => ?_) (fun c1 => ?_)
  · have h := (if_pos c1).symm.trans h
    refine wv_weak (L' := [some (.inr 0), none, none, none, none, none]) ⟨rfl, trivial⟩ ?_
    exact t_X7_odds_b17 G d hd μ  h
  · have h := (if_neg c1).symm.trans h
    refine wv_iload_n (pc' := 5) (i := 1) (v := x1) dX7_odds_4 rfl rfl rfl ?_
    refine wv_bipush (pc' := 7) dX7_odds_5 bp_10 rfl ?_
    refine wv_icmp_gt (pc' := 10) (tgt := 17) dX7_odds_7 (by decide) rfl (fun c2 => ?_) (fun c2 => ?_)
    · have h := (if_pos c2).symm.trans h
      refine wv_weak (L' := [some (.inr 0), none, none, none, none, none]) ⟨rfl, trivial⟩ ?_
      exact t_X7_odds_b17 G d hd μ  h
    · have h := (if_neg c2).symm.trans h
      refine wv_iload_n (pc' := 11) (i := 2) (v := x2) dX7_odds_10 rfl rfl rfl ?_
      refine wv_callSi (pc' := 14) (x := (X7_isZeroOrOne μ x2)) (ν := μ) [.inl x2] ml_X7_118 rfl (Nat.le_of_ble_eq_true rfl) dX7_odds_11 rfl (c_X7_isZeroOrOne G d (Nat.le_trans (Nat.le_of_ble_eq_true rfl) hd)  rfl) ?_
      refine wv_if_ne (pc' := 17) (tgt := 19) dX7_odds_14 (by decide) rfl (fun c3 => ?_) (fun c3 => ?_)
      · have h := (if_neg c3).symm.trans h
        refine wv_aload_n (pc' := 20) (i := 0) (v := 0) dX7_odds_19 rfl rfl rfl ?_
        refine wv_gr (pc' := 23) g_X7_72_0 dX7_odds_20 rfl ?_
        refine wv_aload_n (pc' := 24) (i := 0) (v := 0) dX7_odds_23 rfl rfl rfl ?_
        refine wv_gr (pc' := 27) g_X7_29_0 dX7_odds_24 rfl ?_
        refine wv_iload_n (pc' := 28) (i := 1) (v := x1) dX7_odds_27 rfl rfl rfl ?_
        obtain ⟨r4, er4, h⟩ := wd_bind_some h
        refine wv_callVi (pc' := 31) (x := r4.1) (ν := r4.2) [.inr 48, .inl x1] ml_X7_178 rc_21 rfl (Nat.le_of_ble_eq_true rfl) dX7_odds_28 rfl (c_X2_luckyOf G d (Nat.le_trans (Nat.le_of_ble_eq_true rfl) hd) sh_48 er4) ?_
        refine wv_istore_n (pc' := 32) (i := 3) (L' := [some (.inr 0), some (.inl x1), some (.inl x2), some (.inl r4.1), none, none]) dX7_odds_31 rfl (by decide) rfl rfl ?_
        refine wv_bipush (pc' := 34) dX7_odds_32 bp_10 rfl ?_
        refine wv_aload_n (pc' := 35) (i := 0) (v := 0) dX7_odds_34 rfl rfl rfl ?_
        refine wv_gr (pc' := 38) g_X7_19_0 dX7_odds_35 rfl ?_
        refine wv_gi (pc' := 41) g_X7_151_3 dX7_odds_38 rfl ?_
        obtain ⟨r5, er5, h⟩ := wd_bind_some h
        refine wv_callSi (pc' := 44) (x := r5) (ν := r4.2) [.inl (10 : Int32), .inl (r4.2 3 1)] ml_X7_181 rfl (Nat.le_of_ble_eq_true rfl) dX7_odds_41 rfl (c_X7_power G d (Nat.le_trans (Nat.le_of_ble_eq_true rfl) hd)  er5) ?_
        refine wv_istore (pc' := 46) (L' := [some (.inr 0), some (.inl x1), some (.inl x2), some (.inl r4.1), some (.inl r5), none]) dX7_odds_44 (by decide) rfl rfl ?_
        refine wv_iload_n (pc' := 47) (i := 3) (v := r4.1) dX7_odds_46 rfl rfl rfl ?_
        refine wv_iload (pc' := 49) (v := r5) dX7_odds_47 rfl rfl ?_
        obtain ⟨r6, er6, h⟩ := wd_bind_some h
        refine wv_callSi (pc' := 52) (x := r6) (ν := r4.2) [.inl r4.1, .inl r5] ml_X7_184 rfl (Nat.le_of_ble_eq_true rfl) dX7_odds_49 rfl (c_X7_commonDivisor G d (Nat.le_trans (Nat.le_of_ble_eq_true rfl) hd)  er6) ?_
        refine wv_istore (pc' := 54) (L' := [some (.inr 0), some (.inl x1), some (.inl x2), some (.inl r4.1), some (.inl r5), some (.inl r6)]) dX7_odds_52 (by decide) rfl rfl ?_
        refine wv_iload (pc' := 56) (v := r6) dX7_odds_54 rfl rfl ?_
        refine wv_if_gt (pc' := 59) (tgt := 61) dX7_odds_56 (by decide) rfl (fun c7 => ?_) (fun c7 => ?_)
        · have h := (if_pos c7).symm.trans h
          refine wv_iload_n (pc' := 62) (i := 2) (v := x2) dX7_odds_61 rfl rfl rfl ?_
          refine wv_if_ne (pc' := 65) (tgt := 72) dX7_odds_62 (by decide) rfl (fun c8 => ?_) (fun c8 => ?_)
          · have h := (if_neg c8).symm.trans h
            refine wv_iload (pc' := 74) (v := r5) dX7_odds_72 rfl rfl ?_
            refine wv_iload (pc' := 76) (v := r6) dX7_odds_74 rfl rfl ?_
            obtain ⟨g9, h⟩ := wd_chk_some h
            refine wv_idiv (pc' := 77) dX7_odds_76 (wd_nz_ne g9) rfl ?_
            exact wv_ireturn rfl dX7_odds_77 (wd_liv h)
          · have h := (if_pos c8).symm.trans h
            refine wv_iload_n (pc' := 66) (i := 3) (v := r4.1) dX7_odds_65 rfl rfl rfl ?_
            refine wv_iload (pc' := 68) (v := r6) dX7_odds_66 rfl rfl ?_
            obtain ⟨g10, h⟩ := wd_chk_some h
            refine wv_idiv (pc' := 69) dX7_odds_68 (wd_nz_ne g10) rfl ?_
            refine wv_goto (pc' := 77) dX7_odds_69 (by decide) ?_
            exact wv_ireturn rfl dX7_odds_77 (wd_liv h)
        · have h := (if_neg c7).symm.trans h
          refine wv_iconst (pc' := 60) dX7_odds_59 ic_m1 rfl ?_
          exact wv_ireturn rfl dX7_odds_60 (wd_liv h)
      · have h := (if_pos c3).symm.trans h
        refine wv_weak (L' := [some (.inr 0), none, none, none, none, none]) ⟨rfl, trivial⟩ ?_
        exact t_X7_odds_b17 G d hd μ  h
set_option maxRecDepth 100000 in
set_option maxHeartbeats 4000000 in
theorem c_X7_odds (G : wd_G) (d : Nat) (hd : 14 ≤ d) {μ : wd_Mem} {x1 x2 : Int32} {out : Int32 × wd_Mem}  (h : X7_odds μ x1 x2 = some out) : wd_C G d yX7_odds [.inr 0, .inl x1, .inl x2] μ (fun r u => r = some (.inl out.1) ∧ u = out.2) := by
  obtain ⟨d, rfl⟩ : ∃ e, d = e + 1 := ⟨d - 1, by omega⟩
  refine wd_enter mc_X7_odds (by decide) (by decide +kernel) rfl (Nat.le_of_ble_eq_true rfl) (L0 := [some (.inr 0), some (.inl x1), some (.inl x2), none, none, none]) rfl ?_
  exact t_X7_odds_b0 G d (by omega) μ x1 x2 h
set_option maxRecDepth 100000 in
set_option maxHeartbeats 4000000 in
theorem t_X7_keep_b0 (G : wd_G) (d : Nat) (hd : 1 ≤ d) {out : Int32 × wd_Mem} (μ : wd_Mem) (x1 : Int32)  (h : X7_keep_b0 μ x1 = some out) : wd_V G (d + 1) RX7 cX7_keep 2 (some .int) (fun r u => r = some (.inl out.1) ∧ u = out.2) 0 [some (.inr 0), some (.inl x1)] [] μ := by
  unfold X7_keep_b0 at h
  refine wv_iload_n (pc' := 1) (i := 1) (v := x1) dX7_keep_0 rfl rfl rfl ?_
  refine wv_callSi (pc' := 4) (x := (X7_isZeroOrOne μ x1)) (ν := μ) [.inl x1] ml_X7_118 rfl (Nat.le_of_ble_eq_true rfl) dX7_keep_1 rfl (c_X7_isZeroOrOne G d (Nat.le_trans (Nat.le_of_ble_eq_true rfl) hd)  rfl) ?_
  refine wv_if_ne (pc' := 7) (tgt := 9) dX7_keep_4 (by decide) rfl (fun c1 => ?_) (fun c1 => ?_)
  · have h := (if_neg c1).symm.trans h
    refine wv_aload_n (pc' := 10) (i := 0) (v := 0) dX7_keep_9 rfl rfl rfl ?_
    refine wv_gr (pc' := 13) g_X7_36_0 dX7_keep_10 rfl ?_
    refine wv_iload_n (pc' := 14) (i := 1) (v := x1) dX7_keep_13 rfl rfl rfl ?_
    obtain ⟨g2, h⟩ := wd_chk_some h
    obtain ⟨a14, ea14, h⟩ := wd_bind_some h
    have wa14 : wd_isW a14 := wd_imgsW ea14
    refine wv_aald (pc' := 15) sr_29 (wd_in_vp g2) ea14 dX7_keep_14 rfl ?_
    refine wv_aload_n (pc' := 16) (i := 0) (v := 0) dX7_keep_15 rfl rfl rfl ?_
    refine wv_gr (pc' := 19) g_X7_29_0 dX7_keep_16 rfl ?_
    obtain ⟨r3, er3, h⟩ := wd_bind_some h
    refine wv_callVv (pc' := 22) (ν := r3) [.inr 48] ml_X7_91 (wd_rcW wa14) rfl (Nat.le_of_ble_eq_true rfl) dX7_keep_19 rfl (c_X6_take G d (Nat.le_trans (Nat.le_of_ble_eq_true rfl) hd) wa14 sh_48 er3) ?_
    refine wv_aload_n (pc' := 23) (i := 0) (v := 0) dX7_keep_22 rfl rfl rfl ?_
    refine wv_gr (pc' := 26) g_X7_40_0 dX7_keep_23 rfl ?_
    refine wv_iload_n (pc' := 27) (i := 1) (v := x1) dX7_keep_26 rfl rfl rfl ?_
    refine wv_iconst (pc' := 28) dX7_keep_27 ic_1 rfl ?_
    refine wv_zast (pc' := 29) sa_30 (wd_in_vp g2) dX7_keep_28 rfl ?_
    refine wv_aload_n (pc' := 30) (i := 0) (v := 0) dX7_keep_29 rfl rfl rfl ?_
    refine wv_gr (pc' := 33) g_X7_19_0 dX7_keep_30 rfl ?_
    refine wv_giE (pc' := 36) (v := (r3 3 1)) g_X7_151_3 dX7_keep_33 rfl rfl ?_
    exact wv_ireturn rfl dX7_keep_36 (wd_liv h)
  · have h := (if_pos c1).symm.trans h
    refine wv_iconst (pc' := 8) dX7_keep_7 ic_m1 rfl ?_
    exact wv_ireturn rfl dX7_keep_8 (wd_liv h)
set_option maxRecDepth 100000 in
set_option maxHeartbeats 4000000 in
theorem c_X7_keep (G : wd_G) (d : Nat) (hd : 2 ≤ d) {μ : wd_Mem} {x1 : Int32} {out : Int32 × wd_Mem}  (h : X7_keep μ x1 = some out) : wd_C G d yX7_keep [.inr 0, .inl x1] μ (fun r u => r = some (.inl out.1) ∧ u = out.2) := by
  obtain ⟨d, rfl⟩ : ∃ e, d = e + 1 := ⟨d - 1, by omega⟩
  refine wd_enter mc_X7_keep (by decide) (by decide +kernel) rfl (Nat.le_of_ble_eq_true rfl) (L0 := [some (.inr 0), some (.inl x1)]) rfl ?_
  exact t_X7_keep_b0 G d (by omega) μ x1 h
set_option maxRecDepth 100000 in
set_option maxHeartbeats 4000000 in
theorem t_X7_back_b0 (G : wd_G) (d : Nat) (hd : 1 ≤ d) {out : Int32 × wd_Mem} (μ : wd_Mem) (x1 : Int32)  (h : X7_back_b0 μ x1 = some out) : wd_V G (d + 1) RX7 cX7_back 2 (some .int) (fun r u => r = some (.inl out.1) ∧ u = out.2) 0 [some (.inr 0), some (.inl x1)] [] μ := by
  unfold X7_back_b0 at h
  refine wv_iload_n (pc' := 1) (i := 1) (v := x1) dX7_back_0 rfl rfl rfl ?_
  refine wv_callSi (pc' := 4) (x := (X7_isZeroOrOne μ x1)) (ν := μ) [.inl x1] ml_X7_118 rfl (Nat.le_of_ble_eq_true rfl) dX7_back_1 rfl (c_X7_isZeroOrOne G d (Nat.le_trans (Nat.le_of_ble_eq_true rfl) hd)  rfl) ?_
  refine wv_if_ne (pc' := 7) (tgt := 9) dX7_back_4 (by decide) rfl (fun c1 => ?_) (fun c1 => ?_)
  · have h := (if_neg c1).symm.trans h
    refine wv_aload_n (pc' := 10) (i := 0) (v := 0) dX7_back_9 rfl rfl rfl ?_
    refine wv_gr (pc' := 13) g_X7_40_0 dX7_back_10 rfl ?_
    refine wv_iload_n (pc' := 14) (i := 1) (v := x1) dX7_back_13 rfl rfl rfl ?_
    obtain ⟨g2, h⟩ := wd_chk_some h
    refine wv_zald (pc' := 15) sa_30 (wd_in_vp g2) dX7_back_14 rfl ?_
    refine wv_if_ne (pc' := 18) (tgt := 21) dX7_back_15 (by decide) rfl (fun c3 => ?_) (fun c3 => ?_)
    · have h := (if_neg c3).symm.trans h
      refine wv_aload_n (pc' := 22) (i := 0) (v := 0) dX7_back_21 rfl rfl rfl ?_
      refine wv_gr (pc' := 25) g_X7_29_0 dX7_back_22 rfl ?_
      refine wv_aload_n (pc' := 26) (i := 0) (v := 0) dX7_back_25 rfl rfl rfl ?_
      refine wv_gr (pc' := 29) g_X7_36_0 dX7_back_26 rfl ?_
      refine wv_iload_n (pc' := 30) (i := 1) (v := x1) dX7_back_29 rfl rfl rfl ?_
      obtain ⟨a30, ea30, h⟩ := wd_bind_some h
      have wa30 : wd_isW a30 := wd_imgsW ea30
      refine wv_aald (pc' := 31) sr_29 (wd_in_vp g2) ea30 dX7_back_30 rfl ?_
      obtain ⟨r4, er4, h⟩ := wd_bind_some h
      refine wv_callVv (pc' := 34) (ν := r4) [.inr a30] ml_X7_91 (wd_rcW sh_48) rfl (Nat.le_of_ble_eq_true rfl) dX7_back_31 rfl (c_X6_take G d (Nat.le_trans (Nat.le_of_ble_eq_true rfl) hd) sh_48 wa30 er4) ?_
      refine wv_aload_n (pc' := 35) (i := 0) (v := 0) dX7_back_34 rfl rfl rfl ?_
      refine wv_gr (pc' := 38) g_X7_47_0 dX7_back_35 rfl ?_
      refine wv_iconst (pc' := 39) dX7_back_38 ic_0 rfl ?_
      refine wv_pi (pc' := 42) p_X7_94_27 dX7_back_39 rfl ?_
      refine wv_aload_n (pc' := 43) (i := 0) (v := 0) dX7_back_42 rfl rfl rfl ?_
      refine wv_gr (pc' := 46) g_X7_19_0 dX7_back_43 rfl ?_
      refine wv_giE (pc' := 49) (v := (r4 3 1)) g_X7_151_3 dX7_back_46 rfl rfl ?_
      exact wv_ireturn rfl dX7_back_49 (wd_liv h)
    · have h := (if_pos c3).symm.trans h
      refine wv_bipush (pc' := 20) dX7_back_18 bp_m2 rfl ?_
      exact wv_ireturn rfl dX7_back_20 (wd_liv h)
  · have h := (if_pos c1).symm.trans h
    refine wv_iconst (pc' := 8) dX7_back_7 ic_m1 rfl ?_
    exact wv_ireturn rfl dX7_back_8 (wd_liv h)
set_option maxRecDepth 100000 in
set_option maxHeartbeats 4000000 in
theorem c_X7_back (G : wd_G) (d : Nat) (hd : 2 ≤ d) {μ : wd_Mem} {x1 : Int32} {out : Int32 × wd_Mem}  (h : X7_back μ x1 = some out) : wd_C G d yX7_back [.inr 0, .inl x1] μ (fun r u => r = some (.inl out.1) ∧ u = out.2) := by
  obtain ⟨d, rfl⟩ : ∃ e, d = e + 1 := ⟨d - 1, by omega⟩
  refine wd_enter mc_X7_back (by decide) (by decide +kernel) rfl (Nat.le_of_ble_eq_true rfl) (L0 := [some (.inr 0), some (.inl x1)]) rfl ?_
  exact t_X7_back_b0 G d (by omega) μ x1 h
set_option maxRecDepth 100000 in
set_option maxHeartbeats 4000000 in
theorem t_X2_putInOrder_b68 (G : wd_G) (d : Nat) (hd : 1 ≤ d) {out : wd_Mem} (rec : Int32 → Int32 → Option (wd_Mem)) (k : Int32 → Option (wd_Mem)) (μ : wd_Mem) (x1 x3 s0 s1 : Int32) (hrec : ∀ (x2 x3 : Int32), rec x2 x3 = some out → wd_V G (d + 1) RX2 cX2_putInOrder 5 none (fun r u => r = none ∧ u = out) 17 [some (.inr 21), some (.inl x1), some (.inl x2), some (.inl x3), none] [] μ) (hk : ∀ (x2 : Int32), k x2 = some out → wd_V G (d + 1) RX2 cX2_putInOrder 5 none (fun r u => r = none ∧ u = out) 76 [some (.inr 21), some (.inl x1), some (.inl x2), none, none] [] μ) (h : X2_putInOrder_b68 rec k μ x1 x3 s0 s1 = some out) : wd_V G (d + 1) RX2 cX2_putInOrder 5 none (fun r u => r = none ∧ u = out) 68 [some (.inr 21), some (.inl x1), none, some (.inl x3), none] [.inl s1, .inl s0] μ := by
  unfold X2_putInOrder_b68 at h
  refine wv_iadd (pc' := 69) dX2_putInOrder_68 rfl ?_
  refine wv_istore_n (pc' := 70) (i := 2) (L' := [some (.inr 21), some (.inl x1), some (.inl (s0 + s1)), some (.inl x3), none]) dX2_putInOrder_69 rfl (by decide) rfl rfl ?_
  refine wv_inc (pc' := 73) (x := x3) (L' := [some (.inr 21), some (.inl x1), some (.inl (s0 + s1)), some (.inl (x3 + (1 : Int32))), none]) dX2_putInOrder_70 ic_1 rfl (by decide) rfl rfl ?_
  refine wv_goto (pc' := 17) dX2_putInOrder_73 (by decide) ?_
  exact hrec _ _ h
set_option maxRecDepth 100000 in
set_option maxHeartbeats 4000000 in
theorem t_X2_putInOrder_b63 (G : wd_G) (d : Nat) (hd : 1 ≤ d) {out : wd_Mem} (rec : Int32 → Int32 → Option (wd_Mem)) (k : Int32 → Option (wd_Mem)) (μ : wd_Mem) (x1 x3 s0 : Int32) (hrec : ∀ (x2 x3 : Int32), rec x2 x3 = some out → wd_V G (d + 1) RX2 cX2_putInOrder 5 none (fun r u => r = none ∧ u = out) 17 [some (.inr 21), some (.inl x1), some (.inl x2), some (.inl x3), none] [] μ) (hk : ∀ (x2 : Int32), k x2 = some out → wd_V G (d + 1) RX2 cX2_putInOrder 5 none (fun r u => r = none ∧ u = out) 76 [some (.inr 21), some (.inl x1), some (.inl x2), none, none] [] μ) (h : X2_putInOrder_b63 rec k μ x1 x3 s0 = some out) : wd_V G (d + 1) RX2 cX2_putInOrder 5 none (fun r u => r = none ∧ u = out) 63 [some (.inr 21), some (.inl x1), none, some (.inl x3), none] [.inl s0] μ := by
  unfold X2_putInOrder_b63 at h
  refine wv_iconst (pc' := 64) dX2_putInOrder_63 ic_1 rfl ?_
  refine wv_goto (pc' := 68) dX2_putInOrder_64 (by decide) ?_
  exact t_X2_putInOrder_b68 G d hd rec k μ x1 x3 s0 (1 : Int32) hrec hk h
set_option maxRecDepth 100000 in
set_option maxHeartbeats 4000000 in
theorem t_X2_putInOrder_b67 (G : wd_G) (d : Nat) (hd : 1 ≤ d) {out : wd_Mem} (rec : Int32 → Int32 → Option (wd_Mem)) (k : Int32 → Option (wd_Mem)) (μ : wd_Mem) (x1 x3 s0 : Int32) (hrec : ∀ (x2 x3 : Int32), rec x2 x3 = some out → wd_V G (d + 1) RX2 cX2_putInOrder 5 none (fun r u => r = none ∧ u = out) 17 [some (.inr 21), some (.inl x1), some (.inl x2), some (.inl x3), none] [] μ) (hk : ∀ (x2 : Int32), k x2 = some out → wd_V G (d + 1) RX2 cX2_putInOrder 5 none (fun r u => r = none ∧ u = out) 76 [some (.inr 21), some (.inl x1), some (.inl x2), none, none] [] μ) (h : X2_putInOrder_b67 rec k μ x1 x3 s0 = some out) : wd_V G (d + 1) RX2 cX2_putInOrder 5 none (fun r u => r = none ∧ u = out) 67 [some (.inr 21), some (.inl x1), none, some (.inl x3), none] [.inl s0] μ := by
  unfold X2_putInOrder_b67 at h
  refine wv_iconst (pc' := 68) dX2_putInOrder_67 ic_0 rfl ?_
  exact t_X2_putInOrder_b68 G d hd rec k μ x1 x3 s0 (0 : Int32) hrec hk h
set_option maxRecDepth 100000 in
set_option maxHeartbeats 4000000 in
theorem t_X2_putInOrder_c17 (G : wd_G) (d : Nat) (hd : 1 ≤ d) {out : wd_Mem} (rec : Int32 → Int32 → Option (wd_Mem)) (k : Int32 → Option (wd_Mem)) (μ : wd_Mem) (x1 x2 x3 : Int32) (hrec : ∀ (x2 x3 : Int32), rec x2 x3 = some out → wd_V G (d + 1) RX2 cX2_putInOrder 5 none (fun r u => r = none ∧ u = out) 17 [some (.inr 21), some (.inl x1), some (.inl x2), some (.inl x3), none] [] μ) (hk : ∀ (x2 : Int32), k x2 = some out → wd_V G (d + 1) RX2 cX2_putInOrder 5 none (fun r u => r = none ∧ u = out) 76 [some (.inr 21), some (.inl x1), some (.inl x2), none, none] [] μ) (h : X2_putInOrder_c17 rec k μ x1 x2 x3 = some out) : wd_V G (d + 1) RX2 cX2_putInOrder 5 none (fun r u => r = none ∧ u = out) 17 [some (.inr 21), some (.inl x1), some (.inl x2), some (.inl x3), none] [] μ := by
  unfold X2_putInOrder_c17 at h
  refine wv_iload_n (pc' := 18) (i := 3) (v := x3) dX2_putInOrder_17 rfl rfl rfl ?_
  refine wv_aload_n (pc' := 19) (i := 0) (v := 21) dX2_putInOrder_18 rfl rfl rfl ?_
  refine wv_gr (pc' := 22) g_X2_27_21 dX2_putInOrder_19 rfl ?_
  refine wv_gi (pc' := 25) g_X2_31_3 dX2_putInOrder_22 rfl ?_
  refine wv_icmp_ge (pc' := 28) (tgt := 76) dX2_putInOrder_25 (by decide) rfl (fun c2 => ?_) (fun c2 => ?_)
  · have h := (if_pos c2).symm.trans h
    refine wv_weak (L' := [some (.inr 21), some (.inl x1), some (.inl x2), none, none]) ⟨rfl, rfl, rfl, trivial⟩ ?_
    exact hk _ h
  · have h := (if_neg c2).symm.trans h
    refine wv_aload_n (pc' := 29) (i := 0) (v := 21) dX2_putInOrder_28 rfl rfl rfl ?_
    refine wv_gr (pc' := 32) g_X2_27_21 dX2_putInOrder_29 rfl ?_
    refine wv_iload_n (pc' := 33) (i := 3) (v := x3) dX2_putInOrder_32 rfl rfl rfl ?_
    obtain ⟨r3, er3, h⟩ := wd_bind_some h
    refine wv_callVi (pc' := 36) (x := r3) (ν := μ) [.inl x3] ml_X2_65 rc_3 rfl (Nat.le_of_ble_eq_true rfl) dX2_putInOrder_33 rfl (c_X4_energy G d (Nat.le_trans (Nat.le_of_ble_eq_true rfl) hd) (Or.inl rfl) er3) ?_
    refine wv_aload_n (pc' := 37) (i := 0) (v := 21) dX2_putInOrder_36 rfl rfl rfl ?_
    refine wv_gr (pc' := 40) g_X2_27_21 dX2_putInOrder_37 rfl ?_
    refine wv_iload_n (pc' := 41) (i := 1) (v := x1) dX2_putInOrder_40 rfl rfl rfl ?_
    obtain ⟨r4, er4, h⟩ := wd_bind_some h
    refine wv_callVi (pc' := 44) (x := r4) (ν := μ) [.inl x1] ml_X2_65 rc_3 rfl (Nat.le_of_ble_eq_true rfl) dX2_putInOrder_41 rfl (c_X4_energy G d (Nat.le_trans (Nat.le_of_ble_eq_true rfl) hd) (Or.inl rfl) er4) ?_
    refine wv_isub (pc' := 45) dX2_putInOrder_44 rfl ?_
    refine wv_istore (pc' := 47) (L' := [some (.inr 21), some (.inl x1), some (.inl x2), some (.inl x3), some (.inl (r3 - r4))]) dX2_putInOrder_45 (by decide) rfl rfl ?_
    refine wv_iload_n (pc' := 48) (i := 2) (v := x2) dX2_putInOrder_47 rfl rfl rfl ?_
    refine wv_iload (pc' := 50) (v := (r3 - r4)) dX2_putInOrder_48 rfl rfl ?_
    refine wv_if_gt (pc' := 53) (tgt := 63) dX2_putInOrder_50 (by decide) rfl (fun c5 => ?_) (fun c5 => ?_)
    · have h := (if_pos c5).symm.trans h
      refine wv_weak (L' := [some (.inr 21), some (.inl x1), none, some (.inl x3), none]) ⟨rfl, rfl, rfl, trivial⟩ ?_
      exact t_X2_putInOrder_b63 G d hd rec k μ x1 x3 x2 hrec hk h
    · have h := (if_neg c5).symm.trans h
      refine wv_iload (pc' := 55) (v := (r3 - r4)) dX2_putInOrder_53 rfl rfl ?_
      refine wv_if_ne (pc' := 58) (tgt := 67) dX2_putInOrder_55 (by decide) rfl (fun c6 => ?_) (fun c6 => ?_)
      · have h := (if_neg c6).symm.trans h
        refine wv_weak (L' := [some (.inr 21), some (.inl x1), none, some (.inl x3), none]) ⟨rfl, rfl, rfl, trivial⟩ ?_
        exact t_X2_putInOrder_b67 G d hd rec k μ x1 x3 x2 hrec hk h
      · have h := (if_pos c6).symm.trans h
        refine wv_iload_n (pc' := 59) (i := 3) (v := x3) dX2_putInOrder_58 rfl rfl rfl ?_
        refine wv_iload_n (pc' := 60) (i := 1) (v := x1) dX2_putInOrder_59 rfl rfl rfl ?_
        refine wv_icmp_ge (pc' := 63) (tgt := 67) dX2_putInOrder_60 (by decide) rfl (fun c7 => ?_) (fun c7 => ?_)
        · have h := (if_pos c7).symm.trans h
          refine wv_weak (L' := [some (.inr 21), some (.inl x1), none, some (.inl x3), none]) ⟨rfl, rfl, rfl, trivial⟩ ?_
          exact t_X2_putInOrder_b67 G d hd rec k μ x1 x3 x2 hrec hk h
        · have h := (if_neg c7).symm.trans h
          refine wv_weak (L' := [some (.inr 21), some (.inl x1), none, some (.inl x3), none]) ⟨rfl, rfl, rfl, trivial⟩ ?_
          exact t_X2_putInOrder_b63 G d hd rec k μ x1 x3 x2 hrec hk h
set_option maxRecDepth 100000 in
set_option maxHeartbeats 4000000 in
theorem t_X2_putInOrder_l17 (G : wd_G) (d : Nat) (hd : 1 ≤ d) {out : wd_Mem} (k : Int32 → Option (wd_Mem)) (μ : wd_Mem) (x1 : Int32) (hk : ∀ (x2 : Int32), k x2 = some out → wd_V G (d + 1) RX2 cX2_putInOrder 5 none (fun r u => r = none ∧ u = out) 76 [some (.inr 21), some (.inl x1), some (.inl x2), none, none] [] μ) : ∀ (n : Nat) (x2 x3 : Int32), X2_putInOrder_l17 k μ x1 n x2 x3 = some out → wd_V G (d + 1) RX2 cX2_putInOrder 5 none (fun r u => r = none ∧ u = out) 17 [some (.inr 21), some (.inl x1), some (.inl x2), some (.inl x3), none] [] μ := by
  intro n
  induction n with
  | zero => intro x2 x3 h; exact absurd h (by unfold X2_putInOrder_l17; simp)
  | succ n ih =>
    intro x2 x3 h
    exact t_X2_putInOrder_c17 G d hd (X2_putInOrder_l17 k μ x1 n) k μ x1 x2 x3  (fun x2 x3 h => ih x2 x3 h) hk h
set_option maxRecDepth 100000 in
set_option maxHeartbeats 4000000 in
theorem t_X2_putInOrder_b76 (G : wd_G) (d : Nat) (hd : 1 ≤ d) {out : wd_Mem} (rec : Int32 → wd_Mem → Option (wd_Mem)) (k : wd_Mem → Option (wd_Mem)) (μ : wd_Mem) (x1 x2 : Int32) (hrec : ∀ (x1 : Int32) (μ : wd_Mem), rec x1 μ = some out → wd_V G (d + 1) RX2 cX2_putInOrder 5 none (fun r u => r = none ∧ u = out) 2 [some (.inr 21), some (.inl x1), none, none, none] [] μ) (hk : ∀  (μ : wd_Mem), k μ = some out → wd_V G (d + 1) RX2 cX2_putInOrder 5 none (fun r u => r = none ∧ u = out) 89 [some (.inr 21), none, none, none, none] [] μ) (h : X2_putInOrder_b76 rec k μ x1 x2 = some out) : wd_V G (d + 1) RX2 cX2_putInOrder 5 none (fun r u => r = none ∧ u = out) 76 [some (.inr 21), some (.inl x1), some (.inl x2), none, none] [] μ := by
  unfold X2_putInOrder_b76 at h
  refine wv_aload_n (pc' := 77) (i := 0) (v := 21) dX2_putInOrder_76 rfl rfl rfl ?_
  refine wv_gr (pc' := 80) g_X2_21_21 dX2_putInOrder_77 rfl ?_
  refine wv_iload_n (pc' := 81) (i := 2) (v := x2) dX2_putInOrder_80 rfl rfl rfl ?_
  refine wv_iload_n (pc' := 82) (i := 1) (v := x1) dX2_putInOrder_81 rfl rfl rfl ?_
  obtain ⟨g8, h⟩ := wd_chk_some h
  refine wv_iast (pc' := 83) sa_25 (wd_in_vp g8) dX2_putInOrder_82 rfl ?_
  refine wv_inc (pc' := 86) (x := x1) (L' := [some (.inr 21), some (.inl (x1 + (1 : Int32))), some (.inl x2), none, none]) dX2_putInOrder_83 ic_1 rfl (by decide) rfl rfl ?_
  refine wv_goto (pc' := 2) dX2_putInOrder_86 (by decide) ?_
  refine wv_weak (L' := [some (.inr 21), some (.inl (x1 + (1 : Int32))), none, none, none]) ⟨rfl, rfl, trivial⟩ ?_
  exact hrec _ _ h
set_option maxRecDepth 100000 in
set_option maxHeartbeats 4000000 in
theorem t_X2_putInOrder_c2 (G : wd_G) (d : Nat) (hd : 1 ≤ d) {out : wd_Mem} (rec : Int32 → wd_Mem → Option (wd_Mem)) (k : wd_Mem → Option (wd_Mem)) (μ : wd_Mem) (x1 : Int32) (hrec : ∀ (x1 : Int32) (μ : wd_Mem), rec x1 μ = some out → wd_V G (d + 1) RX2 cX2_putInOrder 5 none (fun r u => r = none ∧ u = out) 2 [some (.inr 21), some (.inl x1), none, none, none] [] μ) (hk : ∀  (μ : wd_Mem), k μ = some out → wd_V G (d + 1) RX2 cX2_putInOrder 5 none (fun r u => r = none ∧ u = out) 89 [some (.inr 21), none, none, none, none] [] μ) (h : X2_putInOrder_c2 rec k μ x1 = some out) : wd_V G (d + 1) RX2 cX2_putInOrder 5 none (fun r u => r = none ∧ u = out) 2 [some (.inr 21), some (.inl x1), none, none, none] [] μ := by
  unfold X2_putInOrder_c2 at h
  refine wv_iload_n (pc' := 3) (i := 1) (v := x1) dX2_putInOrder_2 rfl rfl rfl ?_
  refine wv_aload_n (pc' := 4) (i := 0) (v := 21) dX2_putInOrder_3 rfl rfl rfl ?_
  refine wv_gr (pc' := 7) g_X2_27_21 dX2_putInOrder_4 rfl ?_
  refine wv_gi (pc' := 10) g_X2_31_3 dX2_putInOrder_7 rfl ?_
  refine wv_icmp_ge (pc' := 13) (tgt := 89) dX2_putInOrder_10 (by decide) rfl (fun c1 => ?_) (fun c1 => ?_)
  · have h := (if_pos c1).symm.trans h
    refine wv_weak (L' := [some (.inr 21), none, none, none, none]) ⟨rfl, trivial⟩ ?_
    exact hk _ h
  · have h := (if_neg c1).symm.trans h
    refine wv_iconst (pc' := 14) dX2_putInOrder_13 ic_0 rfl ?_
    refine wv_istore_n (pc' := 15) (i := 2) (L' := [some (.inr 21), some (.inl x1), some (.inl (0 : Int32)), none, none]) dX2_putInOrder_14 rfl (by decide) rfl rfl ?_
    refine wv_iconst (pc' := 16) dX2_putInOrder_15 ic_0 rfl ?_
    refine wv_istore_n (pc' := 17) (i := 3) (L' := [some (.inr 21), some (.inl x1), some (.inl (0 : Int32)), some (.inl (0 : Int32)), none]) dX2_putInOrder_16 rfl (by decide) rfl rfl ?_
    exact t_X2_putInOrder_l17 G d hd (fun x2 => X2_putInOrder_b76 rec k μ x1 x2) μ x1  (fun x2 h => t_X2_putInOrder_b76 G d hd rec k μ x1 x2 hrec hk h) wd_big (0 : Int32) (0 : Int32) h
set_option maxRecDepth 100000 in
set_option maxHeartbeats 4000000 in
theorem t_X2_putInOrder_l2 (G : wd_G) (d : Nat) (hd : 1 ≤ d) {out : wd_Mem} (k : wd_Mem → Option (wd_Mem)) (hk : ∀  (μ : wd_Mem), k μ = some out → wd_V G (d + 1) RX2 cX2_putInOrder 5 none (fun r u => r = none ∧ u = out) 89 [some (.inr 21), none, none, none, none] [] μ) : ∀ (n : Nat) (x1 : Int32) (μ : wd_Mem), X2_putInOrder_l2 k n x1 μ = some out → wd_V G (d + 1) RX2 cX2_putInOrder 5 none (fun r u => r = none ∧ u = out) 2 [some (.inr 21), some (.inl x1), none, none, none] [] μ := by
  intro n
  induction n with
  | zero => intro x1 μ h; exact absurd h (by unfold X2_putInOrder_l2; simp)
  | succ n ih =>
    intro x1 μ h
    exact t_X2_putInOrder_c2 G d hd (X2_putInOrder_l2 k n) k μ x1  (fun x1 μ h => ih x1 μ h) hk h
set_option maxRecDepth 100000 in
set_option maxHeartbeats 4000000 in
theorem t_X2_putInOrder_b89 (G : wd_G) (d : Nat) (hd : 1 ≤ d) {out : wd_Mem} (μ : wd_Mem)  (h : X2_putInOrder_b89 μ = some out) : wd_V G (d + 1) RX2 cX2_putInOrder 5 none (fun r u => r = none ∧ u = out) 89 [some (.inr 21), none, none, none, none] [] μ := by
  unfold X2_putInOrder_b89 at h
  exact wv_return rfl dX2_putInOrder_89 (wd_lv h)
set_option maxRecDepth 100000 in
set_option maxHeartbeats 4000000 in
theorem t_X2_putInOrder_b0 (G : wd_G) (d : Nat) (hd : 1 ≤ d) {out : wd_Mem} (μ : wd_Mem)  (h : X2_putInOrder_b0 μ = some out) : wd_V G (d + 1) RX2 cX2_putInOrder 5 none (fun r u => r = none ∧ u = out) 0 [some (.inr 21), none, none, none, none] [] μ := by
  unfold X2_putInOrder_b0 at h
  refine wv_iconst (pc' := 1) dX2_putInOrder_0 ic_0 rfl ?_
  refine wv_istore_n (pc' := 2) (i := 1) (L' := [some (.inr 21), some (.inl (0 : Int32)), none, none, none]) dX2_putInOrder_1 rfl (by decide) rfl rfl ?_
  exact t_X2_putInOrder_l2 G d hd (fun μ => X2_putInOrder_b89 μ)  (fun μ h => t_X2_putInOrder_b89 G d hd μ  h) wd_big (0 : Int32) μ h
set_option maxRecDepth 100000 in
set_option maxHeartbeats 4000000 in
theorem c_X2_putInOrder (G : wd_G) (d : Nat) (hd : 2 ≤ d) {μ : wd_Mem} {out : wd_Mem}  (h : X2_putInOrder μ = some out) : wd_C G d yX2_putInOrder [.inr 21] μ (fun r u => r = none ∧ u = out) := by
  obtain ⟨d, rfl⟩ : ∃ e, d = e + 1 := ⟨d - 1, by omega⟩
  refine wd_enter mc_X2_putInOrder (by decide) (by decide +kernel) rfl (Nat.le_of_ble_eq_true rfl) (L0 := [some (.inr 21), none, none, none, none]) rfl ?_
  exact t_X2_putInOrder_b0 G d (by omega) μ  h
set_option maxRecDepth 100000 in
set_option maxHeartbeats 4000000 in
theorem t_X2_countWith_b0 (G : wd_G) (d : Nat) (hd : 1 ≤ d) {out : wd_Mem} {D : Nat} (self : wd_Mem → Int32 → Option (wd_Mem)) (μ : wd_Mem) (x1 x2 x3 : Int32) (hself : ∀ (ν : wd_Mem) (y0 : Int32) (o : wd_Mem), self ν y0 = some o → ∀ e, D ≤ e → wd_C G e yX2_countFrom [.inr 21, .inl y0] ν (fun r u => r = none ∧ u = o)) (hD : D + 0 ≤ d) (h : X2_countWith_b0 self μ x1 x2 x3 = some out) : wd_V G (d + 1) RX2 cX2_countWith 4 none (fun r u => r = none ∧ u = out) 0 [some (.inr 21), some (.inl x1), some (.inl x2), some (.inl x3)] [] μ := by
  unfold X2_countWith_b0 at h
  refine wv_aload_n (pc' := 1) (i := 0) (v := 21) dX2_countWith_0 rfl rfl rfl ?_
  refine wv_iload_n (pc' := 2) (i := 1) (v := x1) dX2_countWith_1 rfl rfl rfl ?_
  refine wv_iload_n (pc' := 3) (i := 2) (v := x2) dX2_countWith_2 rfl rfl rfl ?_
  refine wv_aload_n (pc' := 4) (i := 0) (v := 21) dX2_countWith_3 rfl rfl rfl ?_
  refine wv_gr (pc' := 7) g_X2_18_21 dX2_countWith_4 rfl ?_
  refine wv_iload_n (pc' := 8) (i := 1) (v := x1) dX2_countWith_7 rfl rfl rfl ?_
  obtain ⟨g1, h⟩ := wd_chk_some h
  refine wv_iald (pc' := 9) sa_24 (wd_in_vp g1) dX2_countWith_8 rfl ?_
  obtain ⟨r2, er2, h⟩ := wd_bind_some h
  refine wv_callVv (pc' := 12) (ν := r2) [.inl x1, .inl x2, .inl (μ 24 (Int32.toNatClampNeg x1))] ml_X2_85 rc_21 rfl (Nat.le_of_ble_eq_true rfl) dX2_countWith_9 rfl (c_X2_fill G d (Nat.le_trans (Nat.le_of_ble_eq_true rfl) hd)  er2) ?_
  refine wv_aload_n (pc' := 13) (i := 0) (v := 21) dX2_countWith_12 rfl rfl rfl ?_
  refine wv_iload_n (pc' := 14) (i := 3) (v := x3) dX2_countWith_13 rfl rfl rfl ?_
  refine wv_iconst (pc' := 15) dX2_countWith_14 ic_1 rfl ?_
  refine wv_iadd (pc' := 16) dX2_countWith_15 rfl ?_
  obtain ⟨r3, er3, h⟩ := wd_bind_some h
  refine wv_callVv (pc' := 19) (ν := r3) [.inl (x3 + (1 : Int32))] ml_X2_61 rc_21 rfl (Nat.le_of_ble_eq_true rfl) dX2_countWith_16 rfl (hself _ _ _ er3 d (by omega)) ?_
  refine wv_aload_n (pc' := 20) (i := 0) (v := 21) dX2_countWith_19 rfl rfl rfl ?_
  refine wv_iload_n (pc' := 21) (i := 1) (v := x1) dX2_countWith_20 rfl rfl rfl ?_
  refine wv_iload_n (pc' := 22) (i := 2) (v := x2) dX2_countWith_21 rfl rfl rfl ?_
  refine wv_aload_n (pc' := 23) (i := 0) (v := 21) dX2_countWith_22 rfl rfl rfl ?_
  refine wv_gr (pc' := 26) g_X2_18_21 dX2_countWith_23 rfl ?_
  refine wv_iload_n (pc' := 27) (i := 1) (v := x1) dX2_countWith_26 rfl rfl rfl ?_
  refine wv_iald (pc' := 28) sa_24 (wd_in_vp g1) dX2_countWith_27 rfl ?_
  refine wv_ineg (pc' := 29) dX2_countWith_28 rfl ?_
  obtain ⟨r4, er4, h⟩ := wd_bind_some h
  refine wv_callVv (pc' := 32) (ν := r4) [.inl x1, .inl x2, .inl (-(r3 24 (Int32.toNatClampNeg x1)))] ml_X2_85 rc_21 rfl (Nat.le_of_ble_eq_true rfl) dX2_countWith_29 rfl (c_X2_fill G d (Nat.le_trans (Nat.le_of_ble_eq_true rfl) hd)  er4) ?_
  exact wv_return rfl dX2_countWith_32 (wd_lv h)
set_option maxRecDepth 100000 in
set_option maxHeartbeats 4000000 in
theorem c_X2_countWith (G : wd_G) (d : Nat) (hd : 2 ≤ d) {D : Nat} {self : wd_Mem → Int32 → Option (wd_Mem)} {μ : wd_Mem} {x1 x2 x3 : Int32} {out : wd_Mem} (hself : ∀ (ν : wd_Mem) (y0 : Int32) (o : wd_Mem), self ν y0 = some o → ∀ e, D ≤ e → wd_C G e yX2_countFrom [.inr 21, .inl y0] ν (fun r u => r = none ∧ u = o)) (hD : D + 0 + 1 ≤ d)  (h : X2_countWith self μ x1 x2 x3 = some out) : wd_C G d yX2_countWith [.inr 21, .inl x1, .inl x2, .inl x3] μ (fun r u => r = none ∧ u = out) := by
  obtain ⟨d, rfl⟩ : ∃ e, d = e + 1 := ⟨d - 1, by omega⟩
  refine wd_enter mc_X2_countWith (by decide) (by decide +kernel) rfl (Nat.le_of_ble_eq_true rfl) (L0 := [some (.inr 21), some (.inl x1), some (.inl x2), some (.inl x3)]) rfl ?_
  exact t_X2_countWith_b0 G d (by omega) self μ x1 x2 x3 hself (by omega)  h
