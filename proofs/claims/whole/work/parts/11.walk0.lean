set_option maxRecDepth 100000 in
set_option maxHeartbeats 4000000 in
theorem t_X5_add_b0 (G : wd_G) (d : Nat) (hd : 0 ≤ d) {out : Int32 × wd_Mem} (μ : wd_Mem) (x1 : Int32)  (h : X5_add_b0 μ x1 = some out) : wd_V G (d + 1) RX5 cX5_add 2 (some .boolean) (fun r u => r = some (.inl out.1) ∧ u = out.2) 0 [some (.inr 1), some (.inl x1)] [] μ := by
  unfold X5_add_b0 at h
  refine wv_aload_n (pc' := 1) (i := 0) (v := 1) dX5_add_0 rfl rfl rfl ?_
  refine wv_gi (pc' := 4) g_X5_15_1 dX5_add_1 rfl ?_
  refine wv_bipush (pc' := 6) dX5_add_4 bp_100 rfl ?_
  refine wv_icmp_lt (pc' := 9) (tgt := 11) dX5_add_6 (by decide) rfl (fun c1 => ?_) (fun c1 => ?_)
  · have h := (if_pos c1).symm.trans h
    refine wv_aload_n (pc' := 12) (i := 0) (v := 1) dX5_add_11 rfl rfl rfl ?_
    refine wv_gr (pc' := 15) g_X5_9_1 dX5_add_12 rfl ?_
    refine wv_aload_n (pc' := 16) (i := 0) (v := 1) dX5_add_15 rfl rfl rfl ?_
    refine wv_gi (pc' := 19) g_X5_15_1 dX5_add_16 rfl ?_
    refine wv_iload_n (pc' := 20) (i := 1) (v := x1) dX5_add_19 rfl rfl rfl ?_
    obtain ⟨g2, h⟩ := wd_chk_some h
    refine wv_iast (pc' := 21) sa_2 (wd_in_vp g2) dX5_add_20 rfl ?_
    refine wv_aload_n (pc' := 22) (i := 0) (v := 1) dX5_add_21 rfl rfl rfl ?_
    refine wv_dup (pc' := 23) dX5_add_22 rfl ?_
    refine wv_giE (pc' := 26) (v := (μ 1 1)) g_X5_15_1 dX5_add_23 rfl rfl ?_
    refine wv_iconst (pc' := 27) dX5_add_26 ic_1 rfl ?_
    refine wv_iadd (pc' := 28) dX5_add_27 rfl ?_
    refine wv_pi (pc' := 31) p_X5_15_1 dX5_add_28 rfl ?_
    refine wv_iconst (pc' := 32) dX5_add_31 ic_1 rfl ?_
    exact wv_zreturn rfl rfl dX5_add_32 (wd_liv h)
  · have h := (if_neg c1).symm.trans h
    refine wv_iconst (pc' := 10) dX5_add_9 ic_0 rfl ?_
    exact wv_zreturn rfl rfl dX5_add_10 (wd_liv h)
set_option maxRecDepth 100000 in
set_option maxHeartbeats 4000000 in
theorem c_X5_add (G : wd_G) (d : Nat) (hd : 1 ≤ d) {μ : wd_Mem} {x1 : Int32} {out : Int32 × wd_Mem}  (h : X5_add μ x1 = some out) : wd_C G d yX5_add [.inr 1, .inl x1] μ (fun r u => r = some (.inl out.1) ∧ u = out.2) := by
  obtain ⟨d, rfl⟩ : ∃ e, d = e + 1 := ⟨d - 1, by omega⟩
  refine wd_enter mc_X5_add (by decide) (by decide +kernel) rfl (Nat.le_of_ble_eq_true rfl) (L0 := [some (.inr 1), some (.inl x1)]) rfl ?_
  exact t_X5_add_b0 G d (by omega) μ x1 h
set_option maxRecDepth 100000 in
set_option maxHeartbeats 4000000 in
theorem t_X7_type_b11 (G : wd_G) (d : Nat) (hd : 1 ≤ d) {out : Int32 × wd_Mem} (μ : wd_Mem)  (h : X7_type_b11 μ = some out) : wd_V G (d + 1) RX7 cX7_type 2 (some .int) (fun r u => r = some (.inl out.1) ∧ u = out.2) 11 [some (.inr 0), none] [] μ := by
  unfold X7_type_b11 at h
  refine wv_iconst (pc' := 12) dX7_type_11 ic_m1 rfl ?_
  exact wv_ireturn rfl dX7_type_12 (wd_liv h)
set_option maxRecDepth 100000 in
set_option maxHeartbeats 4000000 in
theorem t_X7_type_b0 (G : wd_G) (d : Nat) (hd : 1 ≤ d) {out : Int32 × wd_Mem} (μ : wd_Mem) (x1 : Int32)  (h : X7_type_b0 μ x1 = some out) : wd_V G (d + 1) RX7 cX7_type 2 (some .int) (fun r u => r = some (.inl out.1) ∧ u = out.2) 0 [some (.inr 0), some (.inl x1)] [] μ := by
  unfold X7_type_b0 at h
  refine wv_iload_n (pc' := 1) (i := 1) (v := x1) dX7_type_0 rfl rfl rfl ?_
  refine wv_if_lt (pc' := 4) (tgt := 11) dX7_type_1 (by decide) rfl (fun c1 => ?_) (fun c1 => ?_)
  · have h := (if_pos c1).symm.trans h
    refine wv_weak (L' := [some (.inr 0), none]) ⟨rfl, trivial⟩ ?_
    exact t_X7_type_b11 G d hd μ  h
  · have h := (if_neg c1).symm.trans h
    refine wv_iload_n (pc' := 5) (i := 1) (v := x1) dX7_type_4 rfl rfl rfl ?_
    refine wv_sipush (pc' := 8) dX7_type_5 sp_255 rfl ?_
    refine wv_icmp_le (pc' := 11) (tgt := 13) dX7_type_8 (by decide) rfl (fun c2 => ?_) (fun c2 => ?_)
    · have h := (if_pos c2).symm.trans h
      refine wv_aload_n (pc' := 14) (i := 0) (v := 0) dX7_type_13 rfl rfl rfl ?_
      refine wv_gr (pc' := 17) g_X7_12_0 dX7_type_14 rfl ?_
      refine wv_iload_n (pc' := 18) (i := 1) (v := x1) dX7_type_17 rfl rfl rfl ?_
      obtain ⟨r3, er3, h⟩ := wd_bind_some h
      refine wv_callVi (pc' := 21) (x := r3.1) (ν := r3.2) [.inl x1] ml_X7_76 rc_1 rfl (Nat.le_of_ble_eq_true rfl) dX7_type_18 rfl (c_X5_add G d (Nat.le_trans (Nat.le_of_ble_eq_true rfl) hd)  er3) ?_
      refine wv_if_eq (pc' := 24) (tgt := 34) dX7_type_21 (by decide) rfl (fun c4 => ?_) (fun c4 => ?_)
      · have h := (if_pos c4).symm.trans h
        refine wv_bipush (pc' := 36) dX7_type_34 bp_m3 rfl ?_
        exact wv_ireturn rfl dX7_type_36 (wd_liv h)
      · have h := (if_neg c4).symm.trans h
        refine wv_aload_n (pc' := 25) (i := 0) (v := 0) dX7_type_24 rfl rfl rfl ?_
        refine wv_gr (pc' := 28) g_X7_12_0 dX7_type_25 rfl ?_
        refine wv_gi (pc' := 31) g_X7_80_1 dX7_type_28 rfl ?_
        refine wv_goto (pc' := 36) dX7_type_31 (by decide) ?_
        exact wv_ireturn rfl dX7_type_36 (wd_liv h)
    · have h := (if_neg c2).symm.trans h
      refine wv_weak (L' := [some (.inr 0), none]) ⟨rfl, trivial⟩ ?_
      exact t_X7_type_b11 G d hd μ  h
set_option maxRecDepth 100000 in
set_option maxHeartbeats 4000000 in
theorem c_X7_type (G : wd_G) (d : Nat) (hd : 2 ≤ d) {μ : wd_Mem} {x1 : Int32} {out : Int32 × wd_Mem}  (h : X7_type μ x1 = some out) : wd_C G d yX7_type [.inr 0, .inl x1] μ (fun r u => r = some (.inl out.1) ∧ u = out.2) := by
  obtain ⟨d, rfl⟩ : ∃ e, d = e + 1 := ⟨d - 1, by omega⟩
  refine wd_enter mc_X7_type (by decide) (by decide +kernel) rfl (Nat.le_of_ble_eq_true rfl) (L0 := [some (.inr 0), some (.inl x1)]) rfl ?_
  exact t_X7_type_b0 G d (by omega) μ x1 h
set_option maxRecDepth 100000 in
set_option maxHeartbeats 4000000 in
theorem t_X7_clear_b0 (G : wd_G) (d : Nat) (hd : 0 ≤ d) {out : Int32 × wd_Mem} (μ : wd_Mem)  (h : X7_clear_b0 μ = some out) : wd_V G (d + 1) RX7 cX7_clear 2 (some .int) (fun r u => r = some (.inl out.1) ∧ u = out.2) 0 [some (.inr 0), none] [] μ := by
  unfold X7_clear_b0 at h
  refine wv_aload_n (pc' := 1) (i := 0) (v := 0) dX7_clear_0 rfl rfl rfl ?_
  refine wv_gr (pc' := 4) g_X7_12_0 dX7_clear_1 rfl ?_
  refine wv_gi (pc' := 7) g_X7_80_1 dX7_clear_4 rfl ?_
  refine wv_istore_n (pc' := 8) (i := 1) (L' := [some (.inr 0), some (.inl (μ 1 1))]) dX7_clear_7 rfl (by decide) rfl rfl ?_
  refine wv_aload_n (pc' := 9) (i := 0) (v := 0) dX7_clear_8 rfl rfl rfl ?_
  refine wv_gr (pc' := 12) g_X7_12_0 dX7_clear_9 rfl ?_
  refine wv_iconst (pc' := 13) dX7_clear_12 ic_0 rfl ?_
  refine wv_pi (pc' := 16) p_X7_80_1 dX7_clear_13 rfl ?_
  refine wv_iload_n (pc' := 17) (i := 1) (v := (μ 1 1)) dX7_clear_16 rfl rfl rfl ?_
  exact wv_ireturn rfl dX7_clear_17 (wd_liv h)
set_option maxRecDepth 100000 in
set_option maxHeartbeats 4000000 in
theorem c_X7_clear (G : wd_G) (d : Nat) (hd : 1 ≤ d) {μ : wd_Mem} {out : Int32 × wd_Mem}  (h : X7_clear μ = some out) : wd_C G d yX7_clear [.inr 0] μ (fun r u => r = some (.inl out.1) ∧ u = out.2) := by
  obtain ⟨d, rfl⟩ : ∃ e, d = e + 1 := ⟨d - 1, by omega⟩
  refine wd_enter mc_X7_clear (by decide) (by decide +kernel) rfl (Nat.le_of_ble_eq_true rfl) (L0 := [some (.inr 0), none]) rfl ?_
  exact t_X7_clear_b0 G d (by omega) μ  h
set_option maxRecDepth 100000 in
set_option maxHeartbeats 4000000 in
theorem t_X4_forget_b0 (G : wd_G) (d : Nat) (hd : 0 ≤ d) {out : wd_Mem} (h0 : Nat) (μ : wd_Mem) (w0 : wd_isT h0) (h : X4_forget_b0 h0 μ = some out) : wd_V G (d + 1) RX4 cX4_forget 1 none (fun r u => r = none ∧ u = out) 0 [some (.inr h0)] [] μ := by
  unfold X4_forget_b0 at h
  refine wv_aload_n (pc' := 1) (i := 0) (v := h0) dX4_forget_0 rfl rfl rfl ?_
  refine wv_iconst (pc' := 2) dX4_forget_1 ic_3 rfl ?_
  refine wv_pi (pc' := 5) (p_X4_9_T w0) dX4_forget_2 rfl ?_
  refine wv_aload_n (pc' := 6) (i := 0) (v := h0) dX4_forget_5 rfl rfl rfl ?_
  refine wv_iconst (pc' := 7) dX4_forget_6 ic_0 rfl ?_
  refine wv_pi (pc' := 10) (p_X4_22_T w0) dX4_forget_7 rfl ?_
  exact wv_return rfl dX4_forget_10 (wd_lv h)
set_option maxRecDepth 100000 in
set_option maxHeartbeats 4000000 in
theorem c_X4_forget (G : wd_G) (d : Nat) (hd : 1 ≤ d) {h0 : Nat} {μ : wd_Mem} {out : wd_Mem} (w0 : wd_isT h0) (h : X4_forget h0 μ = some out) : wd_C G d yX4_forget [.inr h0] μ (fun r u => r = none ∧ u = out) := by
  obtain ⟨d, rfl⟩ : ∃ e, d = e + 1 := ⟨d - 1, by omega⟩
  refine wd_enter mc_X4_forget (by decide) (by decide +kernel) rfl (Nat.le_of_ble_eq_true rfl) (L0 := [some (.inr h0)]) rfl ?_
  exact t_X4_forget_b0 G d (by omega) h0 μ  w0 h
set_option maxRecDepth 100000 in
set_option maxHeartbeats 4000000 in
theorem t_X5_isDigit_b16 (G : wd_G) (d : Nat) (hd : 0 ≤ d) {out : Int32} (μ : wd_Mem)  (h : X5_isDigit_b16 μ = out) : wd_V G (d + 1) RX5 cX5_isDigit 1 (some .boolean) (fun r u => r = some (.inl out) ∧ u = μ) 16 [none] [] μ := by
  unfold X5_isDigit_b16 at h
  refine wv_iconst (pc' := 17) dX5_isDigit_16 ic_0 rfl ?_
  exact wv_zreturn rfl rfl dX5_isDigit_17 (wd_lt h)
set_option maxRecDepth 100000 in
set_option maxHeartbeats 4000000 in
theorem t_X5_isDigit_b0 (G : wd_G) (d : Nat) (hd : 0 ≤ d) {out : Int32} (μ : wd_Mem) (x0 : Int32)  (h : X5_isDigit_b0 μ x0 = out) : wd_V G (d + 1) RX5 cX5_isDigit 1 (some .boolean) (fun r u => r = some (.inl out) ∧ u = μ) 0 [some (.inl x0)] [] μ := by
  unfold X5_isDigit_b0 at h
  refine wv_iload_n (pc' := 1) (i := 0) (v := x0) dX5_isDigit_0 rfl rfl rfl ?_
  refine wv_bipush (pc' := 3) dX5_isDigit_1 bp_48 rfl ?_
  refine wv_icmp_lt (pc' := 6) (tgt := 16) dX5_isDigit_3 (by decide) rfl (fun c1 => ?_) (fun c1 => ?_)
  · have h := (if_pos c1).symm.trans h
    refine wv_weak (L' := [none]) trivial ?_
    exact t_X5_isDigit_b16 G d hd μ  h
  · have h := (if_neg c1).symm.trans h
    refine wv_iload_n (pc' := 7) (i := 0) (v := x0) dX5_isDigit_6 rfl rfl rfl ?_
    refine wv_bipush (pc' := 9) dX5_isDigit_7 bp_57 rfl ?_
    refine wv_icmp_gt (pc' := 12) (tgt := 16) dX5_isDigit_9 (by decide) rfl (fun c2 => ?_) (fun c2 => ?_)
    · have h := (if_pos c2).symm.trans h
      refine wv_weak (L' := [none]) trivial ?_
      exact t_X5_isDigit_b16 G d hd μ  h
    · have h := (if_neg c2).symm.trans h
      refine wv_iconst (pc' := 13) dX5_isDigit_12 ic_1 rfl ?_
      refine wv_goto (pc' := 17) dX5_isDigit_13 (by decide) ?_
      exact wv_zreturn rfl rfl dX5_isDigit_17 (wd_lt h)
set_option maxRecDepth 100000 in
set_option maxHeartbeats 4000000 in
theorem c_X5_isDigit (G : wd_G) (d : Nat) (hd : 1 ≤ d) {μ : wd_Mem} {x0 : Int32} {out : Int32}  (h : X5_isDigit μ x0 = out) : wd_C G d yX5_isDigit [.inl x0] μ (fun r u => r = some (.inl out) ∧ u = μ) := by
  obtain ⟨d, rfl⟩ : ∃ e, d = e + 1 := ⟨d - 1, by omega⟩
  refine wd_enter mc_X5_isDigit (by decide) (by decide +kernel) rfl (Nat.le_of_ble_eq_true rfl) (L0 := [some (.inl x0)]) rfl ?_
  exact t_X5_isDigit_b0 G d (by omega) μ x0 h
set_option maxRecDepth 100000 in
set_option maxHeartbeats 4000000 in
theorem t_X5_nextNumber_c5 (G : wd_G) (d : Nat) (hd : 1 ≤ d) {out : wd_Mem} (rec : wd_Mem → Option (wd_Mem)) (k : wd_Mem → Option (wd_Mem)) (μ : wd_Mem) (hrec : ∀  (μ : wd_Mem), rec μ = some out → wd_V G (d + 1) RX5 cX5_nextNumber 2 none (fun r u => r = none ∧ u = out) 5 [some (.inr 1), none] [] μ) (hk : ∀  (μ : wd_Mem), k μ = some out → wd_V G (d + 1) RX5 cX5_nextNumber 2 none (fun r u => r = none ∧ u = out) 73 [some (.inr 1), none] [] μ) (h : X5_nextNumber_c5 rec k μ = some out) : wd_V G (d + 1) RX5 cX5_nextNumber 2 none (fun r u => r = none ∧ u = out) 5 [some (.inr 1), none] [] μ := by
  unfold X5_nextNumber_c5 at h
  refine wv_aload_n (pc' := 6) (i := 0) (v := 1) dX5_nextNumber_5 rfl rfl rfl ?_
  refine wv_gi (pc' := 9) g_X5_24_1 dX5_nextNumber_6 rfl ?_
  refine wv_aload_n (pc' := 10) (i := 0) (v := 1) dX5_nextNumber_9 rfl rfl rfl ?_
  refine wv_gi (pc' := 13) g_X5_15_1 dX5_nextNumber_10 rfl ?_
  refine wv_icmp_ge (pc' := 16) (tgt := 73) dX5_nextNumber_13 (by decide) rfl (fun c1 => ?_) (fun c1 => ?_)
  · have h := (if_pos c1).symm.trans h
    exact hk _ h
  · have h := (if_neg c1).symm.trans h
    refine wv_aload_n (pc' := 17) (i := 0) (v := 1) dX5_nextNumber_16 rfl rfl rfl ?_
    refine wv_gr (pc' := 20) g_X5_9_1 dX5_nextNumber_17 rfl ?_
    refine wv_aload_n (pc' := 21) (i := 0) (v := 1) dX5_nextNumber_20 rfl rfl rfl ?_
    refine wv_gi (pc' := 24) g_X5_24_1 dX5_nextNumber_21 rfl ?_
    obtain ⟨g2, h⟩ := wd_chk_some h
    refine wv_iald (pc' := 25) sa_2 (wd_in_vp g2) dX5_nextNumber_24 rfl ?_
    refine wv_callSi (pc' := 28) (x := (X5_isDigit μ (μ 2 (Int32.toNatClampNeg (μ 1 2))))) (ν := μ) [.inl (μ 2 (Int32.toNatClampNeg (μ 1 2)))] ml_X5_77 rfl (Nat.le_of_ble_eq_true rfl) dX5_nextNumber_25 rfl (c_X5_isDigit G d (Nat.le_trans (Nat.le_of_ble_eq_true rfl) hd)  rfl) ?_
    refine wv_if_eq (pc' := 31) (tgt := 73) dX5_nextNumber_28 (by decide) rfl (fun c3 => ?_) (fun c3 => ?_)
    · have h := (if_pos c3).symm.trans h
      exact hk _ h
    · have h := (if_neg c3).symm.trans h
      refine wv_aload_n (pc' := 32) (i := 0) (v := 1) dX5_nextNumber_31 rfl rfl rfl ?_
      refine wv_bipush (pc' := 34) dX5_nextNumber_32 bp_100 rfl ?_
      refine wv_aload_n (pc' := 35) (i := 0) (v := 1) dX5_nextNumber_34 rfl rfl rfl ?_
      refine wv_gi (pc' := 38) g_X5_52_1 dX5_nextNumber_35 rfl ?_
      refine wv_bipush (pc' := 40) dX5_nextNumber_38 bp_10 rfl ?_
      refine wv_imul (pc' := 41) dX5_nextNumber_40 rfl ?_
      refine wv_aload_n (pc' := 42) (i := 0) (v := 1) dX5_nextNumber_41 rfl rfl rfl ?_
      refine wv_gr (pc' := 45) g_X5_9_1 dX5_nextNumber_42 rfl ?_
      refine wv_aload_n (pc' := 46) (i := 0) (v := 1) dX5_nextNumber_45 rfl rfl rfl ?_
      refine wv_gi (pc' := 49) g_X5_24_1 dX5_nextNumber_46 rfl ?_
      refine wv_iald (pc' := 50) sa_2 (wd_in_vp g2) dX5_nextNumber_49 rfl ?_
      refine wv_iadd (pc' := 51) dX5_nextNumber_50 rfl ?_
      refine wv_bipush (pc' := 53) dX5_nextNumber_51 bp_48 rfl ?_
      refine wv_isub (pc' := 54) dX5_nextNumber_53 rfl ?_
      refine wv_min (pc' := 57) mm_X5_61 (Nat.le_of_ble_eq_true rfl) dX5_nextNumber_54 rfl ?_
      refine wv_pi (pc' := 60) p_X5_52_1 dX5_nextNumber_57 rfl ?_
      refine wv_aload_n (pc' := 61) (i := 0) (v := 1) dX5_nextNumber_60 rfl rfl rfl ?_
      refine wv_dup (pc' := 62) dX5_nextNumber_61 rfl ?_
      refine wv_giE (pc' := 65) (v := (μ 1 2)) g_X5_24_1 dX5_nextNumber_62 rfl rfl ?_
      refine wv_iconst (pc' := 66) dX5_nextNumber_65 ic_1 rfl ?_
      refine wv_iadd (pc' := 67) dX5_nextNumber_66 rfl ?_
      refine wv_pi (pc' := 70) p_X5_24_1 dX5_nextNumber_67 rfl ?_
      refine wv_goto (pc' := 5) dX5_nextNumber_70 (by decide) ?_
      exact hrec _ h
set_option maxRecDepth 100000 in
set_option maxHeartbeats 4000000 in
theorem t_X5_nextNumber_l5 (G : wd_G) (d : Nat) (hd : 1 ≤ d) {out : wd_Mem} (k : wd_Mem → Option (wd_Mem)) (hk : ∀  (μ : wd_Mem), k μ = some out → wd_V G (d + 1) RX5 cX5_nextNumber 2 none (fun r u => r = none ∧ u = out) 73 [some (.inr 1), none] [] μ) : ∀ (n : Nat)  (μ : wd_Mem), X5_nextNumber_l5 k n μ = some out → wd_V G (d + 1) RX5 cX5_nextNumber 2 none (fun r u => r = none ∧ u = out) 5 [some (.inr 1), none] [] μ := by
  intro n
  induction n with
  | zero => intro μ h; exact absurd h (by unfold X5_nextNumber_l5; simp)
  | succ n ih =>
    intro μ h
    exact t_X5_nextNumber_c5 G d hd (X5_nextNumber_l5 k n) k μ  (fun μ h => ih μ h) hk h
set_option maxRecDepth 100000 in
set_option maxHeartbeats 4000000 in
theorem t_X5_nextNumber_b117 (G : wd_G) (d : Nat) (hd : 1 ≤ d) {out : wd_Mem} (μ : wd_Mem) (s1 : Int32)  (h : X5_nextNumber_b117 μ s1 = some out) : wd_V G (d + 1) RX5 cX5_nextNumber 2 none (fun r u => r = none ∧ u = out) 117 [some (.inr 1), none] [.inl s1, .inr 1] μ := by
  unfold X5_nextNumber_b117 at h
  refine wv_pi (pc' := 120) p_X5_33_1 dX5_nextNumber_117 rfl ?_
  exact wv_return rfl dX5_nextNumber_120 (wd_lv h)
set_option maxRecDepth 100000 in
set_option maxHeartbeats 4000000 in
theorem t_X5_nextNumber_b105 (G : wd_G) (d : Nat) (hd : 1 ≤ d) {out : wd_Mem} (μ : wd_Mem) (s0 : Int32)  (h : X5_nextNumber_b105 μ s0 = some out) : wd_V G (d + 1) RX5 cX5_nextNumber 2 none (fun r u => r = none ∧ u = out) 105 [some (.inr 1), none] [.inl s0] μ := by
  unfold X5_nextNumber_b105 at h
  refine wv_istore_n (pc' := 106) (i := 1) (L' := [some (.inr 1), some (.inl s0)]) dX5_nextNumber_105 rfl (by decide) rfl rfl ?_
  refine wv_aload_n (pc' := 107) (i := 0) (v := 1) dX5_nextNumber_106 rfl rfl rfl ?_
  refine wv_iload_n (pc' := 108) (i := 1) (v := s0) dX5_nextNumber_107 rfl rfl rfl ?_
  refine wv_if_eq (pc' := 111) (tgt := 115) dX5_nextNumber_108 (by decide) rfl (fun c6 => ?_) (fun c6 => ?_)
  · have h := (if_pos c6).symm.trans h
    refine wv_bipush (pc' := 117) dX5_nextNumber_115 bp_m2 rfl ?_
    refine wv_weak (L' := [some (.inr 1), none]) ⟨rfl, trivial⟩ ?_
    exact t_X5_nextNumber_b117 G d hd μ (-2 : Int32)  h
  · have h := (if_neg c6).symm.trans h
    refine wv_iconst (pc' := 112) dX5_nextNumber_111 ic_m1 rfl ?_
    refine wv_goto (pc' := 117) dX5_nextNumber_112 (by decide) ?_
    refine wv_weak (L' := [some (.inr 1), none]) ⟨rfl, trivial⟩ ?_
    exact t_X5_nextNumber_b117 G d hd μ (-1 : Int32)  h
set_option maxRecDepth 100000 in
set_option maxHeartbeats 4000000 in
theorem t_X5_nextNumber_b104 (G : wd_G) (d : Nat) (hd : 1 ≤ d) {out : wd_Mem} (μ : wd_Mem)  (h : X5_nextNumber_b104 μ = some out) : wd_V G (d + 1) RX5 cX5_nextNumber 2 none (fun r u => r = none ∧ u = out) 104 [some (.inr 1), none] [] μ := by
  unfold X5_nextNumber_b104 at h
  refine wv_iconst (pc' := 105) dX5_nextNumber_104 ic_0 rfl ?_
  exact t_X5_nextNumber_b105 G d hd μ (0 : Int32)  h
set_option maxRecDepth 100000 in
set_option maxHeartbeats 4000000 in
theorem t_X5_nextNumber_b73 (G : wd_G) (d : Nat) (hd : 1 ≤ d) {out : wd_Mem} (μ : wd_Mem)  (h : X5_nextNumber_b73 μ = some out) : wd_V G (d + 1) RX5 cX5_nextNumber 2 none (fun r u => r = none ∧ u = out) 73 [some (.inr 1), none] [] μ := by
  unfold X5_nextNumber_b73 at h
  refine wv_aload_n (pc' := 74) (i := 0) (v := 1) dX5_nextNumber_73 rfl rfl rfl ?_
  refine wv_gr (pc' := 77) g_X5_9_1 dX5_nextNumber_74 rfl ?_
  refine wv_aload_n (pc' := 78) (i := 0) (v := 1) dX5_nextNumber_77 rfl rfl rfl ?_
  refine wv_gi (pc' := 81) g_X5_30_1 dX5_nextNumber_78 rfl ?_
  obtain ⟨g4, h⟩ := wd_chk_some h
  refine wv_iald (pc' := 82) sa_2 (wd_in_vp g4) dX5_nextNumber_81 rfl ?_
  refine wv_bipush (pc' := 84) dX5_nextNumber_82 bp_48 rfl ?_
  refine wv_icmp_ne (pc' := 87) (tgt := 104) dX5_nextNumber_84 (by decide) rfl (fun c5 => ?_) (fun c5 => ?_)
  · have h := (if_neg c5).symm.trans h
    exact t_X5_nextNumber_b104 G d hd μ  h
  · have h := (if_pos c5).symm.trans h
    refine wv_aload_n (pc' := 88) (i := 0) (v := 1) dX5_nextNumber_87 rfl rfl rfl ?_
    refine wv_gi (pc' := 91) g_X5_24_1 dX5_nextNumber_88 rfl ?_
    refine wv_aload_n (pc' := 92) (i := 0) (v := 1) dX5_nextNumber_91 rfl rfl rfl ?_
    refine wv_gi (pc' := 95) g_X5_30_1 dX5_nextNumber_92 rfl ?_
    refine wv_isub (pc' := 96) dX5_nextNumber_95 rfl ?_
    refine wv_iconst (pc' := 97) dX5_nextNumber_96 ic_1 rfl ?_
    refine wv_icmp_le (pc' := 100) (tgt := 104) dX5_nextNumber_97 (by decide) rfl (fun c7 => ?_) (fun c7 => ?_)
    · have h := (if_pos c7).symm.trans h
      exact t_X5_nextNumber_b104 G d hd μ  h
    · have h := (if_neg c7).symm.trans h
      refine wv_iconst (pc' := 101) dX5_nextNumber_100 ic_1 rfl ?_
      refine wv_goto (pc' := 105) dX5_nextNumber_101 (by decide) ?_
      exact t_X5_nextNumber_b105 G d hd μ (1 : Int32)  h
set_option maxRecDepth 100000 in
set_option maxHeartbeats 4000000 in
theorem t_X5_nextNumber_b0 (G : wd_G) (d : Nat) (hd : 1 ≤ d) {out : wd_Mem} (μ : wd_Mem)  (h : X5_nextNumber_b0 μ = some out) : wd_V G (d + 1) RX5 cX5_nextNumber 2 none (fun r u => r = none ∧ u = out) 0 [some (.inr 1), none] [] μ := by
  unfold X5_nextNumber_b0 at h
  refine wv_aload_n (pc' := 1) (i := 0) (v := 1) dX5_nextNumber_0 rfl rfl rfl ?_
  refine wv_iconst (pc' := 2) dX5_nextNumber_1 ic_0 rfl ?_
  refine wv_pi (pc' := 5) p_X5_52_1 dX5_nextNumber_2 rfl ?_
  exact t_X5_nextNumber_l5 G d hd (fun μ => X5_nextNumber_b73 μ)  (fun μ h => t_X5_nextNumber_b73 G d hd μ  h) wd_big (mset μ 1 5 (0 : Int32)) h
set_option maxRecDepth 100000 in
set_option maxHeartbeats 4000000 in
theorem c_X5_nextNumber (G : wd_G) (d : Nat) (hd : 2 ≤ d) {μ : wd_Mem} {out : wd_Mem}  (h : X5_nextNumber μ = some out) : wd_C G d yX5_nextNumber [.inr 1] μ (fun r u => r = none ∧ u = out) := by
  obtain ⟨d, rfl⟩ : ∃ e, d = e + 1 := ⟨d - 1, by omega⟩
  refine wd_enter mc_X5_nextNumber (by decide) (by decide +kernel) rfl (Nat.le_of_ble_eq_true rfl) (L0 := [some (.inr 1), none]) rfl ?_
  exact t_X5_nextNumber_b0 G d (by omega) μ  h
set_option maxRecDepth 100000 in
set_option maxHeartbeats 4000000 in
theorem t_X5_nextToken_c0 (G : wd_G) (d : Nat) (hd : 2 ≤ d) {out : wd_Mem} (rec : wd_Mem → Option (wd_Mem)) (k : wd_Mem → Option (wd_Mem)) (μ : wd_Mem) (hrec : ∀  (μ : wd_Mem), rec μ = some out → wd_V G (d + 1) RX5 cX5_nextToken 1 none (fun r u => r = none ∧ u = out) 0 [some (.inr 1)] [] μ) (hk : ∀  (μ : wd_Mem), k μ = some out → wd_V G (d + 1) RX5 cX5_nextToken 1 none (fun r u => r = none ∧ u = out) 38 [some (.inr 1)] [] μ) (h : X5_nextToken_c0 rec k μ = some out) : wd_V G (d + 1) RX5 cX5_nextToken 1 none (fun r u => r = none ∧ u = out) 0 [some (.inr 1)] [] μ := by
  unfold X5_nextToken_c0 at h
  refine wv_aload_n (pc' := 1) (i := 0) (v := 1) dX5_nextToken_0 rfl rfl rfl ?_
  refine wv_gi (pc' := 4) g_X5_24_1 dX5_nextToken_1 rfl ?_
  refine wv_aload_n (pc' := 5) (i := 0) (v := 1) dX5_nextToken_4 rfl rfl rfl ?_
  refine wv_gi (pc' := 8) g_X5_15_1 dX5_nextToken_5 rfl ?_
  refine wv_icmp_ge (pc' := 11) (tgt := 38) dX5_nextToken_8 (by decide) rfl (fun c1 => ?_) (fun c1 => ?_)
  · have h := (if_pos c1).symm.trans h
    exact hk _ h
  · have h := (if_neg c1).symm.trans h
    refine wv_aload_n (pc' := 12) (i := 0) (v := 1) dX5_nextToken_11 rfl rfl rfl ?_
    refine wv_gr (pc' := 15) g_X5_9_1 dX5_nextToken_12 rfl ?_
    refine wv_aload_n (pc' := 16) (i := 0) (v := 1) dX5_nextToken_15 rfl rfl rfl ?_
    refine wv_gi (pc' := 19) g_X5_24_1 dX5_nextToken_16 rfl ?_
    obtain ⟨g2, h⟩ := wd_chk_some h
    refine wv_iald (pc' := 20) sa_2 (wd_in_vp g2) dX5_nextToken_19 rfl ?_
    refine wv_bipush (pc' := 22) dX5_nextToken_20 bp_32 rfl ?_
    refine wv_icmp_ne (pc' := 25) (tgt := 38) dX5_nextToken_22 (by decide) rfl (fun c3 => ?_) (fun c3 => ?_)
    · have h := (if_neg c3).symm.trans h
      exact hk _ h
    · have h := (if_pos c3).symm.trans h
      refine wv_aload_n (pc' := 26) (i := 0) (v := 1) dX5_nextToken_25 rfl rfl rfl ?_
      refine wv_dup (pc' := 27) dX5_nextToken_26 rfl ?_
      refine wv_gi (pc' := 30) g_X5_24_1 dX5_nextToken_27 rfl ?_
      refine wv_iconst (pc' := 31) dX5_nextToken_30 ic_1 rfl ?_
      refine wv_iadd (pc' := 32) dX5_nextToken_31 rfl ?_
      refine wv_pi (pc' := 35) p_X5_24_1 dX5_nextToken_32 rfl ?_
      refine wv_goto (pc' := 0) dX5_nextToken_35 (by decide) ?_
      exact hrec _ h
set_option maxRecDepth 100000 in
set_option maxHeartbeats 4000000 in
theorem t_X5_nextToken_l0 (G : wd_G) (d : Nat) (hd : 2 ≤ d) {out : wd_Mem} (k : wd_Mem → Option (wd_Mem)) (hk : ∀  (μ : wd_Mem), k μ = some out → wd_V G (d + 1) RX5 cX5_nextToken 1 none (fun r u => r = none ∧ u = out) 38 [some (.inr 1)] [] μ) : ∀ (n : Nat)  (μ : wd_Mem), X5_nextToken_l0 k n μ = some out → wd_V G (d + 1) RX5 cX5_nextToken 1 none (fun r u => r = none ∧ u = out) 0 [some (.inr 1)] [] μ := by
  intro n
  induction n with
  | zero => intro μ h; exact absurd h (by unfold X5_nextToken_l0; simp)
  | succ n ih =>
    intro μ h
    exact t_X5_nextToken_c0 G d hd (X5_nextToken_l0 k n) k μ  (fun μ h => ih μ h) hk h
set_option maxRecDepth 100000 in
set_option maxHeartbeats 4000000 in
theorem t_X5_nextToken_b38 (G : wd_G) (d : Nat) (hd : 2 ≤ d) {out : wd_Mem} (μ : wd_Mem)  (h : X5_nextToken_b38 μ = some out) : wd_V G (d + 1) RX5 cX5_nextToken 1 none (fun r u => r = none ∧ u = out) 38 [some (.inr 1)] [] μ := by
  unfold X5_nextToken_b38 at h
  refine wv_aload_n (pc' := 39) (i := 0) (v := 1) dX5_nextToken_38 rfl rfl rfl ?_
  refine wv_aload_n (pc' := 40) (i := 0) (v := 1) dX5_nextToken_39 rfl rfl rfl ?_
  refine wv_gi (pc' := 43) g_X5_24_1 dX5_nextToken_40 rfl ?_
  refine wv_pi (pc' := 46) p_X5_30_1 dX5_nextToken_43 rfl ?_
  refine wv_aload_n (pc' := 47) (i := 0) (v := 1) dX5_nextToken_46 rfl rfl rfl ?_
  refine wv_iconst (pc' := 48) dX5_nextToken_47 ic_m1 rfl ?_
  refine wv_pi (pc' := 51) p_X5_33_1 dX5_nextToken_48 rfl ?_
  refine wv_aload_n (pc' := 52) (i := 0) (v := 1) dX5_nextToken_51 rfl rfl rfl ?_
  refine wv_giE (pc' := 55) (v := (μ 1 2)) g_X5_24_1 dX5_nextToken_52 rfl rfl ?_
  refine wv_aload_n (pc' := 56) (i := 0) (v := 1) dX5_nextToken_55 rfl rfl rfl ?_
  refine wv_giE (pc' := 59) (v := (μ 1 1)) g_X5_15_1 dX5_nextToken_56 rfl rfl ?_
  refine wv_icmp_lt (pc' := 62) (tgt := 63) dX5_nextToken_59 (by decide) rfl (fun c4 => ?_) (fun c4 => ?_)
  · have h := (if_pos c4).symm.trans h
    refine wv_aload_n (pc' := 64) (i := 0) (v := 1) dX5_nextToken_63 rfl rfl rfl ?_
    refine wv_gr (pc' := 67) g_X5_9_1 dX5_nextToken_64 rfl ?_
    refine wv_aload_n (pc' := 68) (i := 0) (v := 1) dX5_nextToken_67 rfl rfl rfl ?_
    refine wv_giE (pc' := 71) (v := (μ 1 2)) g_X5_24_1 dX5_nextToken_68 rfl rfl ?_
    obtain ⟨g5, h⟩ := wd_chk_some h
    refine wv_ialdE (pc' := 72) (v := (μ 2 (Int32.toNatClampNeg (μ 1 2)))) sa_2 (wd_in_vp g5) dX5_nextToken_71 rfl rfl ?_
    refine wv_callSi (pc' := 75) (x := (X5_isDigit (mset (mset μ 1 4 (μ 1 2)) 1 3 (-1 : Int32)) (μ 2 (Int32.toNatClampNeg (μ 1 2))))) (ν := (mset (mset μ 1 4 (μ 1 2)) 1 3 (-1 : Int32))) [.inl (μ 2 (Int32.toNatClampNeg (μ 1 2)))] ml_X5_77 rfl (Nat.le_of_ble_eq_true rfl) dX5_nextToken_72 rfl (c_X5_isDigit G d (Nat.le_trans (Nat.le_of_ble_eq_true rfl) hd)  rfl) ?_
    refine wv_if_eq (pc' := 78) (tgt := 85) dX5_nextToken_75 (by decide) rfl (fun c6 => ?_) (fun c6 => ?_)
    · have h := (if_pos c6).symm.trans h
      refine wv_aload_n (pc' := 86) (i := 0) (v := 1) dX5_nextToken_85 rfl rfl rfl ?_
      refine wv_aload_n (pc' := 87) (i := 0) (v := 1) dX5_nextToken_86 rfl rfl rfl ?_
      refine wv_gr (pc' := 90) g_X5_9_1 dX5_nextToken_87 rfl ?_
      refine wv_aload_n (pc' := 91) (i := 0) (v := 1) dX5_nextToken_90 rfl rfl rfl ?_
      refine wv_giE (pc' := 94) (v := (μ 1 2)) g_X5_24_1 dX5_nextToken_91 rfl rfl ?_
      refine wv_ialdE (pc' := 95) (v := (μ 2 (Int32.toNatClampNeg (μ 1 2)))) sa_2 (wd_in_vp g5) dX5_nextToken_94 rfl rfl ?_
      refine wv_pi (pc' := 98) p_X5_33_1 dX5_nextToken_95 rfl ?_
      refine wv_aload_n (pc' := 99) (i := 0) (v := 1) dX5_nextToken_98 rfl rfl rfl ?_
      refine wv_dup (pc' := 100) dX5_nextToken_99 rfl ?_
      refine wv_giE (pc' := 103) (v := (μ 1 2)) g_X5_24_1 dX5_nextToken_100 rfl rfl ?_
      refine wv_iconst (pc' := 104) dX5_nextToken_103 ic_1 rfl ?_
      refine wv_iadd (pc' := 105) dX5_nextToken_104 rfl ?_
      refine wv_pi (pc' := 108) p_X5_24_1 dX5_nextToken_105 rfl ?_
      exact wv_return rfl dX5_nextToken_108 (wd_lv h)
    · have h := (if_neg c6).symm.trans h
      refine wv_aload_n (pc' := 79) (i := 0) (v := 1) dX5_nextToken_78 rfl rfl rfl ?_
      obtain ⟨r7, er7, h⟩ := wd_bind_some h
      refine wv_callVv (pc' := 82) (ν := r7) [] ml_X5_81 rc_1 rfl (Nat.le_of_ble_eq_true rfl) dX5_nextToken_79 rfl (c_X5_nextNumber G d (Nat.le_trans (Nat.le_of_ble_eq_true rfl) hd)  er7) ?_
      refine wv_goto (pc' := 108) dX5_nextToken_82 (by decide) ?_
      exact wv_return rfl dX5_nextToken_108 (wd_lv h)
  · have h := (if_neg c4).symm.trans h
    exact wv_return rfl dX5_nextToken_62 (wd_lv h)
set_option maxRecDepth 100000 in
set_option maxHeartbeats 4000000 in
theorem t_X5_nextToken_b0 (G : wd_G) (d : Nat) (hd : 2 ≤ d) {out : wd_Mem} (μ : wd_Mem)  (h : X5_nextToken_b0 μ = some out) : wd_V G (d + 1) RX5 cX5_nextToken 1 none (fun r u => r = none ∧ u = out) 0 [some (.inr 1)] [] μ := by
  unfold X5_nextToken_b0 at h
  exact t_X5_nextToken_l0 G d hd (fun μ => X5_nextToken_b38 μ)  (fun μ h => t_X5_nextToken_b38 G d hd μ  h) wd_big μ h
set_option maxRecDepth 100000 in
set_option maxHeartbeats 4000000 in
theorem c_X5_nextToken (G : wd_G) (d : Nat) (hd : 3 ≤ d) {μ : wd_Mem} {out : wd_Mem}  (h : X5_nextToken μ = some out) : wd_C G d yX5_nextToken [.inr 1] μ (fun r u => r = none ∧ u = out) := by
  obtain ⟨d, rfl⟩ : ∃ e, d = e + 1 := ⟨d - 1, by omega⟩
  refine wd_enter mc_X5_nextToken (by decide) (by decide +kernel) rfl (Nat.le_of_ble_eq_true rfl) (L0 := [some (.inr 1)]) rfl ?_
  exact t_X5_nextToken_b0 G d (by omega) μ  h
set_option maxRecDepth 100000 in
set_option maxHeartbeats 4000000 in
theorem t_X5_readNumber_b33 (G : wd_G) (d : Nat) (hd : 3 ≤ d) {out : Int32 × wd_Mem} (μ : wd_Mem)  (h : X5_readNumber_b33 μ = some out) : wd_V G (d + 1) RX5 cX5_readNumber 3 (some .boolean) (fun r u => r = some (.inl out.1) ∧ u = out.2) 33 [some (.inr 1), none, none] [] μ := by
  unfold X5_readNumber_b33 at h
  refine wv_iconst (pc' := 34) dX5_readNumber_33 ic_0 rfl ?_
  exact wv_zreturn rfl rfl dX5_readNumber_34 (wd_liv h)
set_option maxRecDepth 100000 in
set_option maxHeartbeats 4000000 in
theorem t_X5_readNumber_b0 (G : wd_G) (d : Nat) (hd : 3 ≤ d) {out : Int32 × wd_Mem} (μ : wd_Mem) (x1 x2 : Int32)  (h : X5_readNumber_b0 μ x1 x2 = some out) : wd_V G (d + 1) RX5 cX5_readNumber 3 (some .boolean) (fun r u => r = some (.inl out.1) ∧ u = out.2) 0 [some (.inr 1), some (.inl x1), some (.inl x2)] [] μ := by
  unfold X5_readNumber_b0 at h
  refine wv_aload_n (pc' := 1) (i := 0) (v := 1) dX5_readNumber_0 rfl rfl rfl ?_
  obtain ⟨r1, er1, h⟩ := wd_bind_some h
  refine wv_callVv (pc' := 4) (ν := r1) [] ml_X5_27 rc_1 rfl (Nat.le_of_ble_eq_true rfl) dX5_readNumber_1 rfl (c_X5_nextToken G d (Nat.le_trans (Nat.le_of_ble_eq_true rfl) hd)  er1) ?_
  refine wv_aload_n (pc' := 5) (i := 0) (v := 1) dX5_readNumber_4 rfl rfl rfl ?_
  refine wv_gi (pc' := 8) g_X5_33_1 dX5_readNumber_5 rfl ?_
  refine wv_bipush (pc' := 10) dX5_readNumber_8 bp_m2 rfl ?_
  refine wv_icmp_ne (pc' := 13) (tgt := 33) dX5_readNumber_10 (by decide) rfl (fun c2 => ?_) (fun c2 => ?_)
  · have h := (if_neg c2).symm.trans h
    refine wv_weak (L' := [some (.inr 1), none, none]) ⟨rfl, trivial⟩ ?_
    exact t_X5_readNumber_b33 G d hd r1  h
  · have h := (if_pos c2).symm.trans h
    refine wv_aload_n (pc' := 14) (i := 0) (v := 1) dX5_readNumber_13 rfl rfl rfl ?_
    refine wv_gi (pc' := 17) g_X5_52_1 dX5_readNumber_14 rfl ?_
    refine wv_iload_n (pc' := 18) (i := 1) (v := x1) dX5_readNumber_17 rfl rfl rfl ?_
    refine wv_icmp_lt (pc' := 21) (tgt := 33) dX5_readNumber_18 (by decide) rfl (fun c3 => ?_) (fun c3 => ?_)
    · have h := (if_pos c3).symm.trans h
      refine wv_weak (L' := [some (.inr 1), none, none]) ⟨rfl, trivial⟩ ?_
      exact t_X5_readNumber_b33 G d hd r1  h
    · have h := (if_neg c3).symm.trans h
      refine wv_aload_n (pc' := 22) (i := 0) (v := 1) dX5_readNumber_21 rfl rfl rfl ?_
      refine wv_gi (pc' := 25) g_X5_52_1 dX5_readNumber_22 rfl ?_
      refine wv_iload_n (pc' := 26) (i := 2) (v := x2) dX5_readNumber_25 rfl rfl rfl ?_
      refine wv_icmp_gt (pc' := 29) (tgt := 33) dX5_readNumber_26 (by decide) rfl (fun c4 => ?_) (fun c4 => ?_)
      · have h := (if_pos c4).symm.trans h
        refine wv_weak (L' := [some (.inr 1), none, none]) ⟨rfl, trivial⟩ ?_
        exact t_X5_readNumber_b33 G d hd r1  h
      · have h := (if_neg c4).symm.trans h
        refine wv_iconst (pc' := 30) dX5_readNumber_29 ic_1 rfl ?_
        refine wv_goto (pc' := 34) dX5_readNumber_30 (by decide) ?_
        exact wv_zreturn rfl rfl dX5_readNumber_34 (wd_liv h)
set_option maxRecDepth 100000 in
set_option maxHeartbeats 4000000 in
theorem c_X5_readNumber (G : wd_G) (d : Nat) (hd : 4 ≤ d) {μ : wd_Mem} {x1 x2 : Int32} {out : Int32 × wd_Mem}  (h : X5_readNumber μ x1 x2 = some out) : wd_C G d yX5_readNumber [.inr 1, .inl x1, .inl x2] μ (fun r u => r = some (.inl out.1) ∧ u = out.2) := by
  obtain ⟨d, rfl⟩ : ∃ e, d = e + 1 := ⟨d - 1, by omega⟩
  refine wd_enter mc_X5_readNumber (by decide) (by decide +kernel) rfl (Nat.le_of_ble_eq_true rfl) (L0 := [some (.inr 1), some (.inl x1), some (.inl x2)]) rfl ?_
  exact t_X5_readNumber_b0 G d (by omega) μ x1 x2 h
set_option maxRecDepth 100000 in
set_option maxHeartbeats 4000000 in
theorem t_X5_readRoom_b0 (G : wd_G) (d : Nat) (hd : 4 ≤ d) {out : Int32 × wd_Mem} (h1 : Nat) (μ : wd_Mem) (w1 : wd_isT h1) (h : X5_readRoom_b0 h1 μ = some out) : wd_V G (d + 1) RX5 cX5_readRoom 2 (some .boolean) (fun r u => r = some (.inl out.1) ∧ u = out.2) 0 [some (.inr 1), some (.inr h1)] [] μ := by
  unfold X5_readRoom_b0 at h
  refine wv_aload_n (pc' := 1) (i := 0) (v := 1) dX5_readRoom_0 rfl rfl rfl ?_
  refine wv_iconst (pc' := 2) dX5_readRoom_1 ic_1 rfl ?_
  refine wv_bipush (pc' := 4) dX5_readRoom_2 bp_20 rfl ?_
  obtain ⟨r1, er1, h⟩ := wd_bind_some h
  refine wv_callVi (pc' := 7) (x := r1.1) (ν := r1.2) [.inl (1 : Int32), .inl (20 : Int32)] ml_X5_48 rc_1 rfl (Nat.le_of_ble_eq_true rfl) dX5_readRoom_4 rfl (c_X5_readNumber G d (Nat.le_trans (Nat.le_of_ble_eq_true rfl) hd)  er1) ?_
  refine wv_if_ne (pc' := 10) (tgt := 12) dX5_readRoom_7 (by decide) rfl (fun c2 => ?_) (fun c2 => ?_)
  · have h := (if_neg c2).symm.trans h
    refine wv_aload_n (pc' := 13) (i := 1) (v := h1) dX5_readRoom_12 rfl rfl rfl ?_
    refine wv_aload_n (pc' := 14) (i := 0) (v := 1) dX5_readRoom_13 rfl rfl rfl ?_
    refine wv_gi (pc' := 17) g_X5_52_1 dX5_readRoom_14 rfl ?_
    refine wv_pi (pc' := 20) (p_X5_55_T w1) dX5_readRoom_17 rfl ?_
    refine wv_iconst (pc' := 21) dX5_readRoom_20 ic_1 rfl ?_
    exact wv_zreturn rfl rfl dX5_readRoom_21 (wd_liv h)
  · have h := (if_pos c2).symm.trans h
    refine wv_iconst (pc' := 11) dX5_readRoom_10 ic_0 rfl ?_
    exact wv_zreturn rfl rfl dX5_readRoom_11 (wd_liv h)
set_option maxRecDepth 100000 in
set_option maxHeartbeats 4000000 in
theorem c_X5_readRoom (G : wd_G) (d : Nat) (hd : 5 ≤ d) {h1 : Nat} {μ : wd_Mem} {out : Int32 × wd_Mem} (w1 : wd_isT h1) (h : X5_readRoom h1 μ = some out) : wd_C G d yX5_readRoom [.inr 1, .inr h1] μ (fun r u => r = some (.inl out.1) ∧ u = out.2) := by
  obtain ⟨d, rfl⟩ : ∃ e, d = e + 1 := ⟨d - 1, by omega⟩
  refine wd_enter mc_X5_readRoom (by decide) (by decide +kernel) rfl (Nat.le_of_ble_eq_true rfl) (L0 := [some (.inr 1), some (.inr h1)]) rfl ?_
  exact t_X5_readRoom_b0 G d (by omega) h1 μ  w1 h
set_option maxRecDepth 100000 in
set_option maxHeartbeats 4000000 in
theorem t_X6_placeOf_b0 (G : wd_G) (d : Nat) (hd : 0 ≤ d) {out : Int32} (μ : wd_Mem) (x0 x1 : Int32)  (h : X6_placeOf_b0 μ x0 x1 = out) : wd_V G (d + 1) RX6 cX6_placeOf 2 (some .int) (fun r u => r = some (.inl out) ∧ u = μ) 0 [some (.inl x0), some (.inl x1)] [] μ := by
  unfold X6_placeOf_b0 at h
  refine wv_iload_n (pc' := 1) (i := 1) (v := x1) dX6_placeOf_0 rfl rfl rfl ?_
  refine wv_iconst (pc' := 2) dX6_placeOf_1 ic_5 rfl ?_
  refine wv_imul (pc' := 3) dX6_placeOf_2 rfl ?_
  refine wv_iload_n (pc' := 4) (i := 0) (v := x0) dX6_placeOf_3 rfl rfl rfl ?_
  refine wv_iadd (pc' := 5) dX6_placeOf_4 rfl ?_
  exact wv_ireturn rfl dX6_placeOf_5 (wd_lt h)
set_option maxRecDepth 100000 in
set_option maxHeartbeats 4000000 in
theorem c_X6_placeOf (G : wd_G) (d : Nat) (hd : 1 ≤ d) {μ : wd_Mem} {x0 x1 : Int32} {out : Int32}  (h : X6_placeOf μ x0 x1 = out) : wd_C G d yX6_placeOf [.inl x0, .inl x1] μ (fun r u => r = some (.inl out) ∧ u = μ) := by
  obtain ⟨d, rfl⟩ : ∃ e, d = e + 1 := ⟨d - 1, by omega⟩
  refine wd_enter mc_X6_placeOf (by decide) (by decide +kernel) rfl (Nat.le_of_ble_eq_true rfl) (L0 := [some (.inl x0), some (.inl x1)]) rfl ?_
  exact t_X6_placeOf_b0 G d (by omega) μ x0 x1 h
set_option maxRecDepth 100000 in
set_option maxHeartbeats 4000000 in
theorem t_X6_move_b0 (G : wd_G) (d : Nat) (hd : 1 ≤ d) {out : wd_Mem} (h0 : Nat) (μ : wd_Mem) (x1 x2 x3 x4 x5 : Int32) (w0 : wd_isW h0) (h : X6_move_b0 h0 μ x1 x2 x3 x4 x5 = some out) : wd_V G (d + 1) RX6 cX6_move 7 none (fun r u => r = none ∧ u = out) 0 [some (.inr h0), some (.inl x1), some (.inl x2), some (.inl x3), some (.inl x4), some (.inl x5), none] [] μ := by
  unfold X6_move_b0 at h
  refine wv_iload_n (pc' := 1) (i := 1) (v := x1) dX6_move_0 rfl rfl rfl ?_
  refine wv_iload_n (pc' := 2) (i := 2) (v := x2) dX6_move_1 rfl rfl rfl ?_
  refine wv_callSi (pc' := 5) (x := (X6_placeOf μ x1 x2)) (ν := μ) [.inl x1, .inl x2] ml_X6_21 rfl (Nat.le_of_ble_eq_true rfl) dX6_move_2 rfl (c_X6_placeOf G d (Nat.le_trans (Nat.le_of_ble_eq_true rfl) hd)  rfl) ?_
  refine wv_istore (pc' := 7) (L' := [some (.inr h0), some (.inl x1), some (.inl x2), some (.inl x3), some (.inl x4), some (.inl x5), some (.inl (X6_placeOf μ x1 x2))]) dX6_move_5 (by decide) rfl rfl ?_
  refine wv_aload_n (pc' := 8) (i := 0) (v := h0) dX6_move_7 rfl rfl rfl ?_
  refine wv_gr (pc' := 11) (g_X6_11_W w0) dX6_move_8 rfl ?_
  refine wv_iload (pc' := 13) (v := (X6_placeOf μ x1 x2)) dX6_move_11 rfl rfl ?_
  refine wv_iload_n (pc' := 14) (i := 3) (v := x3) dX6_move_13 rfl rfl rfl ?_
  obtain ⟨g1, h⟩ := wd_chk_some h
  refine wv_iast (pc' := 15) (wd_shW w0).2.1 (wd_in_vp g1) dX6_move_14 rfl ?_
  refine wv_aload_n (pc' := 16) (i := 0) (v := h0) dX6_move_15 rfl rfl rfl ?_
  refine wv_gr (pc' := 19) (g_X6_15_W w0) dX6_move_16 rfl ?_
  refine wv_iload (pc' := 21) (v := (X6_placeOf μ x1 x2)) dX6_move_19 rfl rfl ?_
  refine wv_iload (pc' := 23) (v := x4) dX6_move_21 rfl rfl ?_
  refine wv_iast (pc' := 24) (wd_shW w0).2.2.1 (wd_in_vp g1) dX6_move_23 rfl ?_
  refine wv_aload_n (pc' := 25) (i := 0) (v := h0) dX6_move_24 rfl rfl rfl ?_
  refine wv_gr (pc' := 28) (g_X6_18_W w0) dX6_move_25 rfl ?_
  refine wv_iload (pc' := 30) (v := (X6_placeOf μ x1 x2)) dX6_move_28 rfl rfl ?_
  refine wv_iload (pc' := 32) (v := x5) dX6_move_30 rfl rfl ?_
  refine wv_iast (pc' := 33) (wd_shW w0).2.2.2 (wd_in_vp g1) dX6_move_32 rfl ?_
  exact wv_return rfl dX6_move_33 (wd_lv h)
set_option maxRecDepth 100000 in
set_option maxHeartbeats 4000000 in
theorem c_X6_move (G : wd_G) (d : Nat) (hd : 2 ≤ d) {h0 : Nat} {μ : wd_Mem} {x1 x2 x3 x4 x5 : Int32} {out : wd_Mem} (w0 : wd_isW h0) (h : X6_move h0 μ x1 x2 x3 x4 x5 = some out) : wd_C G d yX6_move [.inr h0, .inl x1, .inl x2, .inl x3, .inl x4, .inl x5] μ (fun r u => r = none ∧ u = out) := by
  obtain ⟨d, rfl⟩ : ∃ e, d = e + 1 := ⟨d - 1, by omega⟩
  refine wd_enter mc_X6_move (by decide) (by decide +kernel) rfl (Nat.le_of_ble_eq_true rfl) (L0 := [some (.inr h0), some (.inl x1), some (.inl x2), some (.inl x3), some (.inl x4), some (.inl x5), none]) rfl ?_
  exact t_X6_move_b0 G d (by omega) h0 μ x1 x2 x3 x4 x5 w0 h
set_option maxRecDepth 100000 in
set_option maxHeartbeats 4000000 in
theorem t_X6_open_b0 (G : wd_G) (d : Nat) (hd : 2 ≤ d) {out : wd_Mem} (h0 : Nat) (μ : wd_Mem) (x1 x2 x3 : Int32) (w0 : wd_isW h0) (h : X6_open_b0 h0 μ x1 x2 x3 = some out) : wd_V G (d + 1) RX6 cX6_open 4 none (fun r u => r = none ∧ u = out) 0 [some (.inr h0), some (.inl x1), some (.inl x2), some (.inl x3)] [] μ := by
  unfold X6_open_b0 at h
  refine wv_aload_n (pc' := 1) (i := 0) (v := h0) dX6_open_0 rfl rfl rfl ?_
  refine wv_iload_n (pc' := 2) (i := 1) (v := x1) dX6_open_1 rfl rfl rfl ?_
  refine wv_iconst (pc' := 3) dX6_open_2 ic_0 rfl ?_
  refine wv_iload_n (pc' := 4) (i := 2) (v := x2) dX6_open_3 rfl rfl rfl ?_
  refine wv_bipush (pc' := 6) dX6_open_4 bp_m9 rfl ?_
  refine wv_bipush (pc' := 8) dX6_open_6 bp_m9 rfl ?_
  obtain ⟨r1, er1, h⟩ := wd_bind_some h
  refine wv_callVv (pc' := 11) (ν := r1) [.inl x1, .inl (0 : Int32), .inl x2, .inl (-9 : Int32), .inl (-9 : Int32)] ml_X6_25 (wd_rcW w0) rfl (Nat.le_of_ble_eq_true rfl) dX6_open_8 rfl (c_X6_move G d (Nat.le_trans (Nat.le_of_ble_eq_true rfl) hd) w0 er1) ?_
  refine wv_aload_n (pc' := 12) (i := 0) (v := h0) dX6_open_11 rfl rfl rfl ?_
  refine wv_iload_n (pc' := 13) (i := 1) (v := x1) dX6_open_12 rfl rfl rfl ?_
  refine wv_iconst (pc' := 14) dX6_open_13 ic_1 rfl ?_
  refine wv_iload_n (pc' := 15) (i := 3) (v := x3) dX6_open_14 rfl rfl rfl ?_
  refine wv_bipush (pc' := 17) dX6_open_15 bp_m9 rfl ?_
  refine wv_bipush (pc' := 19) dX6_open_17 bp_m9 rfl ?_
  obtain ⟨r2, er2, h⟩ := wd_bind_some h
  refine wv_callVv (pc' := 22) (ν := r2) [.inl x1, .inl (1 : Int32), .inl x3, .inl (-9 : Int32), .inl (-9 : Int32)] ml_X6_25 (wd_rcW w0) rfl (Nat.le_of_ble_eq_true rfl) dX6_open_19 rfl (c_X6_move G d (Nat.le_trans (Nat.le_of_ble_eq_true rfl) hd) w0 er2) ?_
  exact wv_return rfl dX6_open_22 (wd_lv h)
set_option maxRecDepth 100000 in
set_option maxHeartbeats 4000000 in
theorem c_X6_open (G : wd_G) (d : Nat) (hd : 3 ≤ d) {h0 : Nat} {μ : wd_Mem} {x1 x2 x3 : Int32} {out : wd_Mem} (w0 : wd_isW h0) (h : X6_open h0 μ x1 x2 x3 = some out) : wd_C G d yX6_open [.inr h0, .inl x1, .inl x2, .inl x3] μ (fun r u => r = none ∧ u = out) := by
  obtain ⟨d, rfl⟩ : ∃ e, d = e + 1 := ⟨d - 1, by omega⟩
  refine wd_enter mc_X6_open (by decide) (by decide +kernel) rfl (Nat.le_of_ble_eq_true rfl) (L0 := [some (.inr h0), some (.inl x1), some (.inl x2), some (.inl x3)]) rfl ?_
  exact t_X6_open_b0 G d (by omega) h0 μ x1 x2 x3 w0 h
set_option maxRecDepth 100000 in
set_option maxHeartbeats 4000000 in
theorem t_X4_add_b0 (G : wd_G) (d : Nat) (hd : 0 ≤ d) {out : wd_Mem} (h0 : Nat) (μ : wd_Mem) (x1 x2 : Int32) (w0 : wd_isT h0) (h : X4_add_b0 h0 μ x1 x2 = some out) : wd_V G (d + 1) RX4 cX4_add 3 none (fun r u => r = none ∧ u = out) 0 [some (.inr h0), some (.inl x1), some (.inl x2)] [] μ := by
  unfold X4_add_b0 at h
  refine wv_aload_n (pc' := 1) (i := 0) (v := h0) dX4_add_0 rfl rfl rfl ?_
  refine wv_gi (pc' := 4) (g_X4_22_T w0) dX4_add_1 rfl ?_
  refine wv_iconst (pc' := 5) dX4_add_4 ic_5 rfl ?_
  refine wv_icmp_ge (pc' := 8) (tgt := 38) dX4_add_5 (by decide) rfl (fun c1 => ?_) (fun c1 => ?_)
  · have h := (if_pos c1).symm.trans h
    exact wv_return rfl dX4_add_38 (wd_lv h)
  · have h := (if_neg c1).symm.trans h
    refine wv_aload_n (pc' := 9) (i := 0) (v := h0) dX4_add_8 rfl rfl rfl ?_
    refine wv_gr (pc' := 12) (g_X4_15_T w0) dX4_add_9 rfl ?_
    refine wv_aload_n (pc' := 13) (i := 0) (v := h0) dX4_add_12 rfl rfl rfl ?_
    refine wv_gi (pc' := 16) (g_X4_22_T w0) dX4_add_13 rfl ?_
    refine wv_iload_n (pc' := 17) (i := 1) (v := x1) dX4_add_16 rfl rfl rfl ?_
    obtain ⟨g2, h⟩ := wd_chk_some h
    refine wv_iast (pc' := 18) (wd_shT w0).2.1 (wd_in_vp g2) dX4_add_17 rfl ?_
    refine wv_aload_n (pc' := 19) (i := 0) (v := h0) dX4_add_18 rfl rfl rfl ?_
    refine wv_gr (pc' := 22) (g_X4_19_T w0) dX4_add_19 rfl ?_
    refine wv_aload_n (pc' := 23) (i := 0) (v := h0) dX4_add_22 rfl rfl rfl ?_
    refine wv_gi (pc' := 26) (g_X4_22_T w0) dX4_add_23 rfl ?_
    refine wv_iload_n (pc' := 27) (i := 2) (v := x2) dX4_add_26 rfl rfl rfl ?_
    obtain ⟨g3, h⟩ := wd_chk_some h
    refine wv_iast (pc' := 28) (wd_shT w0).2.2 (wd_in_vp g3) dX4_add_27 rfl ?_
    refine wv_aload_n (pc' := 29) (i := 0) (v := h0) dX4_add_28 rfl rfl rfl ?_
    refine wv_dup (pc' := 30) dX4_add_29 rfl ?_
    refine wv_gi (pc' := 33) (g_X4_22_T w0) dX4_add_30 rfl ?_
    refine wv_iconst (pc' := 34) dX4_add_33 ic_1 rfl ?_
    refine wv_iadd (pc' := 35) dX4_add_34 rfl ?_
    refine wv_pi (pc' := 38) (p_X4_22_T w0) dX4_add_35 rfl ?_
    exact wv_return rfl dX4_add_38 (wd_lv h)
set_option maxRecDepth 100000 in
set_option maxHeartbeats 4000000 in
theorem c_X4_add (G : wd_G) (d : Nat) (hd : 1 ≤ d) {h0 : Nat} {μ : wd_Mem} {x1 x2 : Int32} {out : wd_Mem} (w0 : wd_isT h0) (h : X4_add h0 μ x1 x2 = some out) : wd_C G d yX4_add [.inr h0, .inl x1, .inl x2] μ (fun r u => r = none ∧ u = out) := by
  obtain ⟨d, rfl⟩ : ∃ e, d = e + 1 := ⟨d - 1, by omega⟩
  refine wd_enter mc_X4_add (by decide) (by decide +kernel) rfl (Nat.le_of_ble_eq_true rfl) (L0 := [some (.inr h0), some (.inl x1), some (.inl x2)]) rfl ?_
  exact t_X4_add_b0 G d (by omega) h0 μ x1 x2 w0 h
set_option maxRecDepth 100000 in
set_option maxHeartbeats 4000000 in
theorem t_X5_readTask_b27 (G : wd_G) (d : Nat) (hd : 4 ≤ d) {out : Int32 × wd_Mem} (h1 : Nat) (h2 : Nat) (μ : wd_Mem) (w1 : wd_isT h1) (w2 : wd_isW h2) (h : X5_readTask_b27 h1 h2 μ = some out) : wd_V G (d + 1) RX5 cX5_readTask 6 (some .boolean) (fun r u => r = some (.inl out.1) ∧ u = out.2) 27 [some (.inr 1), some (.inr h1), some (.inr h2), none, none, none] [] μ := by
  unfold X5_readTask_b27 at h
  refine wv_iconst (pc' := 28) dX5_readTask_27 ic_0 rfl ?_
  exact wv_zreturn rfl rfl dX5_readTask_28 (wd_liv h)
set_option maxRecDepth 100000 in
set_option maxHeartbeats 4000000 in
theorem t_X5_readTask_b0 (G : wd_G) (d : Nat) (hd : 4 ≤ d) {out : Int32 × wd_Mem} (h1 : Nat) (h2 : Nat) (μ : wd_Mem) (w1 : wd_isT h1) (w2 : wd_isW h2) (h : X5_readTask_b0 h1 h2 μ = some out) : wd_V G (d + 1) RX5 cX5_readTask 6 (some .boolean) (fun r u => r = some (.inl out.1) ∧ u = out.2) 0 [some (.inr 1), some (.inr h1), some (.inr h2), none, none, none] [] μ := by
  unfold X5_readTask_b0 at h
  refine wv_aload_n (pc' := 1) (i := 0) (v := 1) dX5_readTask_0 rfl rfl rfl ?_
  refine wv_gi (pc' := 4) g_X5_33_1 dX5_readTask_1 rfl ?_
  refine wv_bipush (pc' := 6) dX5_readTask_4 bp_116 rfl ?_
  refine wv_icmp_ne (pc' := 9) (tgt := 27) dX5_readTask_6 (by decide) rfl (fun c1 => ?_) (fun c1 => ?_)
  · have h := (if_neg c1).symm.trans h
    exact t_X5_readTask_b27 G d hd h1 h2 μ w1 w2 h
  · have h := (if_pos c1).symm.trans h
    refine wv_aload_n (pc' := 10) (i := 1) (v := h1) dX5_readTask_9 rfl rfl rfl ?_
    refine wv_gi (pc' := 13) (g_X5_58_T w1) dX5_readTask_10 rfl ?_
    refine wv_iconst (pc' := 14) dX5_readTask_13 ic_5 rfl ?_
    refine wv_icmp_ge (pc' := 17) (tgt := 27) dX5_readTask_14 (by decide) rfl (fun c2 => ?_) (fun c2 => ?_)
    · have h := (if_pos c2).symm.trans h
      exact t_X5_readTask_b27 G d hd h1 h2 μ w1 w2 h
    · have h := (if_neg c2).symm.trans h
      refine wv_aload_n (pc' := 18) (i := 0) (v := 1) dX5_readTask_17 rfl rfl rfl ?_
      refine wv_iconst (pc' := 19) dX5_readTask_18 ic_0 rfl ?_
      refine wv_bipush (pc' := 21) dX5_readTask_19 bp_15 rfl ?_
      obtain ⟨r3, er3, h⟩ := wd_bind_some h
      refine wv_callVi (pc' := 24) (x := r3.1) (ν := r3.2) [.inl (0 : Int32), .inl (15 : Int32)] ml_X5_48 rc_1 rfl (Nat.le_of_ble_eq_true rfl) dX5_readTask_21 rfl (c_X5_readNumber G d (Nat.le_trans (Nat.le_of_ble_eq_true rfl) hd)  er3) ?_
      refine wv_if_ne (pc' := 27) (tgt := 29) dX5_readTask_24 (by decide) rfl (fun c4 => ?_) (fun c4 => ?_)
      · have h := (if_neg c4).symm.trans h
        refine wv_aload_n (pc' := 30) (i := 0) (v := 1) dX5_readTask_29 rfl rfl rfl ?_
        refine wv_gi (pc' := 33) g_X5_52_1 dX5_readTask_30 rfl ?_
        refine wv_istore_n (pc' := 34) (i := 3) (L' := [some (.inr 1), some (.inr h1), some (.inr h2), some (.inl (r3.2 1 5)), none, none]) dX5_readTask_33 rfl (by decide) rfl rfl ?_
        refine wv_aload_n (pc' := 35) (i := 0) (v := 1) dX5_readTask_34 rfl rfl rfl ?_
        refine wv_iload_n (pc' := 36) (i := 3) (v := (r3.2 1 5)) dX5_readTask_35 rfl rfl rfl ?_
        refine wv_iconst (pc' := 37) dX5_readTask_36 ic_1 rfl ?_
        refine wv_iadd (pc' := 38) dX5_readTask_37 rfl ?_
        refine wv_bipush (pc' := 40) dX5_readTask_38 bp_16 rfl ?_
        obtain ⟨r5, er5, h⟩ := wd_bind_some h
        refine wv_callVi (pc' := 43) (x := r5.1) (ν := r5.2) [.inl ((r3.2 1 5) + (1 : Int32)), .inl (16 : Int32)] ml_X5_48 rc_1 rfl (Nat.le_of_ble_eq_true rfl) dX5_readTask_40 rfl (c_X5_readNumber G d (Nat.le_trans (Nat.le_of_ble_eq_true rfl) hd)  er5) ?_
        refine wv_if_ne (pc' := 46) (tgt := 48) dX5_readTask_43 (by decide) rfl (fun c6 => ?_) (fun c6 => ?_)
        · have h := (if_neg c6).symm.trans h
          refine wv_aload_n (pc' := 49) (i := 0) (v := 1) dX5_readTask_48 rfl rfl rfl ?_
          refine wv_gi (pc' := 52) g_X5_52_1 dX5_readTask_49 rfl ?_
          refine wv_istore (pc' := 54) (L' := [some (.inr 1), some (.inr h1), some (.inr h2), some (.inl (r3.2 1 5)), some (.inl (r5.2 1 5)), none]) dX5_readTask_52 (by decide) rfl rfl ?_
          refine wv_aload_n (pc' := 55) (i := 0) (v := 1) dX5_readTask_54 rfl rfl rfl ?_
          refine wv_iconst (pc' := 56) dX5_readTask_55 ic_1 rfl ?_
          refine wv_bipush (pc' := 58) dX5_readTask_56 bp_9 rfl ?_
          refine wv_iload (pc' := 60) (v := (r5.2 1 5)) dX5_readTask_58 rfl rfl ?_
          refine wv_iload_n (pc' := 61) (i := 3) (v := (r3.2 1 5)) dX5_readTask_60 rfl rfl rfl ?_
          refine wv_isub (pc' := 62) dX5_readTask_61 rfl ?_
          refine wv_min (pc' := 65) mm_X5_61 (Nat.le_of_ble_eq_true rfl) dX5_readTask_62 rfl ?_
          obtain ⟨r7, er7, h⟩ := wd_bind_some h
          refine wv_callVi (pc' := 68) (x := r7.1) (ν := r7.2) [.inl (1 : Int32), .inl (if ((r5.2 1 5) - (r3.2 1 5)) < (9 : Int32) then ((r5.2 1 5) - (r3.2 1 5)) else (9 : Int32))] ml_X5_48 rc_1 rfl (Nat.le_of_ble_eq_true rfl) dX5_readTask_65 rfl (c_X5_readNumber G d (Nat.le_trans (Nat.le_of_ble_eq_true rfl) hd)  er7) ?_
          refine wv_if_ne (pc' := 71) (tgt := 73) dX5_readTask_68 (by decide) rfl (fun c8 => ?_) (fun c8 => ?_)
          · have h := (if_neg c8).symm.trans h
            refine wv_aload_n (pc' := 74) (i := 0) (v := 1) dX5_readTask_73 rfl rfl rfl ?_
            refine wv_gi (pc' := 77) g_X5_52_1 dX5_readTask_74 rfl ?_
            refine wv_istore (pc' := 79) (L' := [some (.inr 1), some (.inr h1), some (.inr h2), some (.inl (r3.2 1 5)), some (.inl (r5.2 1 5)), some (.inl (r7.2 1 5))]) dX5_readTask_77 (by decide) rfl rfl ?_
            refine wv_aload_n (pc' := 80) (i := 0) (v := 1) dX5_readTask_79 rfl rfl rfl ?_
            refine wv_iconst (pc' := 81) dX5_readTask_80 ic_1 rfl ?_
            refine wv_bipush (pc' := 83) dX5_readTask_81 bp_9 rfl ?_
            refine wv_aload_n (pc' := 84) (i := 1) (v := h1) dX5_readTask_83 rfl rfl rfl ?_
            refine wv_gi (pc' := 87) (g_X5_55_T w1) dX5_readTask_84 rfl ?_
            refine wv_min (pc' := 90) mm_X5_61 (Nat.le_of_ble_eq_true rfl) dX5_readTask_87 rfl ?_
            obtain ⟨r9, er9, h⟩ := wd_bind_some h
            refine wv_callVi (pc' := 93) (x := r9.1) (ν := r9.2) [.inl (1 : Int32), .inl (if (r7.2 h1 0) < (9 : Int32) then (r7.2 h1 0) else (9 : Int32))] ml_X5_48 rc_1 rfl (Nat.le_of_ble_eq_true rfl) dX5_readTask_90 rfl (c_X5_readNumber G d (Nat.le_trans (Nat.le_of_ble_eq_true rfl) hd)  er9) ?_
            refine wv_if_ne (pc' := 96) (tgt := 98) dX5_readTask_93 (by decide) rfl (fun c10 => ?_) (fun c10 => ?_)
            · have h := (if_neg c10).symm.trans h
              refine wv_aload_n (pc' := 99) (i := 2) (v := h2) dX5_readTask_98 rfl rfl rfl ?_
              refine wv_aload_n (pc' := 100) (i := 1) (v := h1) dX5_readTask_99 rfl rfl rfl ?_
              refine wv_gi (pc' := 103) (g_X5_58_T w1) dX5_readTask_100 rfl ?_
              refine wv_iload_n (pc' := 104) (i := 3) (v := (r3.2 1 5)) dX5_readTask_103 rfl rfl rfl ?_
              refine wv_iload (pc' := 106) (v := (r5.2 1 5)) dX5_readTask_104 rfl rfl ?_
              obtain ⟨r11, er11, h⟩ := wd_bind_some h
              refine wv_callVv (pc' := 109) (ν := r11) [.inl (r9.2 h1 1), .inl (r3.2 1 5), .inl (r5.2 1 5)] ml_X5_67 (wd_rcW w2) rfl (Nat.le_of_ble_eq_true rfl) dX5_readTask_106 rfl (c_X6_open G d (Nat.le_trans (Nat.le_of_ble_eq_true rfl) hd) w2 er11) ?_
              refine wv_aload_n (pc' := 110) (i := 1) (v := h1) dX5_readTask_109 rfl rfl rfl ?_
              refine wv_iload (pc' := 112) (v := (r7.2 1 5)) dX5_readTask_110 rfl rfl ?_
              refine wv_aload_n (pc' := 113) (i := 0) (v := 1) dX5_readTask_112 rfl rfl rfl ?_
              refine wv_gi (pc' := 116) g_X5_52_1 dX5_readTask_113 rfl ?_
              obtain ⟨r12, er12, h⟩ := wd_bind_some h
              refine wv_callVv (pc' := 119) (ν := r12) [.inl (r7.2 1 5), .inl (r11 1 5)] ml_X5_73 (wd_rcT w1) rfl (Nat.le_of_ble_eq_true rfl) dX5_readTask_116 rfl (c_X4_add G d (Nat.le_trans (Nat.le_of_ble_eq_true rfl) hd) w1 er12) ?_
              refine wv_iconst (pc' := 120) dX5_readTask_119 ic_1 rfl ?_
              exact wv_zreturn rfl rfl dX5_readTask_120 (wd_liv h)
            · have h := (if_pos c10).symm.trans h
              refine wv_iconst (pc' := 97) dX5_readTask_96 ic_0 rfl ?_
              exact wv_zreturn rfl rfl dX5_readTask_97 (wd_liv h)
          · have h := (if_pos c8).symm.trans h
            refine wv_iconst (pc' := 72) dX5_readTask_71 ic_0 rfl ?_
            exact wv_zreturn rfl rfl dX5_readTask_72 (wd_liv h)
        · have h := (if_pos c6).symm.trans h
          refine wv_iconst (pc' := 47) dX5_readTask_46 ic_0 rfl ?_
          exact wv_zreturn rfl rfl dX5_readTask_47 (wd_liv h)
      · have h := (if_pos c4).symm.trans h
        exact t_X5_readTask_b27 G d hd h1 h2 r3.2 w1 w2 h
set_option maxRecDepth 100000 in
set_option maxHeartbeats 4000000 in
theorem c_X5_readTask (G : wd_G) (d : Nat) (hd : 5 ≤ d) {h1 : Nat} {h2 : Nat} {μ : wd_Mem} {out : Int32 × wd_Mem} (w1 : wd_isT h1) (w2 : wd_isW h2) (h : X5_readTask h1 h2 μ = some out) : wd_C G d yX5_readTask [.inr 1, .inr h1, .inr h2] μ (fun r u => r = some (.inl out.1) ∧ u = out.2) := by
  obtain ⟨d, rfl⟩ : ∃ e, d = e + 1 := ⟨d - 1, by omega⟩
  refine wd_enter mc_X5_readTask (by decide) (by decide +kernel) rfl (Nat.le_of_ble_eq_true rfl) (L0 := [some (.inr 1), some (.inr h1), some (.inr h2), none, none, none]) rfl ?_
  exact t_X5_readTask_b0 G d (by omega) h1 h2 μ  w1 w2 h
set_option maxRecDepth 100000 in
set_option maxHeartbeats 4000000 in
theorem t_X5_readItemEnd_b0 (G : wd_G) (d : Nat) (hd : 3 ≤ d) {out : Int32 × wd_Mem} (μ : wd_Mem)  (h : X5_readItemEnd_b0 μ = some out) : wd_V G (d + 1) RX5 cX5_readItemEnd 1 (some .boolean) (fun r u => r = some (.inl out.1) ∧ u = out.2) 0 [some (.inr 1)] [] μ := by
  unfold X5_readItemEnd_b0 at h
  refine wv_aload_n (pc' := 1) (i := 0) (v := 1) dX5_readItemEnd_0 rfl rfl rfl ?_
  obtain ⟨r1, er1, h⟩ := wd_bind_some h
  refine wv_callVv (pc' := 4) (ν := r1) [] ml_X5_27 rc_1 rfl (Nat.le_of_ble_eq_true rfl) dX5_readItemEnd_1 rfl (c_X5_nextToken G d (Nat.le_trans (Nat.le_of_ble_eq_true rfl) hd)  er1) ?_
  refine wv_aload_n (pc' := 5) (i := 0) (v := 1) dX5_readItemEnd_4 rfl rfl rfl ?_
  refine wv_gi (pc' := 8) g_X5_33_1 dX5_readItemEnd_5 rfl ?_
  refine wv_bipush (pc' := 10) dX5_readItemEnd_8 bp_59 rfl ?_
  refine wv_icmp_ne (pc' := 13) (tgt := 17) dX5_readItemEnd_10 (by decide) rfl (fun c2 => ?_) (fun c2 => ?_)
  · have h := (if_neg c2).symm.trans h
    refine wv_iconst (pc' := 18) dX5_readItemEnd_17 ic_0 rfl ?_
    exact wv_zreturn rfl rfl dX5_readItemEnd_18 (wd_liv h)
  · have h := (if_pos c2).symm.trans h
    refine wv_iconst (pc' := 14) dX5_readItemEnd_13 ic_1 rfl ?_
    refine wv_goto (pc' := 18) dX5_readItemEnd_14 (by decide) ?_
    exact wv_zreturn rfl rfl dX5_readItemEnd_18 (wd_liv h)
set_option maxRecDepth 100000 in
set_option maxHeartbeats 4000000 in
theorem c_X5_readItemEnd (G : wd_G) (d : Nat) (hd : 4 ≤ d) {μ : wd_Mem} {out : Int32 × wd_Mem}  (h : X5_readItemEnd μ = some out) : wd_C G d yX5_readItemEnd [.inr 1] μ (fun r u => r = some (.inl out.1) ∧ u = out.2) := by
  obtain ⟨d, rfl⟩ : ∃ e, d = e + 1 := ⟨d - 1, by omega⟩
  refine wd_enter mc_X5_readItemEnd (by decide) (by decide +kernel) rfl (Nat.le_of_ble_eq_true rfl) (L0 := [some (.inr 1)]) rfl ?_
  exact t_X5_readItemEnd_b0 G d (by omega) μ  h
set_option maxRecDepth 100000 in
set_option maxHeartbeats 4000000 in
theorem t_X5_read_b69 (G : wd_G) (d : Nat) (hd : 5 ≤ d) {out : Int32 × wd_Mem} (rec : Int32 → wd_Mem → Option (Int32 × wd_Mem)) (k : wd_Mem → Option (Int32 × wd_Mem)) (h1 : Nat) (h2 : Nat) (μ : wd_Mem) (x3 s0 : Int32) (w1 : wd_isT h1) (w2 : wd_isW h2) (hrec : ∀ (x3 : Int32) (μ : wd_Mem), rec x3 μ = some out → wd_V G (d + 1) RX5 cX5_read 5 (some .int) (fun r u => r = some (.inl out.1) ∧ u = out.2) 11 [some (.inr 1), some (.inr h1), some (.inr h2), some (.inl x3), none] [] μ) (hk : ∀  (μ : wd_Mem), k μ = some out → wd_V G (d + 1) RX5 cX5_read 5 (some .int) (fun r u => r = some (.inl out.1) ∧ u = out.2) 97 [some (.inr 1), some (.inr h1), some (.inr h2), none, none] [] μ) (h : X5_read_b69 rec k h1 h2 μ x3 s0 = some out) : wd_V G (d + 1) RX5 cX5_read 5 (some .int) (fun r u => r = some (.inl out.1) ∧ u = out.2) 69 [some (.inr 1), some (.inr h1), some (.inr h2), some (.inl x3), none] [.inl s0] μ := by
  unfold X5_read_b69 at h
  refine wv_istore (pc' := 71) (L' := [some (.inr 1), some (.inr h1), some (.inr h2), some (.inl x3), some (.inl s0)]) dX5_read_69 (by decide) rfl rfl ?_
  refine wv_iload (pc' := 73) (v := s0) dX5_read_71 rfl rfl ?_
  refine wv_if_eq (pc' := 76) (tgt := 83) dX5_read_73 (by decide) rfl (fun c7 => ?_) (fun c7 => ?_)
  · have h := (if_pos c7).symm.trans h
    refine wv_bipush (pc' := 85) dX5_read_83 bp_m10 rfl ?_
    refine wv_aload_n (pc' := 86) (i := 0) (v := 1) dX5_read_85 rfl rfl rfl ?_
    refine wv_gi (pc' := 89) g_X5_30_1 dX5_read_86 rfl ?_
    refine wv_isub (pc' := 90) dX5_read_89 rfl ?_
    exact wv_ireturn rfl dX5_read_90 (wd_liv h)
  · have h := (if_neg c7).symm.trans h
    refine wv_aload_n (pc' := 77) (i := 0) (v := 1) dX5_read_76 rfl rfl rfl ?_
    obtain ⟨r8, er8, h⟩ := wd_bind_some h
    refine wv_callVi (pc' := 80) (x := r8.1) (ν := r8.2) [] ml_X5_44 rc_1 rfl (Nat.le_of_ble_eq_true rfl) dX5_read_77 rfl (c_X5_readItemEnd G d (Nat.le_trans (Nat.le_of_ble_eq_true rfl) hd)  er8) ?_
    refine wv_if_ne (pc' := 83) (tgt := 91) dX5_read_80 (by decide) rfl (fun c9 => ?_) (fun c9 => ?_)
    · have h := (if_neg c9).symm.trans h
      refine wv_inc (pc' := 94) (x := x3) (L' := [some (.inr 1), some (.inr h1), some (.inr h2), some (.inl (x3 + (1 : Int32))), some (.inl s0)]) dX5_read_91 ic_1 rfl (by decide) rfl rfl ?_
      refine wv_goto (pc' := 11) dX5_read_94 (by decide) ?_
      refine wv_weak (L' := [some (.inr 1), some (.inr h1), some (.inr h2), some (.inl (x3 + (1 : Int32))), none]) ⟨rfl, rfl, rfl, rfl, trivial⟩ ?_
      exact hrec _ _ h
    · have h := (if_pos c9).symm.trans h
      refine wv_bipush (pc' := 85) dX5_read_83 bp_m10 rfl ?_
      refine wv_aload_n (pc' := 86) (i := 0) (v := 1) dX5_read_85 rfl rfl rfl ?_
      refine wv_gi (pc' := 89) g_X5_30_1 dX5_read_86 rfl ?_
      refine wv_isub (pc' := 90) dX5_read_89 rfl ?_
      exact wv_ireturn rfl dX5_read_90 (wd_liv h)
set_option maxRecDepth 100000 in
set_option maxHeartbeats 4000000 in
theorem t_X5_read_b59 (G : wd_G) (d : Nat) (hd : 5 ≤ d) {out : Int32 × wd_Mem} (rec : Int32 → wd_Mem → Option (Int32 × wd_Mem)) (k : wd_Mem → Option (Int32 × wd_Mem)) (h1 : Nat) (h2 : Nat) (μ : wd_Mem) (x3 : Int32) (w1 : wd_isT h1) (w2 : wd_isW h2) (hrec : ∀ (x3 : Int32) (μ : wd_Mem), rec x3 μ = some out → wd_V G (d + 1) RX5 cX5_read 5 (some .int) (fun r u => r = some (.inl out.1) ∧ u = out.2) 11 [some (.inr 1), some (.inr h1), some (.inr h2), some (.inl x3), none] [] μ) (hk : ∀  (μ : wd_Mem), k μ = some out → wd_V G (d + 1) RX5 cX5_read 5 (some .int) (fun r u => r = some (.inl out.1) ∧ u = out.2) 97 [some (.inr 1), some (.inr h1), some (.inr h2), none, none] [] μ) (h : X5_read_b59 rec k h1 h2 μ x3 = some out) : wd_V G (d + 1) RX5 cX5_read 5 (some .int) (fun r u => r = some (.inl out.1) ∧ u = out.2) 59 [some (.inr 1), some (.inr h1), some (.inr h2), some (.inl x3), none] [] μ := by
  unfold X5_read_b59 at h
  refine wv_iconst (pc' := 60) dX5_read_59 ic_0 rfl ?_
  refine wv_goto (pc' := 69) dX5_read_60 (by decide) ?_
  exact t_X5_read_b69 G d hd rec k h1 h2 μ x3 (0 : Int32) w1 w2 hrec hk h
set_option maxRecDepth 100000 in
set_option maxHeartbeats 4000000 in
theorem t_X5_read_c11 (G : wd_G) (d : Nat) (hd : 5 ≤ d) {out : Int32 × wd_Mem} (rec : Int32 → wd_Mem → Option (Int32 × wd_Mem)) (k : wd_Mem → Option (Int32 × wd_Mem)) (h1 : Nat) (h2 : Nat) (μ : wd_Mem) (x3 : Int32) (w1 : wd_isT h1) (w2 : wd_isW h2) (hrec : ∀ (x3 : Int32) (μ : wd_Mem), rec x3 μ = some out → wd_V G (d + 1) RX5 cX5_read 5 (some .int) (fun r u => r = some (.inl out.1) ∧ u = out.2) 11 [some (.inr 1), some (.inr h1), some (.inr h2), some (.inl x3), none] [] μ) (hk : ∀  (μ : wd_Mem), k μ = some out → wd_V G (d + 1) RX5 cX5_read 5 (some .int) (fun r u => r = some (.inl out.1) ∧ u = out.2) 97 [some (.inr 1), some (.inr h1), some (.inr h2), none, none] [] μ) (h : X5_read_c11 rec k h1 h2 μ x3 = some out) : wd_V G (d + 1) RX5 cX5_read 5 (some .int) (fun r u => r = some (.inl out.1) ∧ u = out.2) 11 [some (.inr 1), some (.inr h1), some (.inr h2), some (.inl x3), none] [] μ := by
  unfold X5_read_c11 at h
  refine wv_iload_n (pc' := 12) (i := 3) (v := x3) dX5_read_11 rfl rfl rfl ?_
  refine wv_bipush (pc' := 14) dX5_read_12 bp_100 rfl ?_
  refine wv_icmp_gt (pc' := 17) (tgt := 97) dX5_read_14 (by decide) rfl (fun c2 => ?_) (fun c2 => ?_)
  · have h := (if_pos c2).symm.trans h
    refine wv_weak (L' := [some (.inr 1), some (.inr h1), some (.inr h2), none, none]) ⟨rfl, rfl, rfl, trivial⟩ ?_
    exact hk _ h
  · have h := (if_neg c2).symm.trans h
    refine wv_aload_n (pc' := 18) (i := 0) (v := 1) dX5_read_17 rfl rfl rfl ?_
    obtain ⟨r3, er3, h⟩ := wd_bind_some h
    refine wv_callVv (pc' := 21) (ν := r3) [] ml_X5_27 rc_1 rfl (Nat.le_of_ble_eq_true rfl) dX5_read_18 rfl (c_X5_nextToken G d (Nat.le_trans (Nat.le_of_ble_eq_true rfl) hd)  er3) ?_
    refine wv_aload_n (pc' := 22) (i := 0) (v := 1) dX5_read_21 rfl rfl rfl ?_
    refine wv_gi (pc' := 25) g_X5_30_1 dX5_read_22 rfl ?_
    refine wv_aload_n (pc' := 26) (i := 0) (v := 1) dX5_read_25 rfl rfl rfl ?_
    refine wv_gi (pc' := 29) g_X5_15_1 dX5_read_26 rfl ?_
    refine wv_icmp_lt (pc' := 32) (tgt := 34) dX5_read_29 (by decide) rfl (fun c4 => ?_) (fun c4 => ?_)
    · have h := (if_pos c4).symm.trans h
      refine wv_aload_n (pc' := 35) (i := 0) (v := 1) dX5_read_34 rfl rfl rfl ?_
      refine wv_gi (pc' := 38) g_X5_33_1 dX5_read_35 rfl ?_
      refine wv_bipush (pc' := 40) dX5_read_38 bp_99 rfl ?_
      refine wv_icmp_ne (pc' := 43) (tgt := 63) dX5_read_40 (by decide) rfl (fun c5 => ?_) (fun c5 => ?_)
      · have h := (if_neg c5).symm.trans h
        refine wv_aload_n (pc' := 64) (i := 0) (v := 1) dX5_read_63 rfl rfl rfl ?_
        refine wv_aload_n (pc' := 65) (i := 1) (v := h1) dX5_read_64 rfl rfl rfl ?_
        refine wv_aload_n (pc' := 66) (i := 2) (v := h2) dX5_read_65 rfl rfl rfl ?_
        obtain ⟨r6, er6, h⟩ := wd_bind_some h
        refine wv_callVi (pc' := 69) (x := r6.1) (ν := r6.2) [.inr h1, .inr h2] ml_X5_40 rc_1 rfl (Nat.le_of_ble_eq_true rfl) dX5_read_66 rfl (c_X5_readTask G d (Nat.le_trans (Nat.le_of_ble_eq_true rfl) hd) w1 w2 er6) ?_
        exact t_X5_read_b69 G d hd rec k h1 h2 r6.2 x3 r6.1 w1 w2 hrec hk h
      · have h := (if_pos c5).symm.trans h
        refine wv_iload_n (pc' := 44) (i := 3) (v := x3) dX5_read_43 rfl rfl rfl ?_
        refine wv_if_ne (pc' := 47) (tgt := 59) dX5_read_44 (by decide) rfl (fun c10 => ?_) (fun c10 => ?_)
        · have h := (if_neg c10).symm.trans h
          exact t_X5_read_b59 G d hd rec k h1 h2 r3 x3 w1 w2 hrec hk h
        · have h := (if_pos c10).symm.trans h
          refine wv_aload_n (pc' := 48) (i := 0) (v := 1) dX5_read_47 rfl rfl rfl ?_
          refine wv_aload_n (pc' := 49) (i := 1) (v := h1) dX5_read_48 rfl rfl rfl ?_
          obtain ⟨r11, er11, h⟩ := wd_bind_some h
          refine wv_callVi (pc' := 52) (x := r11.1) (ν := r11.2) [.inr h1] ml_X5_36 rc_1 rfl (Nat.le_of_ble_eq_true rfl) dX5_read_49 rfl (c_X5_readRoom G d (Nat.le_trans (Nat.le_of_ble_eq_true rfl) hd) w1 er11) ?_
          refine wv_if_eq (pc' := 55) (tgt := 59) dX5_read_52 (by decide) rfl (fun c12 => ?_) (fun c12 => ?_)
          · have h := (if_pos c12).symm.trans h
            exact t_X5_read_b59 G d hd rec k h1 h2 r11.2 x3 w1 w2 hrec hk h
          · have h := (if_neg c12).symm.trans h
            refine wv_iconst (pc' := 56) dX5_read_55 ic_1 rfl ?_
            refine wv_goto (pc' := 69) dX5_read_56 (by decide) ?_
            exact t_X5_read_b69 G d hd rec k h1 h2 r11.2 x3 (1 : Int32) w1 w2 hrec hk h
    · have h := (if_neg c4).symm.trans h
      refine wv_iload_n (pc' := 33) (i := 3) (v := x3) dX5_read_32 rfl rfl rfl ?_
      exact wv_ireturn rfl dX5_read_33 (wd_liv h)
set_option maxRecDepth 100000 in
set_option maxHeartbeats 4000000 in
theorem t_X5_read_l11 (G : wd_G) (d : Nat) (hd : 5 ≤ d) {out : Int32 × wd_Mem} (k : wd_Mem → Option (Int32 × wd_Mem)) (h1 : Nat) (h2 : Nat) (w1 : wd_isT h1) (w2 : wd_isW h2) (hk : ∀  (μ : wd_Mem), k μ = some out → wd_V G (d + 1) RX5 cX5_read 5 (some .int) (fun r u => r = some (.inl out.1) ∧ u = out.2) 97 [some (.inr 1), some (.inr h1), some (.inr h2), none, none] [] μ) : ∀ (n : Nat) (x3 : Int32) (μ : wd_Mem), X5_read_l11 k h1 h2 n x3 μ = some out → wd_V G (d + 1) RX5 cX5_read 5 (some .int) (fun r u => r = some (.inl out.1) ∧ u = out.2) 11 [some (.inr 1), some (.inr h1), some (.inr h2), some (.inl x3), none] [] μ := by
  intro n
  induction n with
  | zero => intro x3 μ h; exact absurd h (by unfold X5_read_l11; simp)
  | succ n ih =>
    intro x3 μ h
    exact t_X5_read_c11 G d hd (X5_read_l11 k h1 h2 n) k h1 h2 μ x3 w1 w2 (fun x3 μ h => ih x3 μ h) hk h
set_option maxRecDepth 100000 in
set_option maxHeartbeats 4000000 in
theorem t_X5_read_b97 (G : wd_G) (d : Nat) (hd : 5 ≤ d) {out : Int32 × wd_Mem} (h1 : Nat) (h2 : Nat) (μ : wd_Mem) (w1 : wd_isT h1) (w2 : wd_isW h2) (h : X5_read_b97 h1 h2 μ = some out) : wd_V G (d + 1) RX5 cX5_read 5 (some .int) (fun r u => r = some (.inl out.1) ∧ u = out.2) 97 [some (.inr 1), some (.inr h1), some (.inr h2), none, none] [] μ := by
  unfold X5_read_b97 at h
  refine wv_bipush (pc' := 99) dX5_read_97 bp_m10 rfl ?_
  refine wv_aload_n (pc' := 100) (i := 0) (v := 1) dX5_read_99 rfl rfl rfl ?_
  refine wv_gi (pc' := 103) g_X5_15_1 dX5_read_100 rfl ?_
  refine wv_isub (pc' := 104) dX5_read_103 rfl ?_
  exact wv_ireturn rfl dX5_read_104 (wd_liv h)
set_option maxRecDepth 100000 in
set_option maxHeartbeats 4000000 in
theorem t_X5_read_b0 (G : wd_G) (d : Nat) (hd : 5 ≤ d) {out : Int32 × wd_Mem} (h1 : Nat) (h2 : Nat) (μ : wd_Mem) (w1 : wd_isT h1) (w2 : wd_isW h2) (h : X5_read_b0 h1 h2 μ = some out) : wd_V G (d + 1) RX5 cX5_read 5 (some .int) (fun r u => r = some (.inl out.1) ∧ u = out.2) 0 [some (.inr 1), some (.inr h1), some (.inr h2), none, none] [] μ := by
  unfold X5_read_b0 at h
  refine wv_aload_n (pc' := 1) (i := 1) (v := h1) dX5_read_0 rfl rfl rfl ?_
  obtain ⟨r1, er1, h⟩ := wd_bind_some h
  refine wv_callVv (pc' := 4) (ν := r1) [] ml_X5_19 (wd_rcT w1) rfl (Nat.le_of_ble_eq_true rfl) dX5_read_1 rfl (c_X4_forget G d (Nat.le_trans (Nat.le_of_ble_eq_true rfl) hd) w1 er1) ?_
  refine wv_aload_n (pc' := 5) (i := 0) (v := 1) dX5_read_4 rfl rfl rfl ?_
  refine wv_iconst (pc' := 6) dX5_read_5 ic_0 rfl ?_
  refine wv_pi (pc' := 9) p_X5_24_1 dX5_read_6 rfl ?_
  refine wv_iconst (pc' := 10) dX5_read_9 ic_0 rfl ?_
  refine wv_istore_n (pc' := 11) (i := 3) (L' := [some (.inr 1), some (.inr h1), some (.inr h2), some (.inl (0 : Int32)), none]) dX5_read_10 rfl (by decide) rfl rfl ?_
  exact t_X5_read_l11 G d hd (fun μ => X5_read_b97 h1 h2 μ) h1 h2 w1 w2 (fun μ h => t_X5_read_b97 G d hd h1 h2 μ w1 w2 h) wd_big (0 : Int32) (mset r1 1 2 (0 : Int32)) h
set_option maxRecDepth 100000 in
set_option maxHeartbeats 4000000 in
theorem c_X5_read (G : wd_G) (d : Nat) (hd : 6 ≤ d) {h1 : Nat} {h2 : Nat} {μ : wd_Mem} {out : Int32 × wd_Mem} (w1 : wd_isT h1) (w2 : wd_isW h2) (h : X5_read h1 h2 μ = some out) : wd_C G d yX5_read [.inr 1, .inr h1, .inr h2] μ (fun r u => r = some (.inl out.1) ∧ u = out.2) := by
  obtain ⟨d, rfl⟩ : ∃ e, d = e + 1 := ⟨d - 1, by omega⟩
  refine wd_enter mc_X5_read (by decide) (by decide +kernel) rfl (Nat.le_of_ble_eq_true rfl) (L0 := [some (.inr 1), some (.inr h1), some (.inr h2), none, none]) rfl ?_
  exact t_X5_read_b0 G d (by omega) h1 h2 μ  w1 w2 h
set_option maxRecDepth 100000 in
set_option maxHeartbeats 4000000 in
theorem t_X4_take_c18 (G : wd_G) (d : Nat) (hd : 0 ≤ d) {out : wd_Mem} (rec : Int32 → wd_Mem → Option (wd_Mem)) (k : wd_Mem → Option (wd_Mem)) (h0 : Nat) (h1 : Nat) (μ : wd_Mem) (x2 : Int32) (w0 : wd_isT h0) (w1 : wd_isT h1) (hrec : ∀ (x2 : Int32) (μ : wd_Mem), rec x2 μ = some out → wd_V G (d + 1) RX4 cX4_take 3 none (fun r u => r = none ∧ u = out) 18 [some (.inr h0), some (.inr h1), some (.inl x2)] [] μ) (hk : ∀  (μ : wd_Mem), k μ = some out → wd_V G (d + 1) RX4 cX4_take 3 none (fun r u => r = none ∧ u = out) 53 [some (.inr h0), some (.inr h1), none] [] μ) (h : X4_take_c18 rec k h0 h1 μ x2 = some out) : wd_V G (d + 1) RX4 cX4_take 3 none (fun r u => r = none ∧ u = out) 18 [some (.inr h0), some (.inr h1), some (.inl x2)] [] μ := by
  unfold X4_take_c18 at h
  refine wv_iload_n (pc' := 19) (i := 2) (v := x2) dX4_take_18 rfl rfl rfl ?_
  refine wv_iconst (pc' := 20) dX4_take_19 ic_5 rfl ?_
  refine wv_icmp_ge (pc' := 23) (tgt := 53) dX4_take_20 (by decide) rfl (fun c1 => ?_) (fun c1 => ?_)
  · have h := (if_pos c1).symm.trans h
    refine wv_weak (L' := [some (.inr h0), some (.inr h1), none]) ⟨rfl, rfl, trivial⟩ ?_
    exact hk _ h
  · have h := (if_neg c1).symm.trans h
    refine wv_aload_n (pc' := 24) (i := 0) (v := h0) dX4_take_23 rfl rfl rfl ?_
    refine wv_gr (pc' := 27) (g_X4_15_T w0) dX4_take_24 rfl ?_
    refine wv_iload_n (pc' := 28) (i := 2) (v := x2) dX4_take_27 rfl rfl rfl ?_
    refine wv_aload_n (pc' := 29) (i := 1) (v := h1) dX4_take_28 rfl rfl rfl ?_
    refine wv_gr (pc' := 32) (g_X4_15_T w1) dX4_take_29 rfl ?_
    refine wv_iload_n (pc' := 33) (i := 2) (v := x2) dX4_take_32 rfl rfl rfl ?_
    obtain ⟨g2, h⟩ := wd_chk_some h
    refine wv_iald (pc' := 34) (wd_shT w1).2.1 (wd_in_vp g2) dX4_take_33 rfl ?_
    refine wv_iast (pc' := 35) (wd_shT w0).2.1 (wd_in_vp g2) dX4_take_34 rfl ?_
    refine wv_aload_n (pc' := 36) (i := 0) (v := h0) dX4_take_35 rfl rfl rfl ?_
    refine wv_gr (pc' := 39) (g_X4_19_T w0) dX4_take_36 rfl ?_
    refine wv_iload_n (pc' := 40) (i := 2) (v := x2) dX4_take_39 rfl rfl rfl ?_
    refine wv_aload_n (pc' := 41) (i := 1) (v := h1) dX4_take_40 rfl rfl rfl ?_
    refine wv_gr (pc' := 44) (g_X4_19_T w1) dX4_take_41 rfl ?_
    refine wv_iload_n (pc' := 45) (i := 2) (v := x2) dX4_take_44 rfl rfl rfl ?_
    refine wv_iald (pc' := 46) (wd_shT w1).2.2 (wd_in_vp g2) dX4_take_45 rfl ?_
    refine wv_iast (pc' := 47) (wd_shT w0).2.2 (wd_in_vp g2) dX4_take_46 rfl ?_
    refine wv_inc (pc' := 50) (x := x2) (L' := [some (.inr h0), some (.inr h1), some (.inl (x2 + (1 : Int32)))]) dX4_take_47 ic_1 rfl (by decide) rfl rfl ?_
    refine wv_goto (pc' := 18) dX4_take_50 (by decide) ?_
    exact hrec _ _ h
set_option maxRecDepth 100000 in
set_option maxHeartbeats 4000000 in
theorem t_X4_take_l18 (G : wd_G) (d : Nat) (hd : 0 ≤ d) {out : wd_Mem} (k : wd_Mem → Option (wd_Mem)) (h0 : Nat) (h1 : Nat) (w0 : wd_isT h0) (w1 : wd_isT h1) (hk : ∀  (μ : wd_Mem), k μ = some out → wd_V G (d + 1) RX4 cX4_take 3 none (fun r u => r = none ∧ u = out) 53 [some (.inr h0), some (.inr h1), none] [] μ) : ∀ (n : Nat) (x2 : Int32) (μ : wd_Mem), X4_take_l18 k h0 h1 n x2 μ = some out → wd_V G (d + 1) RX4 cX4_take 3 none (fun r u => r = none ∧ u = out) 18 [some (.inr h0), some (.inr h1), some (.inl x2)] [] μ := by
  intro n
  induction n with
  | zero => intro x2 μ h; exact absurd h (by unfold X4_take_l18; simp)
  | succ n ih =>
    intro x2 μ h
    exact t_X4_take_c18 G d hd (X4_take_l18 k h0 h1 n) k h0 h1 μ x2 w0 w1 (fun x2 μ h => ih x2 μ h) hk h
set_option maxRecDepth 100000 in
set_option maxHeartbeats 4000000 in
theorem t_X4_take_b53 (G : wd_G) (d : Nat) (hd : 0 ≤ d) {out : wd_Mem} (h0 : Nat) (h1 : Nat) (μ : wd_Mem) (w0 : wd_isT h0) (w1 : wd_isT h1) (h : X4_take_b53 h0 h1 μ = some out) : wd_V G (d + 1) RX4 cX4_take 3 none (fun r u => r = none ∧ u = out) 53 [some (.inr h0), some (.inr h1), none] [] μ := by
  unfold X4_take_b53 at h
  exact wv_return rfl dX4_take_53 (wd_lv h)
set_option maxRecDepth 100000 in
set_option maxHeartbeats 4000000 in
theorem t_X4_take_b0 (G : wd_G) (d : Nat) (hd : 0 ≤ d) {out : wd_Mem} (h0 : Nat) (h1 : Nat) (μ : wd_Mem) (w0 : wd_isT h0) (w1 : wd_isT h1) (h : X4_take_b0 h0 h1 μ = some out) : wd_V G (d + 1) RX4 cX4_take 3 none (fun r u => r = none ∧ u = out) 0 [some (.inr h0), some (.inr h1), none] [] μ := by
  unfold X4_take_b0 at h
  refine wv_aload_n (pc' := 1) (i := 0) (v := h0) dX4_take_0 rfl rfl rfl ?_
  refine wv_aload_n (pc' := 2) (i := 1) (v := h1) dX4_take_1 rfl rfl rfl ?_
  refine wv_gi (pc' := 5) (g_X4_9_T w1) dX4_take_2 rfl ?_
  refine wv_pi (pc' := 8) (p_X4_9_T w0) dX4_take_5 rfl ?_
  refine wv_aload_n (pc' := 9) (i := 0) (v := h0) dX4_take_8 rfl rfl rfl ?_
  refine wv_aload_n (pc' := 10) (i := 1) (v := h1) dX4_take_9 rfl rfl rfl ?_
  refine wv_gi (pc' := 13) (g_X4_22_T w1) dX4_take_10 rfl ?_
  refine wv_pi (pc' := 16) (p_X4_22_T w0) dX4_take_13 rfl ?_
  refine wv_iconst (pc' := 17) dX4_take_16 ic_0 rfl ?_
  refine wv_istore_n (pc' := 18) (i := 2) (L' := [some (.inr h0), some (.inr h1), some (.inl (0 : Int32))]) dX4_take_17 rfl (by decide) rfl rfl ?_
  exact t_X4_take_l18 G d hd (fun μ => X4_take_b53 h0 h1 μ) h0 h1 w0 w1 (fun μ h => t_X4_take_b53 G d hd h0 h1 μ w0 w1 h) wd_big (0 : Int32) (mset (mset μ h0 0 (μ h1 0)) h0 1 ((mset μ h0 0 (μ h1 0)) h1 1)) h
set_option maxRecDepth 100000 in
set_option maxHeartbeats 4000000 in
theorem c_X4_take (G : wd_G) (d : Nat) (hd : 1 ≤ d) {h0 : Nat} {h1 : Nat} {μ : wd_Mem} {out : wd_Mem} (w0 : wd_isT h0) (w1 : wd_isT h1) (h : X4_take h0 h1 μ = some out) : wd_C G d yX4_take [.inr h0, .inr h1] μ (fun r u => r = none ∧ u = out) := by
  obtain ⟨d, rfl⟩ : ∃ e, d = e + 1 := ⟨d - 1, by omega⟩
  refine wd_enter mc_X4_take (by decide) (by decide +kernel) rfl (Nat.le_of_ble_eq_true rfl) (L0 := [some (.inr h0), some (.inr h1), none]) rfl ?_
  exact t_X4_take_b0 G d (by omega) h0 h1 μ  w0 w1 h
set_option maxRecDepth 100000 in
set_option maxHeartbeats 4000000 in
theorem t_X6_take_c2 (G : wd_G) (d : Nat) (hd : 0 ≤ d) {out : wd_Mem} (rec : Int32 → wd_Mem → Option (wd_Mem)) (k : wd_Mem → Option (wd_Mem)) (h0 : Nat) (h1 : Nat) (μ : wd_Mem) (x2 : Int32) (w0 : wd_isW h0) (w1 : wd_isW h1) (hrec : ∀ (x2 : Int32) (μ : wd_Mem), rec x2 μ = some out → wd_V G (d + 1) RX6 cX6_take 3 none (fun r u => r = none ∧ u = out) 2 [some (.inr h0), some (.inr h1), some (.inl x2)] [] μ) (hk : ∀  (μ : wd_Mem), k μ = some out → wd_V G (d + 1) RX6 cX6_take 3 none (fun r u => r = none ∧ u = out) 50 [some (.inr h0), some (.inr h1), none] [] μ) (h : X6_take_c2 rec k h0 h1 μ x2 = some out) : wd_V G (d + 1) RX6 cX6_take 3 none (fun r u => r = none ∧ u = out) 2 [some (.inr h0), some (.inr h1), some (.inl x2)] [] μ := by
  unfold X6_take_c2 at h
  refine wv_iload_n (pc' := 3) (i := 2) (v := x2) dX6_take_2 rfl rfl rfl ?_
  refine wv_bipush (pc' := 5) dX6_take_3 bp_10 rfl ?_
  refine wv_icmp_ge (pc' := 8) (tgt := 50) dX6_take_5 (by decide) rfl (fun c1 => ?_) (fun c1 => ?_)
  · have h := (if_pos c1).symm.trans h
    refine wv_weak (L' := [some (.inr h0), some (.inr h1), none]) ⟨rfl, rfl, trivial⟩ ?_
    exact hk _ h
  · have h := (if_neg c1).symm.trans h
    refine wv_aload_n (pc' := 9) (i := 0) (v := h0) dX6_take_8 rfl rfl rfl ?_
    refine wv_gr (pc' := 12) (g_X6_11_W w0) dX6_take_9 rfl ?_
    refine wv_iload_n (pc' := 13) (i := 2) (v := x2) dX6_take_12 rfl rfl rfl ?_
    refine wv_aload_n (pc' := 14) (i := 1) (v := h1) dX6_take_13 rfl rfl rfl ?_
    refine wv_gr (pc' := 17) (g_X6_11_W w1) dX6_take_14 rfl ?_
    refine wv_iload_n (pc' := 18) (i := 2) (v := x2) dX6_take_17 rfl rfl rfl ?_
    obtain ⟨g2, h⟩ := wd_chk_some h
    refine wv_iald (pc' := 19) (wd_shW w1).2.1 (wd_in_vp g2) dX6_take_18 rfl ?_
    refine wv_iast (pc' := 20) (wd_shW w0).2.1 (wd_in_vp g2) dX6_take_19 rfl ?_
    refine wv_aload_n (pc' := 21) (i := 0) (v := h0) dX6_take_20 rfl rfl rfl ?_
    refine wv_gr (pc' := 24) (g_X6_15_W w0) dX6_take_21 rfl ?_
    refine wv_iload_n (pc' := 25) (i := 2) (v := x2) dX6_take_24 rfl rfl rfl ?_
    refine wv_aload_n (pc' := 26) (i := 1) (v := h1) dX6_take_25 rfl rfl rfl ?_
    refine wv_gr (pc' := 29) (g_X6_15_W w1) dX6_take_26 rfl ?_
    refine wv_iload_n (pc' := 30) (i := 2) (v := x2) dX6_take_29 rfl rfl rfl ?_
    refine wv_iald (pc' := 31) (wd_shW w1).2.2.1 (wd_in_vp g2) dX6_take_30 rfl ?_
    refine wv_iast (pc' := 32) (wd_shW w0).2.2.1 (wd_in_vp g2) dX6_take_31 rfl ?_
    refine wv_aload_n (pc' := 33) (i := 0) (v := h0) dX6_take_32 rfl rfl rfl ?_
    refine wv_gr (pc' := 36) (g_X6_18_W w0) dX6_take_33 rfl ?_
    refine wv_iload_n (pc' := 37) (i := 2) (v := x2) dX6_take_36 rfl rfl rfl ?_
    refine wv_aload_n (pc' := 38) (i := 1) (v := h1) dX6_take_37 rfl rfl rfl ?_
    refine wv_gr (pc' := 41) (g_X6_18_W w1) dX6_take_38 rfl ?_
    refine wv_iload_n (pc' := 42) (i := 2) (v := x2) dX6_take_41 rfl rfl rfl ?_
    refine wv_iald (pc' := 43) (wd_shW w1).2.2.2 (wd_in_vp g2) dX6_take_42 rfl ?_
    refine wv_iast (pc' := 44) (wd_shW w0).2.2.2 (wd_in_vp g2) dX6_take_43 rfl ?_
    refine wv_inc (pc' := 47) (x := x2) (L' := [some (.inr h0), some (.inr h1), some (.inl (x2 + (1 : Int32)))]) dX6_take_44 ic_1 rfl (by decide) rfl rfl ?_
    refine wv_goto (pc' := 2) dX6_take_47 (by decide) ?_
    exact hrec _ _ h
set_option maxRecDepth 100000 in
set_option maxHeartbeats 4000000 in
theorem t_X6_take_l2 (G : wd_G) (d : Nat) (hd : 0 ≤ d) {out : wd_Mem} (k : wd_Mem → Option (wd_Mem)) (h0 : Nat) (h1 : Nat) (w0 : wd_isW h0) (w1 : wd_isW h1) (hk : ∀  (μ : wd_Mem), k μ = some out → wd_V G (d + 1) RX6 cX6_take 3 none (fun r u => r = none ∧ u = out) 50 [some (.inr h0), some (.inr h1), none] [] μ) : ∀ (n : Nat) (x2 : Int32) (μ : wd_Mem), X6_take_l2 k h0 h1 n x2 μ = some out → wd_V G (d + 1) RX6 cX6_take 3 none (fun r u => r = none ∧ u = out) 2 [some (.inr h0), some (.inr h1), some (.inl x2)] [] μ := by
  intro n
  induction n with
  | zero => intro x2 μ h; exact absurd h (by unfold X6_take_l2; simp)
  | succ n ih =>
    intro x2 μ h
    exact t_X6_take_c2 G d hd (X6_take_l2 k h0 h1 n) k h0 h1 μ x2 w0 w1 (fun x2 μ h => ih x2 μ h) hk h
set_option maxRecDepth 100000 in
set_option maxHeartbeats 4000000 in
theorem t_X6_take_b50 (G : wd_G) (d : Nat) (hd : 0 ≤ d) {out : wd_Mem} (h0 : Nat) (h1 : Nat) (μ : wd_Mem) (w0 : wd_isW h0) (w1 : wd_isW h1) (h : X6_take_b50 h0 h1 μ = some out) : wd_V G (d + 1) RX6 cX6_take 3 none (fun r u => r = none ∧ u = out) 50 [some (.inr h0), some (.inr h1), none] [] μ := by
  unfold X6_take_b50 at h
  exact wv_return rfl dX6_take_50 (wd_lv h)
set_option maxRecDepth 100000 in
set_option maxHeartbeats 4000000 in
theorem t_X6_take_b0 (G : wd_G) (d : Nat) (hd : 0 ≤ d) {out : wd_Mem} (h0 : Nat) (h1 : Nat) (μ : wd_Mem) (w0 : wd_isW h0) (w1 : wd_isW h1) (h : X6_take_b0 h0 h1 μ = some out) : wd_V G (d + 1) RX6 cX6_take 3 none (fun r u => r = none ∧ u = out) 0 [some (.inr h0), some (.inr h1), none] [] μ := by
  unfold X6_take_b0 at h
  refine wv_iconst (pc' := 1) dX6_take_0 ic_0 rfl ?_
  refine wv_istore_n (pc' := 2) (i := 2) (L' := [some (.inr h0), some (.inr h1), some (.inl (0 : Int32))]) dX6_take_1 rfl (by decide) rfl rfl ?_
  exact t_X6_take_l2 G d hd (fun μ => X6_take_b50 h0 h1 μ) h0 h1 w0 w1 (fun μ h => t_X6_take_b50 G d hd h0 h1 μ w0 w1 h) wd_big (0 : Int32) μ h
set_option maxRecDepth 100000 in
set_option maxHeartbeats 4000000 in
theorem c_X6_take (G : wd_G) (d : Nat) (hd : 1 ≤ d) {h0 : Nat} {h1 : Nat} {μ : wd_Mem} {out : wd_Mem} (w0 : wd_isW h0) (w1 : wd_isW h1) (h : X6_take h0 h1 μ = some out) : wd_C G d yX6_take [.inr h0, .inr h1] μ (fun r u => r = none ∧ u = out) := by
  obtain ⟨d, rfl⟩ : ∃ e, d = e + 1 := ⟨d - 1, by omega⟩
  refine wd_enter mc_X6_take (by decide) (by decide +kernel) rfl (Nat.le_of_ble_eq_true rfl) (L0 := [some (.inr h0), some (.inr h1), none]) rfl ?_
  exact t_X6_take_b0 G d (by omega) h0 h1 μ  w0 w1 h
set_option maxRecDepth 100000 in
set_option maxHeartbeats 4000000 in
theorem t_X7_desk_c62 (G : wd_G) (d : Nat) (hd : 6 ≤ d) {out : Int32 × wd_Mem} (rec : Int32 → wd_Mem → Option (Int32 × wd_Mem)) (k : wd_Mem → Option (Int32 × wd_Mem)) (μ : wd_Mem) (x1 x2 : Int32) (hrec : ∀ (x2 : Int32) (μ : wd_Mem), rec x2 μ = some out → wd_V G (d + 1) RX7 cX7_desk 3 (some .int) (fun r u => r = some (.inl out.1) ∧ u = out.2) 62 [some (.inr 0), some (.inl x1), some (.inl x2)] [] μ) (hk : ∀  (μ : wd_Mem), k μ = some out → wd_V G (d + 1) RX7 cX7_desk 3 (some .int) (fun r u => r = some (.inl out.1) ∧ u = out.2) 80 [some (.inr 0), some (.inl x1), none] [] μ) (h : X7_desk_c62 rec k μ x1 x2 = some out) : wd_V G (d + 1) RX7 cX7_desk 3 (some .int) (fun r u => r = some (.inl out.1) ∧ u = out.2) 62 [some (.inr 0), some (.inl x1), some (.inl x2)] [] μ := by
  unfold X7_desk_c62 at h
  refine wv_iload_n (pc' := 63) (i := 2) (v := x2) dX7_desk_62 rfl rfl rfl ?_
  refine wv_iconst (pc' := 64) dX7_desk_63 ic_2 rfl ?_
  refine wv_icmp_ge (pc' := 67) (tgt := 80) dX7_desk_64 (by decide) rfl (fun c5 => ?_) (fun c5 => ?_)
  · have h := (if_pos c5).symm.trans h
    refine wv_weak (L' := [some (.inr 0), some (.inl x1), none]) ⟨rfl, rfl, trivial⟩ ?_
    exact hk _ h
  · have h := (if_neg c5).symm.trans h
    refine wv_aload_n (pc' := 68) (i := 0) (v := 0) dX7_desk_67 rfl rfl rfl ?_
    refine wv_gr (pc' := 71) g_X7_40_0 dX7_desk_68 rfl ?_
    refine wv_iload_n (pc' := 72) (i := 2) (v := x2) dX7_desk_71 rfl rfl rfl ?_
    refine wv_iconst (pc' := 73) dX7_desk_72 ic_0 rfl ?_
    obtain ⟨g6, h⟩ := wd_chk_some h
    refine wv_zast (pc' := 74) sa_30 (wd_in_vp g6) dX7_desk_73 rfl ?_
    refine wv_inc (pc' := 77) (x := x2) (L' := [some (.inr 0), some (.inl x1), some (.inl (x2 + (1 : Int32)))]) dX7_desk_74 ic_1 rfl (by decide) rfl rfl ?_
    refine wv_goto (pc' := 62) dX7_desk_77 (by decide) ?_
    exact hrec _ _ h
set_option maxRecDepth 100000 in
set_option maxHeartbeats 4000000 in
theorem t_X7_desk_l62 (G : wd_G) (d : Nat) (hd : 6 ≤ d) {out : Int32 × wd_Mem} (k : wd_Mem → Option (Int32 × wd_Mem)) (x1 : Int32) (hk : ∀  (μ : wd_Mem), k μ = some out → wd_V G (d + 1) RX7 cX7_desk 3 (some .int) (fun r u => r = some (.inl out.1) ∧ u = out.2) 80 [some (.inr 0), some (.inl x1), none] [] μ) : ∀ (n : Nat) (x2 : Int32) (μ : wd_Mem), X7_desk_l62 k x1 n x2 μ = some out → wd_V G (d + 1) RX7 cX7_desk 3 (some .int) (fun r u => r = some (.inl out.1) ∧ u = out.2) 62 [some (.inr 0), some (.inl x1), some (.inl x2)] [] μ := by
  intro n
  induction n with
  | zero => intro x2 μ h; exact absurd h (by unfold X7_desk_l62; simp)
  | succ n ih =>
    intro x2 μ h
    exact t_X7_desk_c62 G d hd (X7_desk_l62 k x1 n) k μ x1 x2  (fun x2 μ h => ih x2 μ h) hk h
set_option maxRecDepth 100000 in
set_option maxHeartbeats 4000000 in
theorem t_X7_desk_b80 (G : wd_G) (d : Nat) (hd : 6 ≤ d) {out : Int32 × wd_Mem} (μ : wd_Mem) (x1 : Int32)  (h : X7_desk_b80 μ x1 = some out) : wd_V G (d + 1) RX7 cX7_desk 3 (some .int) (fun r u => r = some (.inl out.1) ∧ u = out.2) 80 [some (.inr 0), some (.inl x1), none] [] μ := by
  unfold X7_desk_b80 at h
  refine wv_iload_n (pc' := 81) (i := 1) (v := x1) dX7_desk_80 rfl rfl rfl ?_
  exact wv_ireturn rfl dX7_desk_81 (wd_liv h)
set_option maxRecDepth 100000 in
set_option maxHeartbeats 4000000 in
theorem t_X7_desk_b0 (G : wd_G) (d : Nat) (hd : 6 ≤ d) {out : Int32 × wd_Mem} (μ : wd_Mem)  (h : X7_desk_b0 μ = some out) : wd_V G (d + 1) RX7 cX7_desk 3 (some .int) (fun r u => r = some (.inl out.1) ∧ u = out.2) 0 [some (.inr 0), none, none] [] μ := by
  unfold X7_desk_b0 at h
  refine wv_aload_n (pc' := 1) (i := 0) (v := 0) dX7_desk_0 rfl rfl rfl ?_
  refine wv_gr (pc' := 4) g_X7_12_0 dX7_desk_1 rfl ?_
  refine wv_aload_n (pc' := 5) (i := 0) (v := 0) dX7_desk_4 rfl rfl rfl ?_
  refine wv_gr (pc' := 8) g_X7_23_0 dX7_desk_5 rfl ?_
  refine wv_aload_n (pc' := 9) (i := 0) (v := 0) dX7_desk_8 rfl rfl rfl ?_
  refine wv_gr (pc' := 12) g_X7_33_0 dX7_desk_9 rfl ?_
  obtain ⟨r1, er1, h⟩ := wd_bind_some h
  refine wv_callVi (pc' := 15) (x := r1.1) (ν := r1.2) [.inr 6, .inr 52] ml_X7_84 rc_1 rfl (Nat.le_of_ble_eq_true rfl) dX7_desk_12 rfl (c_X5_read G d (Nat.le_trans (Nat.le_of_ble_eq_true rfl) hd) (Or.inr rfl) sh_52 er1) ?_
  refine wv_istore_n (pc' := 16) (i := 1) (L' := [some (.inr 0), some (.inl r1.1), none]) dX7_desk_15 rfl (by decide) rfl rfl ?_
  refine wv_iload_n (pc' := 17) (i := 1) (v := r1.1) dX7_desk_16 rfl rfl rfl ?_
  refine wv_if_ge (pc' := 20) (tgt := 22) dX7_desk_17 (by decide) rfl (fun c2 => ?_) (fun c2 => ?_)
  · have h := (if_pos c2).symm.trans h
    refine wv_aload_n (pc' := 23) (i := 0) (v := 0) dX7_desk_22 rfl rfl rfl ?_
    refine wv_gr (pc' := 26) g_X7_19_0 dX7_desk_23 rfl ?_
    refine wv_aload_n (pc' := 27) (i := 0) (v := 0) dX7_desk_26 rfl rfl rfl ?_
    refine wv_gr (pc' := 30) g_X7_23_0 dX7_desk_27 rfl ?_
    obtain ⟨r3, er3, h⟩ := wd_bind_some h
    refine wv_callVv (pc' := 33) (ν := r3) [.inr 6] ml_X7_88 rc_3 rfl (Nat.le_of_ble_eq_true rfl) dX7_desk_30 rfl (c_X4_take G d (Nat.le_trans (Nat.le_of_ble_eq_true rfl) hd) (Or.inl rfl) (Or.inr rfl) er3) ?_
    refine wv_aload_n (pc' := 34) (i := 0) (v := 0) dX7_desk_33 rfl rfl rfl ?_
    refine wv_gr (pc' := 37) g_X7_29_0 dX7_desk_34 rfl ?_
    refine wv_aload_n (pc' := 38) (i := 0) (v := 0) dX7_desk_37 rfl rfl rfl ?_
    refine wv_gr (pc' := 41) g_X7_33_0 dX7_desk_38 rfl ?_
    obtain ⟨r4, er4, h⟩ := wd_bind_some h
    refine wv_callVv (pc' := 44) (ν := r4) [.inr 52] ml_X7_91 (wd_rcW sh_48) rfl (Nat.le_of_ble_eq_true rfl) dX7_desk_41 rfl (c_X6_take G d (Nat.le_trans (Nat.le_of_ble_eq_true rfl) hd) sh_48 sh_52 er4) ?_
    refine wv_aload_n (pc' := 45) (i := 0) (v := 0) dX7_desk_44 rfl rfl rfl ?_
    refine wv_gr (pc' := 48) g_X7_12_0 dX7_desk_45 rfl ?_
    refine wv_iconst (pc' := 49) dX7_desk_48 ic_0 rfl ?_
    refine wv_pi (pc' := 52) p_X7_80_1 dX7_desk_49 rfl ?_
    refine wv_aload_n (pc' := 53) (i := 0) (v := 0) dX7_desk_52 rfl rfl rfl ?_
    refine wv_gr (pc' := 56) g_X7_47_0 dX7_desk_53 rfl ?_
    refine wv_iconst (pc' := 57) dX7_desk_56 ic_0 rfl ?_
    refine wv_pi (pc' := 60) p_X7_94_27 dX7_desk_57 rfl ?_
    refine wv_iconst (pc' := 61) dX7_desk_60 ic_0 rfl ?_
    refine wv_istore_n (pc' := 62) (i := 2) (L' := [some (.inr 0), some (.inl r1.1), some (.inl (0 : Int32))]) dX7_desk_61 rfl (by decide) rfl rfl ?_
    exact t_X7_desk_l62 G d hd (fun μ => X7_desk_b80 μ r1.1) r1.1  (fun μ h => t_X7_desk_b80 G d hd μ r1.1  h) wd_big (0 : Int32) (mset (mset r4 1 1 (0 : Int32)) 27 2 (0 : Int32)) h
  · have h := (if_neg c2).symm.trans h
    refine wv_iload_n (pc' := 21) (i := 1) (v := r1.1) dX7_desk_20 rfl rfl rfl ?_
    exact wv_ireturn rfl dX7_desk_21 (wd_liv h)
set_option maxRecDepth 100000 in
set_option maxHeartbeats 4000000 in
theorem c_X7_desk (G : wd_G) (d : Nat) (hd : 7 ≤ d) {μ : wd_Mem} {out : Int32 × wd_Mem}  (h : X7_desk μ = some out) : wd_C G d yX7_desk [.inr 0] μ (fun r u => r = some (.inl out.1) ∧ u = out.2) := by
  obtain ⟨d, rfl⟩ : ∃ e, d = e + 1 := ⟨d - 1, by omega⟩
  refine wd_enter mc_X7_desk (by decide) (by decide +kernel) rfl (Nat.le_of_ble_eq_true rfl) (L0 := [some (.inr 0), none, none]) rfl ?_
  exact t_X7_desk_b0 G d (by omega) μ  h
set_option maxRecDepth 100000 in
set_option maxHeartbeats 4000000 in
theorem t_X4_has_b16 (G : wd_G) (d : Nat) (hd : 0 ≤ d) {out : Int32} (h0 : Nat) (μ : wd_Mem) (w0 : wd_isT h0) (h : X4_has_b16 h0 μ = out) : wd_V G (d + 1) RX4 cX4_has 2 (some .boolean) (fun r u => r = some (.inl out) ∧ u = μ) 16 [some (.inr h0), none] [] μ := by
  unfold X4_has_b16 at h
  refine wv_iconst (pc' := 17) dX4_has_16 ic_0 rfl ?_
  exact wv_zreturn rfl rfl dX4_has_17 (wd_lt h)
set_option maxRecDepth 100000 in
set_option maxHeartbeats 4000000 in
theorem t_X4_has_b0 (G : wd_G) (d : Nat) (hd : 0 ≤ d) {out : Int32} (h0 : Nat) (μ : wd_Mem) (x1 : Int32) (w0 : wd_isT h0) (h : X4_has_b0 h0 μ x1 = out) : wd_V G (d + 1) RX4 cX4_has 2 (some .boolean) (fun r u => r = some (.inl out) ∧ u = μ) 0 [some (.inr h0), some (.inl x1)] [] μ := by
  unfold X4_has_b0 at h
  refine wv_iload_n (pc' := 1) (i := 1) (v := x1) dX4_has_0 rfl rfl rfl ?_
  refine wv_if_lt (pc' := 4) (tgt := 16) dX4_has_1 (by decide) rfl (fun c1 => ?_) (fun c1 => ?_)
  · have h := (if_pos c1).symm.trans h
    refine wv_weak (L' := [some (.inr h0), none]) ⟨rfl, trivial⟩ ?_
    exact t_X4_has_b16 G d hd h0 μ w0 h
  · have h := (if_neg c1).symm.trans h
    refine wv_iload_n (pc' := 5) (i := 1) (v := x1) dX4_has_4 rfl rfl rfl ?_
    refine wv_aload_n (pc' := 6) (i := 0) (v := h0) dX4_has_5 rfl rfl rfl ?_
    refine wv_gi (pc' := 9) (g_X4_22_T w0) dX4_has_6 rfl ?_
    refine wv_icmp_ge (pc' := 12) (tgt := 16) dX4_has_9 (by decide) rfl (fun c2 => ?_) (fun c2 => ?_)
    · have h := (if_pos c2).symm.trans h
      refine wv_weak (L' := [some (.inr h0), none]) ⟨rfl, trivial⟩ ?_
      exact t_X4_has_b16 G d hd h0 μ w0 h
    · have h := (if_neg c2).symm.trans h
      refine wv_iconst (pc' := 13) dX4_has_12 ic_1 rfl ?_
      refine wv_goto (pc' := 17) dX4_has_13 (by decide) ?_
      exact wv_zreturn rfl rfl dX4_has_17 (wd_lt h)
set_option maxRecDepth 100000 in
set_option maxHeartbeats 4000000 in
theorem c_X4_has (G : wd_G) (d : Nat) (hd : 1 ≤ d) {h0 : Nat} {μ : wd_Mem} {x1 : Int32} {out : Int32} (w0 : wd_isT h0) (h : X4_has h0 μ x1 = out) : wd_C G d yX4_has [.inr h0, .inl x1] μ (fun r u => r = some (.inl out) ∧ u = μ) := by
  obtain ⟨d, rfl⟩ : ∃ e, d = e + 1 := ⟨d - 1, by omega⟩
  refine wd_enter mc_X4_has (by decide) (by decide +kernel) rfl (Nat.le_of_ble_eq_true rfl) (L0 := [some (.inr h0), some (.inl x1)]) rfl ?_
  exact t_X4_has_b0 G d (by omega) h0 μ x1 w0 h
set_option maxRecDepth 100000 in
set_option maxHeartbeats 4000000 in
theorem t_X6_edge_b0 (G : wd_G) (d : Nat) (hd : 1 ≤ d) {out : Int32} (h0 : Nat) (μ : wd_Mem) (x1 x2 : Int32) (w0 : wd_isW h0) (h : X6_edge_b0 h0 μ x1 x2 = some out) : wd_V G (d + 1) RX6 cX6_edge 3 (some .int) (fun r u => r = some (.inl out) ∧ u = μ) 0 [some (.inr h0), some (.inl x1), some (.inl x2)] [] μ := by
  unfold X6_edge_b0 at h
  refine wv_aload_n (pc' := 1) (i := 0) (v := h0) dX6_edge_0 rfl rfl rfl ?_
  refine wv_gr (pc' := 4) (g_X6_11_W w0) dX6_edge_1 rfl ?_
  refine wv_iload_n (pc' := 5) (i := 1) (v := x1) dX6_edge_4 rfl rfl rfl ?_
  refine wv_iload_n (pc' := 6) (i := 2) (v := x2) dX6_edge_5 rfl rfl rfl ?_
  refine wv_callSi (pc' := 9) (x := (X6_placeOf μ x1 x2)) (ν := μ) [.inl x1, .inl x2] ml_X6_21 rfl (Nat.le_of_ble_eq_true rfl) dX6_edge_6 rfl (c_X6_placeOf G d (Nat.le_trans (Nat.le_of_ble_eq_true rfl) hd)  rfl) ?_
  obtain ⟨g1, h⟩ := wd_chk_some h
  refine wv_iald (pc' := 10) (wd_shW w0).2.1 (wd_in_vp g1) dX6_edge_9 rfl ?_
  exact wv_ireturn rfl dX6_edge_10 (wd_li h)
set_option maxRecDepth 100000 in
set_option maxHeartbeats 4000000 in
theorem c_X6_edge (G : wd_G) (d : Nat) (hd : 2 ≤ d) {h0 : Nat} {μ : wd_Mem} {x1 x2 : Int32} {out : Int32} (w0 : wd_isW h0) (h : X6_edge h0 μ x1 x2 = some out) : wd_C G d yX6_edge [.inr h0, .inl x1, .inl x2] μ (fun r u => r = some (.inl out) ∧ u = μ) := by
  obtain ⟨d, rfl⟩ : ∃ e, d = e + 1 := ⟨d - 1, by omega⟩
  refine wd_enter mc_X6_edge (by decide) (by decide +kernel) rfl (Nat.le_of_ble_eq_true rfl) (L0 := [some (.inr h0), some (.inl x1), some (.inl x2)]) rfl ?_
  exact t_X6_edge_b0 G d (by omega) h0 μ x1 x2 w0 h
set_option maxRecDepth 100000 in
set_option maxHeartbeats 4000000 in
theorem t_X2_open_c2 (G : wd_G) (d : Nat) (hd : 2 ≤ d) {out : wd_Mem} (rec : Int32 → wd_Mem → Option (wd_Mem)) (k : wd_Mem → Option (wd_Mem)) (h1 : Nat) (μ : wd_Mem) (x2 : Int32) (w1 : wd_isW h1) (hrec : ∀ (x2 : Int32) (μ : wd_Mem), rec x2 μ = some out → wd_V G (d + 1) RX2 cX2_open 3 none (fun r u => r = none ∧ u = out) 2 [some (.inr 21), some (.inr h1), some (.inl x2)] [] μ) (hk : ∀  (μ : wd_Mem), k μ = some out → wd_V G (d + 1) RX2 cX2_open 3 none (fun r u => r = none ∧ u = out) 58 [some (.inr 21), some (.inr h1), none] [] μ) (h : X2_open_c2 rec k h1 μ x2 = some out) : wd_V G (d + 1) RX2 cX2_open 3 none (fun r u => r = none ∧ u = out) 2 [some (.inr 21), some (.inr h1), some (.inl x2)] [] μ := by
  unfold X2_open_c2 at h
  refine wv_iload_n (pc' := 3) (i := 2) (v := x2) dX2_open_2 rfl rfl rfl ?_
  refine wv_aload_n (pc' := 4) (i := 0) (v := 21) dX2_open_3 rfl rfl rfl ?_
  refine wv_gr (pc' := 7) g_X2_27_21 dX2_open_4 rfl ?_
  refine wv_gi (pc' := 10) g_X2_31_3 dX2_open_7 rfl ?_
  refine wv_icmp_ge (pc' := 13) (tgt := 58) dX2_open_10 (by decide) rfl (fun c1 => ?_) (fun c1 => ?_)
  · have h := (if_pos c1).symm.trans h
    refine wv_weak (L' := [some (.inr 21), some (.inr h1), none]) ⟨rfl, rfl, trivial⟩ ?_
    exact hk _ h
  · have h := (if_neg c1).symm.trans h
    refine wv_aload_n (pc' := 14) (i := 0) (v := 21) dX2_open_13 rfl rfl rfl ?_
    refine wv_gr (pc' := 17) g_X2_9_21 dX2_open_14 rfl ?_
    refine wv_iload_n (pc' := 18) (i := 2) (v := x2) dX2_open_17 rfl rfl rfl ?_
    refine wv_aload_n (pc' := 19) (i := 1) (v := h1) dX2_open_18 rfl rfl rfl ?_
    refine wv_iload_n (pc' := 20) (i := 2) (v := x2) dX2_open_19 rfl rfl rfl ?_
    refine wv_iconst (pc' := 21) dX2_open_20 ic_0 rfl ?_
    obtain ⟨r2, er2, h⟩ := wd_bind_some h
    refine wv_callVi (pc' := 24) (x := r2) (ν := μ) [.inl x2, .inl (0 : Int32)] ml_X2_37 (wd_rcW w1) rfl (Nat.le_of_ble_eq_true rfl) dX2_open_21 rfl (c_X6_edge G d (Nat.le_trans (Nat.le_of_ble_eq_true rfl) hd) w1 er2) ?_
    obtain ⟨g3, h⟩ := wd_chk_some h
    refine wv_iast (pc' := 25) sa_22 (wd_in_vp g3) dX2_open_24 rfl ?_
    refine wv_aload_n (pc' := 26) (i := 0) (v := 21) dX2_open_25 rfl rfl rfl ?_
    refine wv_gr (pc' := 29) g_X2_15_21 dX2_open_26 rfl ?_
    refine wv_iload_n (pc' := 30) (i := 2) (v := x2) dX2_open_29 rfl rfl rfl ?_
    refine wv_aload_n (pc' := 31) (i := 1) (v := h1) dX2_open_30 rfl rfl rfl ?_
    refine wv_iload_n (pc' := 32) (i := 2) (v := x2) dX2_open_31 rfl rfl rfl ?_
    refine wv_iconst (pc' := 33) dX2_open_32 ic_1 rfl ?_
    obtain ⟨r4, er4, h⟩ := wd_bind_some h
    refine wv_callVi (pc' := 36) (x := r4) (ν := (mset μ 22 (Int32.toNatClampNeg x2) r2)) [.inl x2, .inl (1 : Int32)] ml_X2_37 (wd_rcW w1) rfl (Nat.le_of_ble_eq_true rfl) dX2_open_33 rfl (c_X6_edge G d (Nat.le_trans (Nat.le_of_ble_eq_true rfl) hd) w1 er4) ?_
    refine wv_iast (pc' := 37) sa_23 (wd_in_vp g3) dX2_open_36 rfl ?_
    refine wv_aload_n (pc' := 38) (i := 0) (v := 21) dX2_open_37 rfl rfl rfl ?_
    refine wv_gr (pc' := 41) g_X2_18_21 dX2_open_38 rfl ?_
    refine wv_iload_n (pc' := 42) (i := 2) (v := x2) dX2_open_41 rfl rfl rfl ?_
    refine wv_aload_n (pc' := 43) (i := 0) (v := 21) dX2_open_42 rfl rfl rfl ?_
    refine wv_gr (pc' := 46) g_X2_27_21 dX2_open_43 rfl ?_
    refine wv_gr (pc' := 49) g_X2_43_3 dX2_open_46 rfl ?_
    refine wv_iload_n (pc' := 50) (i := 2) (v := x2) dX2_open_49 rfl rfl rfl ?_
    refine wv_ialdE (pc' := 51) (v := (μ 5 (Int32.toNatClampNeg x2))) sa_5 (wd_in_vp g3) dX2_open_50 rfl rfl ?_
    refine wv_iast (pc' := 52) sa_24 (wd_in_vp g3) dX2_open_51 rfl ?_
    refine wv_inc (pc' := 55) (x := x2) (L' := [some (.inr 21), some (.inr h1), some (.inl (x2 + (1 : Int32)))]) dX2_open_52 ic_1 rfl (by decide) rfl rfl ?_
    refine wv_goto (pc' := 2) dX2_open_55 (by decide) ?_
    exact hrec _ _ h
set_option maxRecDepth 100000 in
set_option maxHeartbeats 4000000 in
theorem t_X2_open_l2 (G : wd_G) (d : Nat) (hd : 2 ≤ d) {out : wd_Mem} (k : wd_Mem → Option (wd_Mem)) (h1 : Nat) (w1 : wd_isW h1) (hk : ∀  (μ : wd_Mem), k μ = some out → wd_V G (d + 1) RX2 cX2_open 3 none (fun r u => r = none ∧ u = out) 58 [some (.inr 21), some (.inr h1), none] [] μ) : ∀ (n : Nat) (x2 : Int32) (μ : wd_Mem), X2_open_l2 k h1 n x2 μ = some out → wd_V G (d + 1) RX2 cX2_open 3 none (fun r u => r = none ∧ u = out) 2 [some (.inr 21), some (.inr h1), some (.inl x2)] [] μ := by
  intro n
  induction n with
  | zero => intro x2 μ h; exact absurd h (by unfold X2_open_l2; simp)
  | succ n ih =>
    intro x2 μ h
    exact t_X2_open_c2 G d hd (X2_open_l2 k h1 n) k h1 μ x2 w1 (fun x2 μ h => ih x2 μ h) hk h
set_option maxRecDepth 100000 in
set_option maxHeartbeats 4000000 in
theorem t_X2_open_b58 (G : wd_G) (d : Nat) (hd : 2 ≤ d) {out : wd_Mem} (h1 : Nat) (μ : wd_Mem) (w1 : wd_isW h1) (h : X2_open_b58 h1 μ = some out) : wd_V G (d + 1) RX2 cX2_open 3 none (fun r u => r = none ∧ u = out) 58 [some (.inr 21), some (.inr h1), none] [] μ := by
  unfold X2_open_b58 at h
  exact wv_return rfl dX2_open_58 (wd_lv h)
set_option maxRecDepth 100000 in
set_option maxHeartbeats 4000000 in
theorem t_X2_open_b0 (G : wd_G) (d : Nat) (hd : 2 ≤ d) {out : wd_Mem} (h1 : Nat) (μ : wd_Mem) (w1 : wd_isW h1) (h : X2_open_b0 h1 μ = some out) : wd_V G (d + 1) RX2 cX2_open 3 none (fun r u => r = none ∧ u = out) 0 [some (.inr 21), some (.inr h1), none] [] μ := by
  unfold X2_open_b0 at h
  refine wv_iconst (pc' := 1) dX2_open_0 ic_0 rfl ?_
  refine wv_istore_n (pc' := 2) (i := 2) (L' := [some (.inr 21), some (.inr h1), some (.inl (0 : Int32))]) dX2_open_1 rfl (by decide) rfl rfl ?_
  exact t_X2_open_l2 G d hd (fun μ => X2_open_b58 h1 μ) h1 w1 (fun μ h => t_X2_open_b58 G d hd h1 μ w1 h) wd_big (0 : Int32) μ h
set_option maxRecDepth 100000 in
set_option maxHeartbeats 4000000 in
theorem c_X2_open (G : wd_G) (d : Nat) (hd : 3 ≤ d) {h1 : Nat} {μ : wd_Mem} {out : wd_Mem} (w1 : wd_isW h1) (h : X2_open h1 μ = some out) : wd_C G d yX2_open [.inr 21, .inr h1] μ (fun r u => r = none ∧ u = out) := by
  obtain ⟨d, rfl⟩ : ∃ e, d = e + 1 := ⟨d - 1, by omega⟩
  refine wd_enter mc_X2_open (by decide) (by decide +kernel) rfl (Nat.le_of_ble_eq_true rfl) (L0 := [some (.inr 21), some (.inr h1), none]) rfl ?_
  exact t_X2_open_b0 G d (by omega) h1 μ  w1 h
set_option maxRecDepth 100000 in
set_option maxHeartbeats 4000000 in
theorem t_X2_pin_b0 (G : wd_G) (d : Nat) (hd : 0 ≤ d) {out : wd_Mem} (μ : wd_Mem) (x1 x2 : Int32)  (h : X2_pin_b0 μ x1 x2 = some out) : wd_V G (d + 1) RX2 cX2_pin 3 none (fun r u => r = none ∧ u = out) 0 [some (.inr 21), some (.inl x1), some (.inl x2)] [] μ := by
  unfold X2_pin_b0 at h
  refine wv_aload_n (pc' := 1) (i := 0) (v := 21) dX2_pin_0 rfl rfl rfl ?_
  refine wv_gr (pc' := 4) g_X2_9_21 dX2_pin_1 rfl ?_
  refine wv_iload_n (pc' := 5) (i := 1) (v := x1) dX2_pin_4 rfl rfl rfl ?_
  refine wv_iload_n (pc' := 6) (i := 2) (v := x2) dX2_pin_5 rfl rfl rfl ?_
  obtain ⟨g1, h⟩ := wd_chk_some h
  refine wv_iast (pc' := 7) sa_22 (wd_in_vp g1) dX2_pin_6 rfl ?_
  refine wv_aload_n (pc' := 8) (i := 0) (v := 21) dX2_pin_7 rfl rfl rfl ?_
  refine wv_gr (pc' := 11) g_X2_15_21 dX2_pin_8 rfl ?_
  refine wv_iload_n (pc' := 12) (i := 1) (v := x1) dX2_pin_11 rfl rfl rfl ?_
  refine wv_iload_n (pc' := 13) (i := 2) (v := x2) dX2_pin_12 rfl rfl rfl ?_
  refine wv_aload_n (pc' := 14) (i := 0) (v := 21) dX2_pin_13 rfl rfl rfl ?_
  refine wv_gr (pc' := 17) g_X2_27_21 dX2_pin_14 rfl ?_
  refine wv_gr (pc' := 20) g_X2_44_3 dX2_pin_17 rfl ?_
  refine wv_iload_n (pc' := 21) (i := 1) (v := x1) dX2_pin_20 rfl rfl rfl ?_
  refine wv_ialdE (pc' := 22) (v := (μ 4 (Int32.toNatClampNeg x1))) sa_4 (wd_in_vp g1) dX2_pin_21 rfl rfl ?_
  refine wv_iadd (pc' := 23) dX2_pin_22 rfl ?_
  refine wv_iast (pc' := 24) sa_23 (wd_in_vp g1) dX2_pin_23 rfl ?_
  exact wv_return rfl dX2_pin_24 (wd_lv h)
set_option maxRecDepth 100000 in
set_option maxHeartbeats 4000000 in
theorem c_X2_pin (G : wd_G) (d : Nat) (hd : 1 ≤ d) {μ : wd_Mem} {x1 x2 : Int32} {out : wd_Mem}  (h : X2_pin μ x1 x2 = some out) : wd_C G d yX2_pin [.inr 21, .inl x1, .inl x2] μ (fun r u => r = none ∧ u = out) := by
  obtain ⟨d, rfl⟩ : ∃ e, d = e + 1 := ⟨d - 1, by omega⟩
  refine wd_enter mc_X2_pin (by decide) (by decide +kernel) rfl (Nat.le_of_ble_eq_true rfl) (L0 := [some (.inr 21), some (.inl x1), some (.inl x2)]) rfl ?_
  exact t_X2_pin_b0 G d (by omega) μ x1 x2 h
set_option maxRecDepth 100000 in
set_option maxHeartbeats 4000000 in
theorem t_X2_hasRoom_b0 (G : wd_G) (d : Nat) (hd : 0 ≤ d) {out : Int32} (μ : wd_Mem) (x1 x2 : Int32)  (h : X2_hasRoom_b0 μ x1 x2 = some out) : wd_V G (d + 1) RX2 cX2_hasRoom 3 (some .boolean) (fun r u => r = some (.inl out) ∧ u = μ) 0 [some (.inr 21), some (.inl x1), some (.inl x2)] [] μ := by
  unfold X2_hasRoom_b0 at h
  refine wv_aload_n (pc' := 1) (i := 0) (v := 21) dX2_hasRoom_0 rfl rfl rfl ?_
  refine wv_gr (pc' := 4) g_X2_24_21 dX2_hasRoom_1 rfl ?_
  refine wv_iload_n (pc' := 5) (i := 2) (v := x2) dX2_hasRoom_4 rfl rfl rfl ?_
  obtain ⟨g1, h⟩ := wd_chk_some h
  refine wv_iald (pc' := 6) sa_26 (wd_in_vp g1) dX2_hasRoom_5 rfl ?_
  refine wv_aload_n (pc' := 7) (i := 0) (v := 21) dX2_hasRoom_6 rfl rfl rfl ?_
  refine wv_gr (pc' := 10) g_X2_18_21 dX2_hasRoom_7 rfl ?_
  refine wv_iload_n (pc' := 11) (i := 1) (v := x1) dX2_hasRoom_10 rfl rfl rfl ?_
  obtain ⟨g2, h⟩ := wd_chk_some h
  refine wv_iald (pc' := 12) sa_24 (wd_in_vp g2) dX2_hasRoom_11 rfl ?_
  refine wv_iadd (pc' := 13) dX2_hasRoom_12 rfl ?_
  refine wv_aload_n (pc' := 14) (i := 0) (v := 21) dX2_hasRoom_13 rfl rfl rfl ?_
  refine wv_gr (pc' := 17) g_X2_27_21 dX2_hasRoom_14 rfl ?_
  refine wv_gi (pc' := 20) g_X2_106_3 dX2_hasRoom_17 rfl ?_
  refine wv_icmp_gt (pc' := 23) (tgt := 27) dX2_hasRoom_20 (by decide) rfl (fun c3 => ?_) (fun c3 => ?_)
  · have h := (if_pos c3).symm.trans h
    refine wv_iconst (pc' := 28) dX2_hasRoom_27 ic_0 rfl ?_
    exact wv_zreturn rfl rfl dX2_hasRoom_28 (wd_li h)
  · have h := (if_neg c3).symm.trans h
    refine wv_iconst (pc' := 24) dX2_hasRoom_23 ic_1 rfl ?_
    refine wv_goto (pc' := 28) dX2_hasRoom_24 (by decide) ?_
    exact wv_zreturn rfl rfl dX2_hasRoom_28 (wd_li h)
set_option maxRecDepth 100000 in
set_option maxHeartbeats 4000000 in
theorem c_X2_hasRoom (G : wd_G) (d : Nat) (hd : 1 ≤ d) {μ : wd_Mem} {x1 x2 : Int32} {out : Int32}  (h : X2_hasRoom μ x1 x2 = some out) : wd_C G d yX2_hasRoom [.inr 21, .inl x1, .inl x2] μ (fun r u => r = some (.inl out) ∧ u = μ) := by
  obtain ⟨d, rfl⟩ : ∃ e, d = e + 1 := ⟨d - 1, by omega⟩
  refine wd_enter mc_X2_hasRoom (by decide) (by decide +kernel) rfl (Nat.le_of_ble_eq_true rfl) (L0 := [some (.inr 21), some (.inl x1), some (.inl x2)]) rfl ?_
  exact t_X2_hasRoom_b0 G d (by omega) μ x1 x2 h
set_option maxRecDepth 100000 in
set_option maxHeartbeats 4000000 in
theorem t_X2_earliestFit_b44 (G : wd_G) (d : Nat) (hd : 1 ≤ d) {out : Int32} (rec : Int32 → Int32 → Option (Int32)) (k : Option (Int32)) (μ : wd_Mem) (x1 x3 s0 : Int32) (hrec : ∀ (x2 x3 : Int32), rec x2 x3 = some out → wd_V G (d + 1) RX2 cX2_earliestFit 4 (some .int) (fun r u => r = some (.inl out) ∧ u = μ) 13 [some (.inr 21), some (.inl x1), some (.inl x2), some (.inl x3)] [] μ) (hk : k = some out → wd_V G (d + 1) RX2 cX2_earliestFit 4 (some .int) (fun r u => r = some (.inl out) ∧ u = μ) 70 [some (.inr 21), none, none, none] [] μ) (h : X2_earliestFit_b44 rec k μ x1 x3 s0 = some out) : wd_V G (d + 1) RX2 cX2_earliestFit 4 (some .int) (fun r u => r = some (.inl out) ∧ u = μ) 44 [some (.inr 21), some (.inl x1), none, some (.inl x3)] [.inl s0] μ := by
  unfold X2_earliestFit_b44 at h
  refine wv_istore_n (pc' := 45) (i := 2) (L' := [some (.inr 21), some (.inl x1), some (.inl s0), some (.inl x3)]) dX2_earliestFit_44 rfl (by decide) rfl rfl ?_
  refine wv_iload_n (pc' := 46) (i := 2) (v := s0) dX2_earliestFit_45 rfl rfl rfl ?_
  refine wv_aload_n (pc' := 47) (i := 0) (v := 21) dX2_earliestFit_46 rfl rfl rfl ?_
  refine wv_gr (pc' := 50) g_X2_27_21 dX2_earliestFit_47 rfl ?_
  refine wv_gr (pc' := 53) g_X2_44_3 dX2_earliestFit_50 rfl ?_
  refine wv_iload_n (pc' := 54) (i := 1) (v := x1) dX2_earliestFit_53 rfl rfl rfl ?_
  obtain ⟨g6, h⟩ := wd_chk_some h
  refine wv_iald (pc' := 55) sa_4 (wd_in_vp g6) dX2_earliestFit_54 rfl ?_
  refine wv_icmp_lt (pc' := 58) (tgt := 64) dX2_earliestFit_55 (by decide) rfl (fun c7 => ?_) (fun c7 => ?_)
  · have h := (if_pos c7).symm.trans h
    refine wv_inc (pc' := 67) (x := x3) (L' := [some (.inr 21), some (.inl x1), some (.inl s0), some (.inl (x3 + (1 : Int32)))]) dX2_earliestFit_64 ic_1 rfl (by decide) rfl rfl ?_
    refine wv_goto (pc' := 13) dX2_earliestFit_67 (by decide) ?_
    exact hrec _ _ h
  · have h := (if_neg c7).symm.trans h
    refine wv_iload_n (pc' := 59) (i := 3) (v := x3) dX2_earliestFit_58 rfl rfl rfl ?_
    refine wv_iconst (pc' := 60) dX2_earliestFit_59 ic_1 rfl ?_
    refine wv_iadd (pc' := 61) dX2_earliestFit_60 rfl ?_
    refine wv_iload_n (pc' := 62) (i := 2) (v := s0) dX2_earliestFit_61 rfl rfl rfl ?_
    refine wv_isub (pc' := 63) dX2_earliestFit_62 rfl ?_
    exact wv_ireturn rfl dX2_earliestFit_63 (wd_li h)
set_option maxRecDepth 100000 in
set_option maxHeartbeats 4000000 in
theorem t_X2_earliestFit_c13 (G : wd_G) (d : Nat) (hd : 1 ≤ d) {out : Int32} (rec : Int32 → Int32 → Option (Int32)) (k : Option (Int32)) (μ : wd_Mem) (x1 x2 x3 : Int32) (hrec : ∀ (x2 x3 : Int32), rec x2 x3 = some out → wd_V G (d + 1) RX2 cX2_earliestFit 4 (some .int) (fun r u => r = some (.inl out) ∧ u = μ) 13 [some (.inr 21), some (.inl x1), some (.inl x2), some (.inl x3)] [] μ) (hk : k = some out → wd_V G (d + 1) RX2 cX2_earliestFit 4 (some .int) (fun r u => r = some (.inl out) ∧ u = μ) 70 [some (.inr 21), none, none, none] [] μ) (h : X2_earliestFit_c13 rec k μ x1 x2 x3 = some out) : wd_V G (d + 1) RX2 cX2_earliestFit 4 (some .int) (fun r u => r = some (.inl out) ∧ u = μ) 13 [some (.inr 21), some (.inl x1), some (.inl x2), some (.inl x3)] [] μ := by
  unfold X2_earliestFit_c13 at h
  refine wv_iload_n (pc' := 14) (i := 3) (v := x3) dX2_earliestFit_13 rfl rfl rfl ?_
  refine wv_bipush (pc' := 16) dX2_earliestFit_14 bp_16 rfl ?_
  refine wv_aload_n (pc' := 17) (i := 0) (v := 21) dX2_earliestFit_16 rfl rfl rfl ?_
  refine wv_gr (pc' := 20) g_X2_15_21 dX2_earliestFit_17 rfl ?_
  refine wv_iload_n (pc' := 21) (i := 1) (v := x1) dX2_earliestFit_20 rfl rfl rfl ?_
  obtain ⟨g2, h⟩ := wd_chk_some h
  refine wv_iald (pc' := 22) sa_23 (wd_in_vp g2) dX2_earliestFit_21 rfl ?_
  refine wv_min (pc' := 25) mm_X2_74 (Nat.le_of_ble_eq_true rfl) dX2_earliestFit_22 rfl ?_
  refine wv_icmp_ge (pc' := 28) (tgt := 70) dX2_earliestFit_25 (by decide) rfl (fun c3 => ?_) (fun c3 => ?_)
  · have h := (if_pos c3).symm.trans h
    refine wv_weak (L' := [some (.inr 21), none, none, none]) ⟨rfl, trivial⟩ ?_
    exact hk  h
  · have h := (if_neg c3).symm.trans h
    refine wv_aload_n (pc' := 29) (i := 0) (v := 21) dX2_earliestFit_28 rfl rfl rfl ?_
    refine wv_iload_n (pc' := 30) (i := 1) (v := x1) dX2_earliestFit_29 rfl rfl rfl ?_
    refine wv_iload_n (pc' := 31) (i := 3) (v := x3) dX2_earliestFit_30 rfl rfl rfl ?_
    obtain ⟨r4, er4, h⟩ := wd_bind_some h
    refine wv_callVi (pc' := 34) (x := r4) (ν := μ) [.inl x1, .inl x3] ml_X2_77 rc_21 rfl (Nat.le_of_ble_eq_true rfl) dX2_earliestFit_31 rfl (c_X2_hasRoom G d (Nat.le_trans (Nat.le_of_ble_eq_true rfl) hd)  er4) ?_
    refine wv_if_eq (pc' := 37) (tgt := 43) dX2_earliestFit_34 (by decide) rfl (fun c5 => ?_) (fun c5 => ?_)
    · have h := (if_pos c5).symm.trans h
      refine wv_iconst (pc' := 44) dX2_earliestFit_43 ic_0 rfl ?_
      refine wv_weak (L' := [some (.inr 21), some (.inl x1), none, some (.inl x3)]) ⟨rfl, rfl, rfl, trivial⟩ ?_
      exact t_X2_earliestFit_b44 G d hd rec k μ x1 x3 (0 : Int32) hrec hk h
    · have h := (if_neg c5).symm.trans h
      refine wv_iload_n (pc' := 38) (i := 2) (v := x2) dX2_earliestFit_37 rfl rfl rfl ?_
      refine wv_iconst (pc' := 39) dX2_earliestFit_38 ic_1 rfl ?_
      refine wv_iadd (pc' := 40) dX2_earliestFit_39 rfl ?_
      refine wv_goto (pc' := 44) dX2_earliestFit_40 (by decide) ?_
      refine wv_weak (L' := [some (.inr 21), some (.inl x1), none, some (.inl x3)]) ⟨rfl, rfl, rfl, trivial⟩ ?_
      exact t_X2_earliestFit_b44 G d hd rec k μ x1 x3 (x2 + (1 : Int32)) hrec hk h
set_option maxRecDepth 100000 in
set_option maxHeartbeats 4000000 in
theorem t_X2_earliestFit_l13 (G : wd_G) (d : Nat) (hd : 1 ≤ d) {out : Int32} (k : Option (Int32)) (μ : wd_Mem) (x1 : Int32) (hk : k = some out → wd_V G (d + 1) RX2 cX2_earliestFit 4 (some .int) (fun r u => r = some (.inl out) ∧ u = μ) 70 [some (.inr 21), none, none, none] [] μ) : ∀ (n : Nat) (x2 x3 : Int32), X2_earliestFit_l13 k μ x1 n x2 x3 = some out → wd_V G (d + 1) RX2 cX2_earliestFit 4 (some .int) (fun r u => r = some (.inl out) ∧ u = μ) 13 [some (.inr 21), some (.inl x1), some (.inl x2), some (.inl x3)] [] μ := by
  intro n
  induction n with
  | zero => intro x2 x3 h; exact absurd h (by unfold X2_earliestFit_l13; simp)
  | succ n ih =>
    intro x2 x3 h
    exact t_X2_earliestFit_c13 G d hd (X2_earliestFit_l13 k μ x1 n) k μ x1 x2 x3  (fun x2 x3 h => ih x2 x3 h) hk h
set_option maxRecDepth 100000 in
set_option maxHeartbeats 4000000 in
theorem t_X2_earliestFit_b70 (G : wd_G) (d : Nat) (hd : 1 ≤ d) {out : Int32} (μ : wd_Mem)  (h : X2_earliestFit_b70 μ = some out) : wd_V G (d + 1) RX2 cX2_earliestFit 4 (some .int) (fun r u => r = some (.inl out) ∧ u = μ) 70 [some (.inr 21), none, none, none] [] μ := by
  unfold X2_earliestFit_b70 at h
  refine wv_bipush (pc' := 72) dX2_earliestFit_70 bp_m9 rfl ?_
  exact wv_ireturn rfl dX2_earliestFit_72 (wd_li h)
set_option maxRecDepth 100000 in
set_option maxHeartbeats 4000000 in
theorem t_X2_earliestFit_b0 (G : wd_G) (d : Nat) (hd : 1 ≤ d) {out : Int32} (μ : wd_Mem) (x1 : Int32)  (h : X2_earliestFit_b0 μ x1 = some out) : wd_V G (d + 1) RX2 cX2_earliestFit 4 (some .int) (fun r u => r = some (.inl out) ∧ u = μ) 0 [some (.inr 21), some (.inl x1), none, none] [] μ := by
  unfold X2_earliestFit_b0 at h
  refine wv_iconst (pc' := 1) dX2_earliestFit_0 ic_0 rfl ?_
  refine wv_istore_n (pc' := 2) (i := 2) (L' := [some (.inr 21), some (.inl x1), some (.inl (0 : Int32)), none]) dX2_earliestFit_1 rfl (by decide) rfl rfl ?_
  refine wv_iconst (pc' := 3) dX2_earliestFit_2 ic_0 rfl ?_
  refine wv_aload_n (pc' := 4) (i := 0) (v := 21) dX2_earliestFit_3 rfl rfl rfl ?_
  refine wv_gr (pc' := 7) g_X2_9_21 dX2_earliestFit_4 rfl ?_
  refine wv_iload_n (pc' := 8) (i := 1) (v := x1) dX2_earliestFit_7 rfl rfl rfl ?_
  obtain ⟨g1, h⟩ := wd_chk_some h
  refine wv_iald (pc' := 9) sa_22 (wd_in_vp g1) dX2_earliestFit_8 rfl ?_
  refine wv_max (pc' := 12) mm_X2_69 (Nat.le_of_ble_eq_true rfl) dX2_earliestFit_9 rfl ?_
  refine wv_istore_n (pc' := 13) (i := 3) (L' := [some (.inr 21), some (.inl x1), some (.inl (0 : Int32)), some (.inl (if (0 : Int32) < (μ 22 (Int32.toNatClampNeg x1)) then (μ 22 (Int32.toNatClampNeg x1)) else (0 : Int32)))]) dX2_earliestFit_12 rfl (by decide) rfl rfl ?_
  exact t_X2_earliestFit_l13 G d hd (X2_earliestFit_b70 μ) μ x1  (fun  h => t_X2_earliestFit_b70 G d hd μ  h) wd_big (0 : Int32) (if (0 : Int32) < (μ 22 (Int32.toNatClampNeg x1)) then (μ 22 (Int32.toNatClampNeg x1)) else (0 : Int32)) h
set_option maxRecDepth 100000 in
set_option maxHeartbeats 4000000 in
theorem c_X2_earliestFit (G : wd_G) (d : Nat) (hd : 2 ≤ d) {μ : wd_Mem} {x1 : Int32} {out : Int32}  (h : X2_earliestFit μ x1 = some out) : wd_C G d yX2_earliestFit [.inr 21, .inl x1] μ (fun r u => r = some (.inl out) ∧ u = μ) := by
  obtain ⟨d, rfl⟩ : ∃ e, d = e + 1 := ⟨d - 1, by omega⟩
  refine wd_enter mc_X2_earliestFit (by decide) (by decide +kernel) rfl (Nat.le_of_ble_eq_true rfl) (L0 := [some (.inr 21), some (.inl x1), none, none]) rfl ?_
  exact t_X2_earliestFit_b0 G d (by omega) μ x1 h
set_option maxRecDepth 100000 in
set_option maxHeartbeats 4000000 in
theorem t_X2_fill_c3 (G : wd_G) (d : Nat) (hd : 0 ≤ d) {out : wd_Mem} (rec : Int32 → wd_Mem → Option (wd_Mem)) (k : wd_Mem → Option (wd_Mem)) (μ : wd_Mem) (x1 x2 x3 x4 : Int32) (hrec : ∀ (x4 : Int32) (μ : wd_Mem), rec x4 μ = some out → wd_V G (d + 1) RX2 cX2_fill 5 none (fun r u => r = none ∧ u = out) 3 [some (.inr 21), some (.inl x1), some (.inl x2), some (.inl x3), some (.inl x4)] [] μ) (hk : ∀  (μ : wd_Mem), k μ = some out → wd_V G (d + 1) RX2 cX2_fill 5 none (fun r u => r = none ∧ u = out) 43 [some (.inr 21), none, none, none, none] [] μ) (h : X2_fill_c3 rec k μ x1 x2 x3 x4 = some out) : wd_V G (d + 1) RX2 cX2_fill 5 none (fun r u => r = none ∧ u = out) 3 [some (.inr 21), some (.inl x1), some (.inl x2), some (.inl x3), some (.inl x4)] [] μ := by
  unfold X2_fill_c3 at h
  refine wv_iload (pc' := 5) (v := x4) dX2_fill_3 rfl rfl ?_
  refine wv_iload_n (pc' := 6) (i := 2) (v := x2) dX2_fill_5 rfl rfl rfl ?_
  refine wv_aload_n (pc' := 7) (i := 0) (v := 21) dX2_fill_6 rfl rfl rfl ?_
  refine wv_gr (pc' := 10) g_X2_27_21 dX2_fill_7 rfl ?_
  refine wv_gr (pc' := 13) g_X2_44_3 dX2_fill_10 rfl ?_
  refine wv_iload_n (pc' := 14) (i := 1) (v := x1) dX2_fill_13 rfl rfl rfl ?_
  obtain ⟨g1, h⟩ := wd_chk_some h
  refine wv_iald (pc' := 15) sa_4 (wd_in_vp g1) dX2_fill_14 rfl ?_
  refine wv_iadd (pc' := 16) dX2_fill_15 rfl ?_
  refine wv_icmp_ge (pc' := 19) (tgt := 43) dX2_fill_16 (by decide) rfl (fun c2 => ?_) (fun c2 => ?_)
  · have h := (if_pos c2).symm.trans h
    refine wv_weak (L' := [some (.inr 21), none, none, none, none]) ⟨rfl, trivial⟩ ?_
    exact hk _ h
  · have h := (if_neg c2).symm.trans h
    refine wv_iload (pc' := 21) (v := x4) dX2_fill_19 rfl rfl ?_
    refine wv_bipush (pc' := 23) dX2_fill_21 bp_16 rfl ?_
    refine wv_icmp_ge (pc' := 26) (tgt := 43) dX2_fill_23 (by decide) rfl (fun c3 => ?_) (fun c3 => ?_)
    · have h := (if_pos c3).symm.trans h
      refine wv_weak (L' := [some (.inr 21), none, none, none, none]) ⟨rfl, trivial⟩ ?_
      exact hk _ h
    · have h := (if_neg c3).symm.trans h
      refine wv_aload_n (pc' := 27) (i := 0) (v := 21) dX2_fill_26 rfl rfl rfl ?_
      refine wv_gr (pc' := 30) g_X2_24_21 dX2_fill_27 rfl ?_
      refine wv_iload (pc' := 32) (v := x4) dX2_fill_30 rfl rfl ?_
      refine wv_dup2 (pc' := 33) dX2_fill_32 rfl ?_
      obtain ⟨g4, h⟩ := wd_chk_some h
      refine wv_iald (pc' := 34) sa_26 (wd_in_vp g4) dX2_fill_33 rfl ?_
      refine wv_iload_n (pc' := 35) (i := 3) (v := x3) dX2_fill_34 rfl rfl rfl ?_
      refine wv_iadd (pc' := 36) dX2_fill_35 rfl ?_
      refine wv_iast (pc' := 37) sa_26 (wd_in_vp g4) dX2_fill_36 rfl ?_
      refine wv_inc (pc' := 40) (x := x4) (L' := [some (.inr 21), some (.inl x1), some (.inl x2), some (.inl x3), some (.inl (x4 + (1 : Int32)))]) dX2_fill_37 ic_1 rfl (by decide) rfl rfl ?_
      refine wv_goto (pc' := 3) dX2_fill_40 (by decide) ?_
      exact hrec _ _ h
set_option maxRecDepth 100000 in
set_option maxHeartbeats 4000000 in
theorem t_X2_fill_l3 (G : wd_G) (d : Nat) (hd : 0 ≤ d) {out : wd_Mem} (k : wd_Mem → Option (wd_Mem)) (x1 x2 x3 : Int32) (hk : ∀  (μ : wd_Mem), k μ = some out → wd_V G (d + 1) RX2 cX2_fill 5 none (fun r u => r = none ∧ u = out) 43 [some (.inr 21), none, none, none, none] [] μ) : ∀ (n : Nat) (x4 : Int32) (μ : wd_Mem), X2_fill_l3 k x1 x2 x3 n x4 μ = some out → wd_V G (d + 1) RX2 cX2_fill 5 none (fun r u => r = none ∧ u = out) 3 [some (.inr 21), some (.inl x1), some (.inl x2), some (.inl x3), some (.inl x4)] [] μ := by
  intro n
  induction n with
  | zero => intro x4 μ h; exact absurd h (by unfold X2_fill_l3; simp)
  | succ n ih =>
    intro x4 μ h
    exact t_X2_fill_c3 G d hd (X2_fill_l3 k x1 x2 x3 n) k μ x1 x2 x3 x4  (fun x4 μ h => ih x4 μ h) hk h
set_option maxRecDepth 100000 in
set_option maxHeartbeats 4000000 in
theorem t_X2_fill_b43 (G : wd_G) (d : Nat) (hd : 0 ≤ d) {out : wd_Mem} (μ : wd_Mem)  (h : X2_fill_b43 μ = some out) : wd_V G (d + 1) RX2 cX2_fill 5 none (fun r u => r = none ∧ u = out) 43 [some (.inr 21), none, none, none, none] [] μ := by
  unfold X2_fill_b43 at h
  exact wv_return rfl dX2_fill_43 (wd_lv h)
set_option maxRecDepth 100000 in
set_option maxHeartbeats 4000000 in
theorem t_X2_fill_b0 (G : wd_G) (d : Nat) (hd : 0 ≤ d) {out : wd_Mem} (μ : wd_Mem) (x1 x2 x3 : Int32)  (h : X2_fill_b0 μ x1 x2 x3 = some out) : wd_V G (d + 1) RX2 cX2_fill 5 none (fun r u => r = none ∧ u = out) 0 [some (.inr 21), some (.inl x1), some (.inl x2), some (.inl x3), none] [] μ := by
  unfold X2_fill_b0 at h
  refine wv_iload_n (pc' := 1) (i := 2) (v := x2) dX2_fill_0 rfl rfl rfl ?_
  refine wv_istore (pc' := 3) (L' := [some (.inr 21), some (.inl x1), some (.inl x2), some (.inl x3), some (.inl x2)]) dX2_fill_1 (by decide) rfl rfl ?_
  exact t_X2_fill_l3 G d hd (fun μ => X2_fill_b43 μ) x1 x2 x3  (fun μ h => t_X2_fill_b43 G d hd μ  h) wd_big x2 μ h
set_option maxRecDepth 100000 in
set_option maxHeartbeats 4000000 in
theorem c_X2_fill (G : wd_G) (d : Nat) (hd : 1 ≤ d) {μ : wd_Mem} {x1 x2 x3 : Int32} {out : wd_Mem}  (h : X2_fill μ x1 x2 x3 = some out) : wd_C G d yX2_fill [.inr 21, .inl x1, .inl x2, .inl x3] μ (fun r u => r = none ∧ u = out) := by
  obtain ⟨d, rfl⟩ : ∃ e, d = e + 1 := ⟨d - 1, by omega⟩
  refine wd_enter mc_X2_fill (by decide) (by decide +kernel) rfl (Nat.le_of_ble_eq_true rfl) (L0 := [some (.inr 21), some (.inl x1), some (.inl x2), some (.inl x3), none]) rfl ?_
  exact t_X2_fill_b0 G d (by omega) μ x1 x2 x3 h
set_option maxRecDepth 100000 in
set_option maxHeartbeats 4000000 in
theorem t_X2_isAnyBeside_b96 (G : wd_G) (d : Nat) (hd : 2 ≤ d) {out : Int32 × wd_Mem} {D : Nat} (self : wd_Mem → Int32 → Int32 → Option (Int32 × wd_Mem)) (rec : Int32 → wd_Mem → Option (Int32 × wd_Mem)) (k : wd_Mem → Option (Int32 × wd_Mem)) (μ : wd_Mem) (x1 x2 x3 : Int32) (hself : ∀ (ν : wd_Mem) (y0 y1 : Int32) (o : Int32 × wd_Mem), self ν y0 y1 = some o → ∀ e, D ≤ e → wd_C G e yX2_isAnyBeside [.inr 21, .inl y0, .inl y1] ν (fun r u => r = some (.inl o.1) ∧ u = o.2)) (hD : D + 0 ≤ d) (hrec : ∀ (x3 : Int32) (μ : wd_Mem), rec x3 μ = some out → wd_V G (d + 1) RX2 cX2_isAnyBeside 6 (some .boolean) (fun r u => r = some (.inl out.1) ∧ u = out.2) 15 [some (.inr 21), some (.inl x1), some (.inl x2), some (.inl x3), none, none] [] μ) (hk : ∀  (μ : wd_Mem), k μ = some out → wd_V G (d + 1) RX2 cX2_isAnyBeside 6 (some .boolean) (fun r u => r = some (.inl out.1) ∧ u = out.2) 102 [some (.inr 21), none, none, none, none, none] [] μ) (h : X2_isAnyBeside_b96 self rec k μ x1 x2 x3 = some out) : wd_V G (d + 1) RX2 cX2_isAnyBeside 6 (some .boolean) (fun r u => r = some (.inl out.1) ∧ u = out.2) 96 [some (.inr 21), some (.inl x1), some (.inl x2), some (.inl x3), none, none] [] μ := by
  unfold X2_isAnyBeside_b96 at h
  refine wv_inc (pc' := 99) (x := x3) (L' := [some (.inr 21), some (.inl x1), some (.inl x2), some (.inl (x3 + (1 : Int32))), none, none]) dX2_isAnyBeside_96 ic_1 rfl (by decide) rfl rfl ?_
  refine wv_goto (pc' := 15) dX2_isAnyBeside_99 (by decide) ?_
  exact hrec _ _ h
set_option maxRecDepth 100000 in
set_option maxHeartbeats 4000000 in
theorem t_X2_isAnyBeside_c15 (G : wd_G) (d : Nat) (hd : 2 ≤ d) {out : Int32 × wd_Mem} {D : Nat} (self : wd_Mem → Int32 → Int32 → Option (Int32 × wd_Mem)) (rec : Int32 → wd_Mem → Option (Int32 × wd_Mem)) (k : wd_Mem → Option (Int32 × wd_Mem)) (μ : wd_Mem) (x1 x2 x3 : Int32) (hself : ∀ (ν : wd_Mem) (y0 y1 : Int32) (o : Int32 × wd_Mem), self ν y0 y1 = some o → ∀ e, D ≤ e → wd_C G e yX2_isAnyBeside [.inr 21, .inl y0, .inl y1] ν (fun r u => r = some (.inl o.1) ∧ u = o.2)) (hD : D + 0 ≤ d) (hrec : ∀ (x3 : Int32) (μ : wd_Mem), rec x3 μ = some out → wd_V G (d + 1) RX2 cX2_isAnyBeside 6 (some .boolean) (fun r u => r = some (.inl out.1) ∧ u = out.2) 15 [some (.inr 21), some (.inl x1), some (.inl x2), some (.inl x3), none, none] [] μ) (hk : ∀  (μ : wd_Mem), k μ = some out → wd_V G (d + 1) RX2 cX2_isAnyBeside 6 (some .boolean) (fun r u => r = some (.inl out.1) ∧ u = out.2) 102 [some (.inr 21), none, none, none, none, none] [] μ) (h : X2_isAnyBeside_c15 self rec k μ x1 x2 x3 = some out) : wd_V G (d + 1) RX2 cX2_isAnyBeside 6 (some .boolean) (fun r u => r = some (.inl out.1) ∧ u = out.2) 15 [some (.inr 21), some (.inl x1), some (.inl x2), some (.inl x3), none, none] [] μ := by
  unfold X2_isAnyBeside_c15 at h
  refine wv_iload_n (pc' := 16) (i := 3) (v := x3) dX2_isAnyBeside_15 rfl rfl rfl ?_
  refine wv_aload_n (pc' := 17) (i := 0) (v := 21) dX2_isAnyBeside_16 rfl rfl rfl ?_
  refine wv_gr (pc' := 20) g_X2_27_21 dX2_isAnyBeside_17 rfl ?_
  refine wv_gi (pc' := 23) g_X2_31_3 dX2_isAnyBeside_20 rfl ?_
  refine wv_icmp_ge (pc' := 26) (tgt := 102) dX2_isAnyBeside_23 (by decide) rfl (fun c2 => ?_) (fun c2 => ?_)
  · have h := (if_pos c2).symm.trans h
    refine wv_weak (L' := [some (.inr 21), none, none, none, none, none]) ⟨rfl, trivial⟩ ?_
    exact hk _ h
  · have h := (if_neg c2).symm.trans h
    refine wv_iload_n (pc' := 27) (i := 1) (v := x1) dX2_isAnyBeside_26 rfl rfl rfl ?_
    refine wv_iload_n (pc' := 28) (i := 3) (v := x3) dX2_isAnyBeside_27 rfl rfl rfl ?_
    refine wv_ishr (pc' := 29) dX2_isAnyBeside_28 rfl ?_
    refine wv_iconst (pc' := 30) dX2_isAnyBeside_29 ic_1 rfl ?_
    refine wv_iand (pc' := 31) dX2_isAnyBeside_30 rfl ?_
    refine wv_if_ne (pc' := 34) (tgt := 96) dX2_isAnyBeside_31 (by decide) rfl (fun c3 => ?_) (fun c3 => ?_)
    · have h := (if_neg c3).symm.trans h
      exact t_X2_isAnyBeside_b96 G d hd self rec k μ x1 x2 x3 hself hD hrec hk h
    · have h := (if_pos c3).symm.trans h
      refine wv_aload_n (pc' := 35) (i := 0) (v := 21) dX2_isAnyBeside_34 rfl rfl rfl ?_
      refine wv_iload_n (pc' := 36) (i := 3) (v := x3) dX2_isAnyBeside_35 rfl rfl rfl ?_
      obtain ⟨r4, er4, h⟩ := wd_bind_some h
      refine wv_callVi (pc' := 39) (x := r4) (ν := μ) [.inl x3] ml_X2_112 rc_21 rfl (Nat.le_of_ble_eq_true rfl) dX2_isAnyBeside_36 rfl (c_X2_earliestFit G d (Nat.le_trans (Nat.le_of_ble_eq_true rfl) hd)  er4) ?_
      refine wv_istore (pc' := 41) (L' := [some (.inr 21), some (.inl x1), some (.inl x2), some (.inl x3), some (.inl r4), none]) dX2_isAnyBeside_39 (by decide) rfl rfl ?_
      refine wv_iload (pc' := 43) (v := r4) dX2_isAnyBeside_41 rfl rfl ?_
      refine wv_if_ge (pc' := 46) (tgt := 48) dX2_isAnyBeside_43 (by decide) rfl (fun c5 => ?_) (fun c5 => ?_)
      · have h := (if_pos c5).symm.trans h
        refine wv_aload_n (pc' := 49) (i := 0) (v := 21) dX2_isAnyBeside_48 rfl rfl rfl ?_
        refine wv_iload_n (pc' := 50) (i := 3) (v := x3) dX2_isAnyBeside_49 rfl rfl rfl ?_
        refine wv_iload (pc' := 52) (v := r4) dX2_isAnyBeside_50 rfl rfl ?_
        refine wv_aload_n (pc' := 53) (i := 0) (v := 21) dX2_isAnyBeside_52 rfl rfl rfl ?_
        refine wv_gr (pc' := 56) g_X2_18_21 dX2_isAnyBeside_53 rfl ?_
        refine wv_iload_n (pc' := 57) (i := 3) (v := x3) dX2_isAnyBeside_56 rfl rfl rfl ?_
        obtain ⟨g6, h⟩ := wd_chk_some h
        refine wv_iald (pc' := 58) sa_24 (wd_in_vp g6) dX2_isAnyBeside_57 rfl ?_
        obtain ⟨r7, er7, h⟩ := wd_bind_some h
        refine wv_callVv (pc' := 61) (ν := r7) [.inl x3, .inl r4, .inl (μ 24 (Int32.toNatClampNeg x3))] ml_X2_85 rc_21 rfl (Nat.le_of_ble_eq_true rfl) dX2_isAnyBeside_58 rfl (c_X2_fill G d (Nat.le_trans (Nat.le_of_ble_eq_true rfl) hd)  er7) ?_
        refine wv_aload_n (pc' := 62) (i := 0) (v := 21) dX2_isAnyBeside_61 rfl rfl rfl ?_
        refine wv_iload_n (pc' := 63) (i := 1) (v := x1) dX2_isAnyBeside_62 rfl rfl rfl ?_
        refine wv_iconst (pc' := 64) dX2_isAnyBeside_63 ic_1 rfl ?_
        refine wv_iload_n (pc' := 65) (i := 3) (v := x3) dX2_isAnyBeside_64 rfl rfl rfl ?_
        refine wv_ishl (pc' := 66) dX2_isAnyBeside_65 rfl ?_
        refine wv_ior (pc' := 67) dX2_isAnyBeside_66 rfl ?_
        refine wv_iload_n (pc' := 68) (i := 2) (v := x2) dX2_isAnyBeside_67 rfl rfl rfl ?_
        refine wv_iconst (pc' := 69) dX2_isAnyBeside_68 ic_1 rfl ?_
        refine wv_iadd (pc' := 70) dX2_isAnyBeside_69 rfl ?_
        obtain ⟨r8, er8, h⟩ := wd_bind_some h
        refine wv_callVi (pc' := 73) (x := r8.1) (ν := r8.2) [.inl (x1 ||| ((1 : Int32) <<< (x3 &&& 31))), .inl (x2 + (1 : Int32))] ml_X2_109 rc_21 rfl (Nat.le_of_ble_eq_true rfl) dX2_isAnyBeside_70 rfl (hself _ _ _ _ er8 d (by omega)) ?_
        refine wv_istore (pc' := 75) (L' := [some (.inr 21), some (.inl x1), some (.inl x2), some (.inl x3), some (.inl r4), some (.inl r8.1)]) dX2_isAnyBeside_73 (by decide) rfl rfl ?_
        refine wv_aload_n (pc' := 76) (i := 0) (v := 21) dX2_isAnyBeside_75 rfl rfl rfl ?_
        refine wv_iload_n (pc' := 77) (i := 3) (v := x3) dX2_isAnyBeside_76 rfl rfl rfl ?_
        refine wv_iload (pc' := 79) (v := r4) dX2_isAnyBeside_77 rfl rfl ?_
        refine wv_aload_n (pc' := 80) (i := 0) (v := 21) dX2_isAnyBeside_79 rfl rfl rfl ?_
        refine wv_gr (pc' := 83) g_X2_18_21 dX2_isAnyBeside_80 rfl ?_
        refine wv_iload_n (pc' := 84) (i := 3) (v := x3) dX2_isAnyBeside_83 rfl rfl rfl ?_
        refine wv_iald (pc' := 85) sa_24 (wd_in_vp g6) dX2_isAnyBeside_84 rfl ?_
        refine wv_ineg (pc' := 86) dX2_isAnyBeside_85 rfl ?_
        obtain ⟨r9, er9, h⟩ := wd_bind_some h
        refine wv_callVv (pc' := 89) (ν := r9) [.inl x3, .inl r4, .inl (-(r8.2 24 (Int32.toNatClampNeg x3)))] ml_X2_85 rc_21 rfl (Nat.le_of_ble_eq_true rfl) dX2_isAnyBeside_86 rfl (c_X2_fill G d (Nat.le_trans (Nat.le_of_ble_eq_true rfl) hd)  er9) ?_
        refine wv_iload (pc' := 91) (v := r8.1) dX2_isAnyBeside_89 rfl rfl ?_
        refine wv_if_eq (pc' := 94) (tgt := 96) dX2_isAnyBeside_91 (by decide) rfl (fun c10 => ?_) (fun c10 => ?_)
        · have h := (if_pos c10).symm.trans h
          refine wv_weak (L' := [some (.inr 21), some (.inl x1), some (.inl x2), some (.inl x3), none, none]) ⟨rfl, rfl, rfl, rfl, trivial⟩ ?_
          exact t_X2_isAnyBeside_b96 G d hd self rec k r9 x1 x2 x3 hself hD hrec hk h
        · have h := (if_neg c10).symm.trans h
          refine wv_iconst (pc' := 95) dX2_isAnyBeside_94 ic_1 rfl ?_
          exact wv_zreturn rfl rfl dX2_isAnyBeside_95 (wd_liv h)
      · have h := (if_neg c5).symm.trans h
        refine wv_iconst (pc' := 47) dX2_isAnyBeside_46 ic_0 rfl ?_
        exact wv_zreturn rfl rfl dX2_isAnyBeside_47 (wd_liv h)
set_option maxRecDepth 100000 in
set_option maxHeartbeats 4000000 in
theorem t_X2_isAnyBeside_l15 (G : wd_G) (d : Nat) (hd : 2 ≤ d) {out : Int32 × wd_Mem} {D : Nat} (self : wd_Mem → Int32 → Int32 → Option (Int32 × wd_Mem)) (k : wd_Mem → Option (Int32 × wd_Mem)) (x1 x2 : Int32) (hself : ∀ (ν : wd_Mem) (y0 y1 : Int32) (o : Int32 × wd_Mem), self ν y0 y1 = some o → ∀ e, D ≤ e → wd_C G e yX2_isAnyBeside [.inr 21, .inl y0, .inl y1] ν (fun r u => r = some (.inl o.1) ∧ u = o.2)) (hD : D + 0 ≤ d) (hk : ∀  (μ : wd_Mem), k μ = some out → wd_V G (d + 1) RX2 cX2_isAnyBeside 6 (some .boolean) (fun r u => r = some (.inl out.1) ∧ u = out.2) 102 [some (.inr 21), none, none, none, none, none] [] μ) : ∀ (n : Nat) (x3 : Int32) (μ : wd_Mem), X2_isAnyBeside_l15 self k x1 x2 n x3 μ = some out → wd_V G (d + 1) RX2 cX2_isAnyBeside 6 (some .boolean) (fun r u => r = some (.inl out.1) ∧ u = out.2) 15 [some (.inr 21), some (.inl x1), some (.inl x2), some (.inl x3), none, none] [] μ := by
  intro n
  induction n with
  | zero => intro x3 μ h; exact absurd h (by unfold X2_isAnyBeside_l15; simp)
  | succ n ih =>
    intro x3 μ h
    exact t_X2_isAnyBeside_c15 G d hd self (X2_isAnyBeside_l15 self k x1 x2 n) k μ x1 x2 x3 hself hD (fun x3 μ h => ih x3 μ h) hk h
set_option maxRecDepth 100000 in
set_option maxHeartbeats 4000000 in
theorem t_X2_isAnyBeside_b102 (G : wd_G) (d : Nat) (hd : 2 ≤ d) {out : Int32 × wd_Mem} {D : Nat} (self : wd_Mem → Int32 → Int32 → Option (Int32 × wd_Mem)) (μ : wd_Mem) (hself : ∀ (ν : wd_Mem) (y0 y1 : Int32) (o : Int32 × wd_Mem), self ν y0 y1 = some o → ∀ e, D ≤ e → wd_C G e yX2_isAnyBeside [.inr 21, .inl y0, .inl y1] ν (fun r u => r = some (.inl o.1) ∧ u = o.2)) (hD : D + 0 ≤ d) (h : X2_isAnyBeside_b102 self μ = some out) : wd_V G (d + 1) RX2 cX2_isAnyBeside 6 (some .boolean) (fun r u => r = some (.inl out.1) ∧ u = out.2) 102 [some (.inr 21), none, none, none, none, none] [] μ := by
  unfold X2_isAnyBeside_b102 at h
  refine wv_iconst (pc' := 103) dX2_isAnyBeside_102 ic_0 rfl ?_
  exact wv_zreturn rfl rfl dX2_isAnyBeside_103 (wd_liv h)
set_option maxRecDepth 100000 in
set_option maxHeartbeats 4000000 in
theorem t_X2_isAnyBeside_b0 (G : wd_G) (d : Nat) (hd : 2 ≤ d) {out : Int32 × wd_Mem} {D : Nat} (self : wd_Mem → Int32 → Int32 → Option (Int32 × wd_Mem)) (μ : wd_Mem) (x1 x2 : Int32) (hself : ∀ (ν : wd_Mem) (y0 y1 : Int32) (o : Int32 × wd_Mem), self ν y0 y1 = some o → ∀ e, D ≤ e → wd_C G e yX2_isAnyBeside [.inr 21, .inl y0, .inl y1] ν (fun r u => r = some (.inl o.1) ∧ u = o.2)) (hD : D + 0 ≤ d) (h : X2_isAnyBeside_b0 self μ x1 x2 = some out) : wd_V G (d + 1) RX2 cX2_isAnyBeside 6 (some .boolean) (fun r u => r = some (.inl out.1) ∧ u = out.2) 0 [some (.inr 21), some (.inl x1), some (.inl x2), none, none, none] [] μ := by
  unfold X2_isAnyBeside_b0 at h
  refine wv_iload_n (pc' := 1) (i := 2) (v := x2) dX2_isAnyBeside_0 rfl rfl rfl ?_
  refine wv_aload_n (pc' := 2) (i := 0) (v := 21) dX2_isAnyBeside_1 rfl rfl rfl ?_
  refine wv_gr (pc' := 5) g_X2_27_21 dX2_isAnyBeside_2 rfl ?_
  refine wv_gi (pc' := 8) g_X2_31_3 dX2_isAnyBeside_5 rfl ?_
  refine wv_icmp_lt (pc' := 11) (tgt := 13) dX2_isAnyBeside_8 (by decide) rfl (fun c1 => ?_) (fun c1 => ?_)
  · have h := (if_pos c1).symm.trans h
    refine wv_iconst (pc' := 14) dX2_isAnyBeside_13 ic_0 rfl ?_
    refine wv_istore_n (pc' := 15) (i := 3) (L' := [some (.inr 21), some (.inl x1), some (.inl x2), some (.inl (0 : Int32)), none, none]) dX2_isAnyBeside_14 rfl (by decide) rfl rfl ?_
    exact t_X2_isAnyBeside_l15 G d hd self (fun μ => X2_isAnyBeside_b102 self μ) x1 x2 hself hD (fun μ h => t_X2_isAnyBeside_b102 G d hd self μ hself hD h) wd_big (0 : Int32) μ h
  · have h := (if_neg c1).symm.trans h
    refine wv_iconst (pc' := 12) dX2_isAnyBeside_11 ic_1 rfl ?_
    exact wv_zreturn rfl rfl dX2_isAnyBeside_12 (wd_liv h)
set_option maxRecDepth 100000 in
set_option maxHeartbeats 4000000 in
theorem cs_X2_isAnyBeside (G : wd_G) (d : Nat) (hd : 3 ≤ d) {D : Nat} {self : wd_Mem → Int32 → Int32 → Option (Int32 × wd_Mem)} {μ : wd_Mem} {x1 x2 : Int32} {out : Int32 × wd_Mem} (hself : ∀ (ν : wd_Mem) (y0 y1 : Int32) (o : Int32 × wd_Mem), self ν y0 y1 = some o → ∀ e, D ≤ e → wd_C G e yX2_isAnyBeside [.inr 21, .inl y0, .inl y1] ν (fun r u => r = some (.inl o.1) ∧ u = o.2)) (hD : D + 0 + 1 ≤ d)  (h : X2_isAnyBeside_b0 self μ x1 x2 = some out) : wd_C G d yX2_isAnyBeside [.inr 21, .inl x1, .inl x2] μ (fun r u => r = some (.inl out.1) ∧ u = out.2) := by
  obtain ⟨d, rfl⟩ : ∃ e, d = e + 1 := ⟨d - 1, by omega⟩
  refine wd_enter mc_X2_isAnyBeside (by decide) (by decide +kernel) rfl (Nat.le_of_ble_eq_true rfl) (L0 := [some (.inr 21), some (.inl x1), some (.inl x2), none, none, none]) rfl ?_
  exact t_X2_isAnyBeside_b0 G d (by omega) self μ x1 x2 hself (by omega)  h
set_option maxRecDepth 100000 in
set_option maxHeartbeats 4000000 in
theorem c_X2_isAnyBeside_all (G : wd_G) : ∀ (n d : Nat), 3 + 1 * n ≤ d → ∀ (μ : wd_Mem) (x1 x2 : Int32) (out : Int32 × wd_Mem), X2_isAnyBeside n μ x1 x2 = some out → wd_C G d yX2_isAnyBeside [.inr 21, .inl x1, .inl x2] μ (fun r u => r = some (.inl out.1) ∧ u = out.2) := by
  intro n
  induction n with
  | zero => intro d hd μ x1 x2 out h; exact absurd h (by unfold X2_isAnyBeside; simp)
  | succ n ih =>
    intro d hd μ x1 x2 out h
    exact cs_X2_isAnyBeside G d (by omega) (D := 3 + 1 * n) (self := X2_isAnyBeside n) (fun ν y0 y1 o e e2 h2 => ih e2 h2 ν y0 y1 o e) (by omega) h
set_option maxRecDepth 100000 in
set_option maxHeartbeats 4000000 in
theorem c_X2_isAnyBeside (G : wd_G) (n d : Nat) (hd : 3 + 1 * n ≤ d) {μ : wd_Mem} {x1 x2 : Int32} {out : Int32 × wd_Mem} (h : X2_isAnyBeside n μ x1 x2 = some out) : wd_C G d yX2_isAnyBeside [.inr 21, .inl x1, .inl x2] μ (fun r u => r = some (.inl out.1) ∧ u = out.2) := c_X2_isAnyBeside_all G n d hd μ x1 x2 out h
set_option maxRecDepth 100000 in
set_option maxHeartbeats 4000000 in
theorem t_X2_isAny_b0 (G : wd_G) (d : Nat) (hd : 11 ≤ d) {out : Int32 × wd_Mem} (μ : wd_Mem)  (h : X2_isAny_b0 μ = some out) : wd_V G (d + 1) RX2 cX2_isAny 1 (some .boolean) (fun r u => r = some (.inl out.1) ∧ u = out.2) 0 [some (.inr 21)] [] μ := by
  unfold X2_isAny_b0 at h
  refine wv_aload_n (pc' := 1) (i := 0) (v := 21) dX2_isAny_0 rfl rfl rfl ?_
  refine wv_iconst (pc' := 2) dX2_isAny_1 ic_0 rfl ?_
  refine wv_iconst (pc' := 3) dX2_isAny_2 ic_0 rfl ?_
  obtain ⟨r1, er1, h⟩ := wd_bind_some h
  refine wv_callVi (pc' := 6) (x := r1.1) (ν := r1.2) [.inl (0 : Int32), .inl (0 : Int32)] ml_X2_109 rc_21 rfl (Nat.le_of_ble_eq_true rfl) dX2_isAny_3 rfl (c_X2_isAnyBeside G 8 d (by omega)  er1) ?_
  obtain ⟨g2, h⟩ := wd_chk_some h
  exact wv_zreturn rfl (wd_bit_ok g2) dX2_isAny_6 (wd_liv h)
set_option maxRecDepth 100000 in
set_option maxHeartbeats 4000000 in
theorem c_X2_isAny (G : wd_G) (d : Nat) (hd : 12 ≤ d) {μ : wd_Mem} {out : Int32 × wd_Mem}  (h : X2_isAny μ = some out) : wd_C G d yX2_isAny [.inr 21] μ (fun r u => r = some (.inl out.1) ∧ u = out.2) := by
  obtain ⟨d, rfl⟩ : ∃ e, d = e + 1 := ⟨d - 1, by omega⟩
  refine wd_enter mc_X2_isAny (by decide) (by decide +kernel) rfl (Nat.le_of_ble_eq_true rfl) (L0 := [some (.inr 21)]) rfl ?_
  exact t_X2_isAny_b0 G d (by omega) μ  h
set_option maxRecDepth 100000 in
set_option maxHeartbeats 4000000 in
theorem t_X2_belong_b63 (G : wd_G) (d : Nat) (hd : 12 ≤ d) {out : Int32 × wd_Mem} (rec : Int32 → Int32 → wd_Mem → Option (Int32 × wd_Mem)) (k : Int32 → wd_Mem → Option (Int32 × wd_Mem)) (h1 : Nat) (μ : wd_Mem) (x2 x4 x5 s0 s1 : Int32) (w1 : wd_isW h1) (hrec : ∀ (x3 x5 : Int32) (μ : wd_Mem), rec x3 x5 μ = some out → wd_V G (d + 1) RX2 cX2_belong 6 (some .int) (fun r u => r = some (.inl out.1) ∧ u = out.2) 28 [some (.inr 21), some (.inr h1), some (.inl x2), some (.inl x3), some (.inl x4), some (.inl x5)] [] μ) (hk : ∀ (x3 : Int32) (μ : wd_Mem), k x3 μ = some out → wd_V G (d + 1) RX2 cX2_belong 6 (some .int) (fun r u => r = some (.inl out.1) ∧ u = out.2) 71 [some (.inr 21), some (.inr h1), none, some (.inl x3), none, none] [] μ) (h : X2_belong_b63 rec k h1 μ x2 x4 x5 s0 s1 = some out) : wd_V G (d + 1) RX2 cX2_belong 6 (some .int) (fun r u => r = some (.inl out.1) ∧ u = out.2) 63 [some (.inr 21), some (.inr h1), some (.inl x2), none, some (.inl x4), some (.inl x5)] [.inl s1, .inl s0] μ := by
  unfold X2_belong_b63 at h
  refine wv_ior (pc' := 64) dX2_belong_63 rfl ?_
  refine wv_istore_n (pc' := 65) (i := 3) (L' := [some (.inr 21), some (.inr h1), some (.inl x2), some (.inl (s0 ||| s1)), some (.inl x4), some (.inl x5)]) dX2_belong_64 rfl (by decide) rfl rfl ?_
  refine wv_inc (pc' := 68) (x := x5) (L' := [some (.inr 21), some (.inr h1), some (.inl x2), some (.inl (s0 ||| s1)), some (.inl x4), some (.inl (x5 + (1 : Int32)))]) dX2_belong_65 ic_1 rfl (by decide) rfl rfl ?_
  refine wv_goto (pc' := 28) dX2_belong_68 (by decide) ?_
  exact hrec _ _ _ h
set_option maxRecDepth 100000 in
set_option maxHeartbeats 4000000 in
theorem t_X2_belong_c28 (G : wd_G) (d : Nat) (hd : 12 ≤ d) {out : Int32 × wd_Mem} (rec : Int32 → Int32 → wd_Mem → Option (Int32 × wd_Mem)) (k : Int32 → wd_Mem → Option (Int32 × wd_Mem)) (h1 : Nat) (μ : wd_Mem) (x2 x3 x4 x5 : Int32) (w1 : wd_isW h1) (hrec : ∀ (x3 x5 : Int32) (μ : wd_Mem), rec x3 x5 μ = some out → wd_V G (d + 1) RX2 cX2_belong 6 (some .int) (fun r u => r = some (.inl out.1) ∧ u = out.2) 28 [some (.inr 21), some (.inr h1), some (.inl x2), some (.inl x3), some (.inl x4), some (.inl x5)] [] μ) (hk : ∀ (x3 : Int32) (μ : wd_Mem), k x3 μ = some out → wd_V G (d + 1) RX2 cX2_belong 6 (some .int) (fun r u => r = some (.inl out.1) ∧ u = out.2) 71 [some (.inr 21), some (.inr h1), none, some (.inl x3), none, none] [] μ) (h : X2_belong_c28 rec k h1 μ x2 x3 x4 x5 = some out) : wd_V G (d + 1) RX2 cX2_belong 6 (some .int) (fun r u => r = some (.inl out.1) ∧ u = out.2) 28 [some (.inr 21), some (.inr h1), some (.inl x2), some (.inl x3), some (.inl x4), some (.inl x5)] [] μ := by
  unfold X2_belong_c28 at h
  refine wv_iload (pc' := 30) (v := x5) dX2_belong_28 rfl rfl ?_
  refine wv_iload (pc' := 32) (v := x4) dX2_belong_30 rfl rfl ?_
  refine wv_icmp_gt (pc' := 35) (tgt := 71) dX2_belong_32 (by decide) rfl (fun c4 => ?_) (fun c4 => ?_)
  · have h := (if_pos c4).symm.trans h
    refine wv_weak (L' := [some (.inr 21), some (.inr h1), none, some (.inl x3), none, none]) ⟨rfl, rfl, rfl, trivial⟩ ?_
    exact hk _ _ h
  · have h := (if_neg c4).symm.trans h
    refine wv_aload_n (pc' := 36) (i := 0) (v := 21) dX2_belong_35 rfl rfl rfl ?_
    refine wv_aload_n (pc' := 37) (i := 1) (v := h1) dX2_belong_36 rfl rfl rfl ?_
    obtain ⟨r5, er5, h⟩ := wd_bind_some h
    refine wv_callVv (pc' := 40) (ν := r5) [.inr h1] ml_X2_47 rc_21 rfl (Nat.le_of_ble_eq_true rfl) dX2_belong_37 rfl (c_X2_open G d (Nat.le_trans (Nat.le_of_ble_eq_true rfl) hd) w1 er5) ?_
    refine wv_aload_n (pc' := 41) (i := 0) (v := 21) dX2_belong_40 rfl rfl rfl ?_
    refine wv_iload_n (pc' := 42) (i := 2) (v := x2) dX2_belong_41 rfl rfl rfl ?_
    refine wv_iload (pc' := 44) (v := x5) dX2_belong_42 rfl rfl ?_
    obtain ⟨r6, er6, h⟩ := wd_bind_some h
    refine wv_callVv (pc' := 47) (ν := r6) [.inl x2, .inl x5] ml_X2_88 rc_21 rfl (Nat.le_of_ble_eq_true rfl) dX2_belong_44 rfl (c_X2_pin G d (Nat.le_trans (Nat.le_of_ble_eq_true rfl) hd)  er6) ?_
    refine wv_iload_n (pc' := 48) (i := 3) (v := x3) dX2_belong_47 rfl rfl rfl ?_
    refine wv_aload_n (pc' := 49) (i := 0) (v := 21) dX2_belong_48 rfl rfl rfl ?_
    obtain ⟨r7, er7, h⟩ := wd_bind_some h
    refine wv_callVi (pc' := 52) (x := r7.1) (ν := r7.2) [] ml_X2_54 rc_21 rfl (Nat.le_of_ble_eq_true rfl) dX2_belong_49 rfl (c_X2_isAny G d (Nat.le_trans (Nat.le_of_ble_eq_true rfl) hd)  er7) ?_
    refine wv_if_eq (pc' := 55) (tgt := 62) dX2_belong_52 (by decide) rfl (fun c8 => ?_) (fun c8 => ?_)
    · have h := (if_pos c8).symm.trans h
      refine wv_iconst (pc' := 63) dX2_belong_62 ic_0 rfl ?_
      refine wv_weak (L' := [some (.inr 21), some (.inr h1), some (.inl x2), none, some (.inl x4), some (.inl x5)]) ⟨rfl, rfl, rfl, rfl, rfl, trivial⟩ ?_
      exact t_X2_belong_b63 G d hd rec k h1 r7.2 x2 x4 x5 x3 (0 : Int32) w1 hrec hk h
    · have h := (if_neg c8).symm.trans h
      refine wv_iconst (pc' := 56) dX2_belong_55 ic_1 rfl ?_
      refine wv_iload (pc' := 58) (v := x5) dX2_belong_56 rfl rfl ?_
      refine wv_ishl (pc' := 59) dX2_belong_58 rfl ?_
      refine wv_goto (pc' := 63) dX2_belong_59 (by decide) ?_
      refine wv_weak (L' := [some (.inr 21), some (.inr h1), some (.inl x2), none, some (.inl x4), some (.inl x5)]) ⟨rfl, rfl, rfl, rfl, rfl, trivial⟩ ?_
      exact t_X2_belong_b63 G d hd rec k h1 r7.2 x2 x4 x5 x3 ((1 : Int32) <<< (x5 &&& 31)) w1 hrec hk h
set_option maxRecDepth 100000 in
set_option maxHeartbeats 4000000 in
theorem t_X2_belong_l28 (G : wd_G) (d : Nat) (hd : 12 ≤ d) {out : Int32 × wd_Mem} (k : Int32 → wd_Mem → Option (Int32 × wd_Mem)) (h1 : Nat) (x2 x4 : Int32) (w1 : wd_isW h1) (hk : ∀ (x3 : Int32) (μ : wd_Mem), k x3 μ = some out → wd_V G (d + 1) RX2 cX2_belong 6 (some .int) (fun r u => r = some (.inl out.1) ∧ u = out.2) 71 [some (.inr 21), some (.inr h1), none, some (.inl x3), none, none] [] μ) : ∀ (n : Nat) (x3 x5 : Int32) (μ : wd_Mem), X2_belong_l28 k h1 x2 x4 n x3 x5 μ = some out → wd_V G (d + 1) RX2 cX2_belong 6 (some .int) (fun r u => r = some (.inl out.1) ∧ u = out.2) 28 [some (.inr 21), some (.inr h1), some (.inl x2), some (.inl x3), some (.inl x4), some (.inl x5)] [] μ := by
  intro n
  induction n with
  | zero => intro x3 x5 μ h; exact absurd h (by unfold X2_belong_l28; simp)
  | succ n ih =>
    intro x3 x5 μ h
    exact t_X2_belong_c28 G d hd (X2_belong_l28 k h1 x2 x4 n) k h1 μ x2 x3 x4 x5 w1 (fun x3 x5 μ h => ih x3 x5 μ h) hk h
set_option maxRecDepth 100000 in
set_option maxHeartbeats 4000000 in
theorem t_X2_belong_b71 (G : wd_G) (d : Nat) (hd : 12 ≤ d) {out : Int32 × wd_Mem} (h1 : Nat) (μ : wd_Mem) (x3 : Int32) (w1 : wd_isW h1) (h : X2_belong_b71 h1 μ x3 = some out) : wd_V G (d + 1) RX2 cX2_belong 6 (some .int) (fun r u => r = some (.inl out.1) ∧ u = out.2) 71 [some (.inr 21), some (.inr h1), none, some (.inl x3), none, none] [] μ := by
  unfold X2_belong_b71 at h
  refine wv_iload_n (pc' := 72) (i := 3) (v := x3) dX2_belong_71 rfl rfl rfl ?_
  exact wv_ireturn rfl dX2_belong_72 (wd_liv h)
set_option maxRecDepth 100000 in
set_option maxHeartbeats 4000000 in
theorem t_X2_belong_b0 (G : wd_G) (d : Nat) (hd : 12 ≤ d) {out : Int32 × wd_Mem} (h1 : Nat) (μ : wd_Mem) (x2 : Int32) (w1 : wd_isW h1) (h : X2_belong_b0 h1 μ x2 = some out) : wd_V G (d + 1) RX2 cX2_belong 6 (some .int) (fun r u => r = some (.inl out.1) ∧ u = out.2) 0 [some (.inr 21), some (.inr h1), some (.inl x2), none, none, none] [] μ := by
  unfold X2_belong_b0 at h
  refine wv_iconst (pc' := 1) dX2_belong_0 ic_0 rfl ?_
  refine wv_istore_n (pc' := 2) (i := 3) (L' := [some (.inr 21), some (.inr h1), some (.inl x2), some (.inl (0 : Int32)), none, none]) dX2_belong_1 rfl (by decide) rfl rfl ?_
  refine wv_aload_n (pc' := 3) (i := 1) (v := h1) dX2_belong_2 rfl rfl rfl ?_
  refine wv_iload_n (pc' := 4) (i := 2) (v := x2) dX2_belong_3 rfl rfl rfl ?_
  refine wv_iconst (pc' := 5) dX2_belong_4 ic_1 rfl ?_
  obtain ⟨r1, er1, h⟩ := wd_bind_some h
  refine wv_callVi (pc' := 8) (x := r1) (ν := μ) [.inl x2, .inl (1 : Int32)] ml_X2_37 (wd_rcW w1) rfl (Nat.le_of_ble_eq_true rfl) dX2_belong_5 rfl (c_X6_edge G d (Nat.le_trans (Nat.le_of_ble_eq_true rfl) hd) w1 er1) ?_
  refine wv_aload_n (pc' := 9) (i := 0) (v := 21) dX2_belong_8 rfl rfl rfl ?_
  refine wv_gr (pc' := 12) g_X2_27_21 dX2_belong_9 rfl ?_
  refine wv_gr (pc' := 15) g_X2_44_3 dX2_belong_12 rfl ?_
  refine wv_iload_n (pc' := 16) (i := 2) (v := x2) dX2_belong_15 rfl rfl rfl ?_
  obtain ⟨g2, h⟩ := wd_chk_some h
  refine wv_iald (pc' := 17) sa_4 (wd_in_vp g2) dX2_belong_16 rfl ?_
  refine wv_isub (pc' := 18) dX2_belong_17 rfl ?_
  refine wv_istore (pc' := 20) (L' := [some (.inr 21), some (.inr h1), some (.inl x2), some (.inl (0 : Int32)), some (.inl (r1 - (μ 4 (Int32.toNatClampNeg x2)))), none]) dX2_belong_18 (by decide) rfl rfl ?_
  refine wv_aload_n (pc' := 21) (i := 1) (v := h1) dX2_belong_20 rfl rfl rfl ?_
  refine wv_iload_n (pc' := 22) (i := 2) (v := x2) dX2_belong_21 rfl rfl rfl ?_
  refine wv_iconst (pc' := 23) dX2_belong_22 ic_0 rfl ?_
  obtain ⟨r3, er3, h⟩ := wd_bind_some h
  refine wv_callVi (pc' := 26) (x := r3) (ν := μ) [.inl x2, .inl (0 : Int32)] ml_X2_37 (wd_rcW w1) rfl (Nat.le_of_ble_eq_true rfl) dX2_belong_23 rfl (c_X6_edge G d (Nat.le_trans (Nat.le_of_ble_eq_true rfl) hd) w1 er3) ?_
  refine wv_istore (pc' := 28) (L' := [some (.inr 21), some (.inr h1), some (.inl x2), some (.inl (0 : Int32)), some (.inl (r1 - (μ 4 (Int32.toNatClampNeg x2)))), some (.inl r3)]) dX2_belong_26 (by decide) rfl rfl ?_
  exact t_X2_belong_l28 G d hd (fun x3 μ => X2_belong_b71 h1 μ x3) h1 x2 (r1 - (μ 4 (Int32.toNatClampNeg x2))) w1 (fun x3 μ h => t_X2_belong_b71 G d hd h1 μ x3 w1 h) wd_big (0 : Int32) r3 μ h
set_option maxRecDepth 100000 in
set_option maxHeartbeats 4000000 in
theorem c_X2_belong (G : wd_G) (d : Nat) (hd : 13 ≤ d) {h1 : Nat} {μ : wd_Mem} {x2 : Int32} {out : Int32 × wd_Mem} (w1 : wd_isW h1) (h : X2_belong h1 μ x2 = some out) : wd_C G d yX2_belong [.inr 21, .inr h1, .inl x2] μ (fun r u => r = some (.inl out.1) ∧ u = out.2) := by
  obtain ⟨d, rfl⟩ : ∃ e, d = e + 1 := ⟨d - 1, by omega⟩
  refine wd_enter mc_X2_belong (by decide) (by decide +kernel) rfl (Nat.le_of_ble_eq_true rfl) (L0 := [some (.inr 21), some (.inr h1), some (.inl x2), none, none, none]) rfl ?_
  exact t_X2_belong_b0 G d (by omega) h1 μ x2 w1 h
set_option maxRecDepth 100000 in
set_option maxHeartbeats 4000000 in
theorem t_X2_pinFirst_c24 (G : wd_G) (d : Nat) (hd : 12 ≤ d) {out : wd_Mem} (rec : Int32 → wd_Mem → Option (wd_Mem)) (k : wd_Mem → Option (wd_Mem)) (μ : wd_Mem) (x1 x2 x3 : Int32) (hrec : ∀ (x3 : Int32) (μ : wd_Mem), rec x3 μ = some out → wd_V G (d + 1) RX2 cX2_pinFirst 4 none (fun r u => r = none ∧ u = out) 24 [some (.inr 21), some (.inl x1), some (.inl x2), some (.inl x3)] [] μ) (hk : ∀  (μ : wd_Mem), k μ = some out → wd_V G (d + 1) RX2 cX2_pinFirst 4 none (fun r u => r = none ∧ u = out) 49 [some (.inr 21), none, none, none] [] μ) (h : X2_pinFirst_c24 rec k μ x1 x2 x3 = some out) : wd_V G (d + 1) RX2 cX2_pinFirst 4 none (fun r u => r = none ∧ u = out) 24 [some (.inr 21), some (.inl x1), some (.inl x2), some (.inl x3)] [] μ := by
  unfold X2_pinFirst_c24 at h
  refine wv_iload_n (pc' := 25) (i := 3) (v := x3) dX2_pinFirst_24 rfl rfl rfl ?_
  refine wv_iload_n (pc' := 26) (i := 2) (v := x2) dX2_pinFirst_25 rfl rfl rfl ?_
  refine wv_icmp_gt (pc' := 29) (tgt := 49) dX2_pinFirst_26 (by decide) rfl (fun c2 => ?_) (fun c2 => ?_)
  · have h := (if_pos c2).symm.trans h
    refine wv_weak (L' := [some (.inr 21), none, none, none]) ⟨rfl, trivial⟩ ?_
    exact hk _ h
  · have h := (if_neg c2).symm.trans h
    refine wv_aload_n (pc' := 30) (i := 0) (v := 21) dX2_pinFirst_29 rfl rfl rfl ?_
    refine wv_iload_n (pc' := 31) (i := 1) (v := x1) dX2_pinFirst_30 rfl rfl rfl ?_
    refine wv_iload_n (pc' := 32) (i := 3) (v := x3) dX2_pinFirst_31 rfl rfl rfl ?_
    obtain ⟨r3, er3, h⟩ := wd_bind_some h
    refine wv_callVv (pc' := 35) (ν := r3) [.inl x1, .inl x3] ml_X2_88 rc_21 rfl (Nat.le_of_ble_eq_true rfl) dX2_pinFirst_32 rfl (c_X2_pin G d (Nat.le_trans (Nat.le_of_ble_eq_true rfl) hd)  er3) ?_
    refine wv_aload_n (pc' := 36) (i := 0) (v := 21) dX2_pinFirst_35 rfl rfl rfl ?_
    obtain ⟨r4, er4, h⟩ := wd_bind_some h
    refine wv_callVi (pc' := 39) (x := r4.1) (ν := r4.2) [] ml_X2_54 rc_21 rfl (Nat.le_of_ble_eq_true rfl) dX2_pinFirst_36 rfl (c_X2_isAny G d (Nat.le_trans (Nat.le_of_ble_eq_true rfl) hd)  er4) ?_
    refine wv_if_eq (pc' := 42) (tgt := 43) dX2_pinFirst_39 (by decide) rfl (fun c5 => ?_) (fun c5 => ?_)
    · have h := (if_pos c5).symm.trans h
      refine wv_inc (pc' := 46) (x := x3) (L' := [some (.inr 21), some (.inl x1), some (.inl x2), some (.inl (x3 + (1 : Int32)))]) dX2_pinFirst_43 ic_1 rfl (by decide) rfl rfl ?_
      refine wv_goto (pc' := 24) dX2_pinFirst_46 (by decide) ?_
      exact hrec _ _ h
    · have h := (if_neg c5).symm.trans h
      exact wv_return rfl dX2_pinFirst_42 (wd_lv h)
set_option maxRecDepth 100000 in
set_option maxHeartbeats 4000000 in
theorem t_X2_pinFirst_l24 (G : wd_G) (d : Nat) (hd : 12 ≤ d) {out : wd_Mem} (k : wd_Mem → Option (wd_Mem)) (x1 x2 : Int32) (hk : ∀  (μ : wd_Mem), k μ = some out → wd_V G (d + 1) RX2 cX2_pinFirst 4 none (fun r u => r = none ∧ u = out) 49 [some (.inr 21), none, none, none] [] μ) : ∀ (n : Nat) (x3 : Int32) (μ : wd_Mem), X2_pinFirst_l24 k x1 x2 n x3 μ = some out → wd_V G (d + 1) RX2 cX2_pinFirst 4 none (fun r u => r = none ∧ u = out) 24 [some (.inr 21), some (.inl x1), some (.inl x2), some (.inl x3)] [] μ := by
  intro n
  induction n with
  | zero => intro x3 μ h; exact absurd h (by unfold X2_pinFirst_l24; simp)
  | succ n ih =>
    intro x3 μ h
    exact t_X2_pinFirst_c24 G d hd (X2_pinFirst_l24 k x1 x2 n) k μ x1 x2 x3  (fun x3 μ h => ih x3 μ h) hk h
set_option maxRecDepth 100000 in
set_option maxHeartbeats 4000000 in
theorem t_X2_pinFirst_b49 (G : wd_G) (d : Nat) (hd : 12 ≤ d) {out : wd_Mem} (μ : wd_Mem)  (h : X2_pinFirst_b49 μ = some out) : wd_V G (d + 1) RX2 cX2_pinFirst 4 none (fun r u => r = none ∧ u = out) 49 [some (.inr 21), none, none, none] [] μ := by
  unfold X2_pinFirst_b49 at h
  exact wv_return rfl dX2_pinFirst_49 (wd_lv h)
set_option maxRecDepth 100000 in
set_option maxHeartbeats 4000000 in
theorem t_X2_pinFirst_b0 (G : wd_G) (d : Nat) (hd : 12 ≤ d) {out : wd_Mem} (μ : wd_Mem) (x1 : Int32)  (h : X2_pinFirst_b0 μ x1 = some out) : wd_V G (d + 1) RX2 cX2_pinFirst 4 none (fun r u => r = none ∧ u = out) 0 [some (.inr 21), some (.inl x1), none, none] [] μ := by
  unfold X2_pinFirst_b0 at h
  refine wv_aload_n (pc' := 1) (i := 0) (v := 21) dX2_pinFirst_0 rfl rfl rfl ?_
  refine wv_gr (pc' := 4) g_X2_15_21 dX2_pinFirst_1 rfl ?_
  refine wv_iload_n (pc' := 5) (i := 1) (v := x1) dX2_pinFirst_4 rfl rfl rfl ?_
  obtain ⟨g1, h⟩ := wd_chk_some h
  refine wv_iald (pc' := 6) sa_23 (wd_in_vp g1) dX2_pinFirst_5 rfl ?_
  refine wv_aload_n (pc' := 7) (i := 0) (v := 21) dX2_pinFirst_6 rfl rfl rfl ?_
  refine wv_gr (pc' := 10) g_X2_27_21 dX2_pinFirst_7 rfl ?_
  refine wv_gr (pc' := 13) g_X2_44_3 dX2_pinFirst_10 rfl ?_
  refine wv_iload_n (pc' := 14) (i := 1) (v := x1) dX2_pinFirst_13 rfl rfl rfl ?_
  refine wv_iald (pc' := 15) sa_4 (wd_in_vp g1) dX2_pinFirst_14 rfl ?_
  refine wv_isub (pc' := 16) dX2_pinFirst_15 rfl ?_
  refine wv_istore_n (pc' := 17) (i := 2) (L' := [some (.inr 21), some (.inl x1), some (.inl ((μ 23 (Int32.toNatClampNeg x1)) - (μ 4 (Int32.toNatClampNeg x1)))), none]) dX2_pinFirst_16 rfl (by decide) rfl rfl ?_
  refine wv_aload_n (pc' := 18) (i := 0) (v := 21) dX2_pinFirst_17 rfl rfl rfl ?_
  refine wv_gr (pc' := 21) g_X2_9_21 dX2_pinFirst_18 rfl ?_
  refine wv_iload_n (pc' := 22) (i := 1) (v := x1) dX2_pinFirst_21 rfl rfl rfl ?_
  refine wv_iald (pc' := 23) sa_22 (wd_in_vp g1) dX2_pinFirst_22 rfl ?_
  refine wv_istore_n (pc' := 24) (i := 3) (L' := [some (.inr 21), some (.inl x1), some (.inl ((μ 23 (Int32.toNatClampNeg x1)) - (μ 4 (Int32.toNatClampNeg x1)))), some (.inl (μ 22 (Int32.toNatClampNeg x1)))]) dX2_pinFirst_23 rfl (by decide) rfl rfl ?_
  exact t_X2_pinFirst_l24 G d hd (fun μ => X2_pinFirst_b49 μ) x1 ((μ 23 (Int32.toNatClampNeg x1)) - (μ 4 (Int32.toNatClampNeg x1)))  (fun μ h => t_X2_pinFirst_b49 G d hd μ  h) wd_big (μ 22 (Int32.toNatClampNeg x1)) μ h
set_option maxRecDepth 100000 in
set_option maxHeartbeats 4000000 in
theorem c_X2_pinFirst (G : wd_G) (d : Nat) (hd : 13 ≤ d) {μ : wd_Mem} {x1 : Int32} {out : wd_Mem}  (h : X2_pinFirst μ x1 = some out) : wd_C G d yX2_pinFirst [.inr 21, .inl x1] μ (fun r u => r = none ∧ u = out) := by
  obtain ⟨d, rfl⟩ : ∃ e, d = e + 1 := ⟨d - 1, by omega⟩
  refine wd_enter mc_X2_pinFirst (by decide) (by decide +kernel) rfl (Nat.le_of_ble_eq_true rfl) (L0 := [some (.inr 21), some (.inl x1), none, none]) rfl ?_
  exact t_X2_pinFirst_b0 G d (by omega) μ x1 h
set_option maxRecDepth 100000 in
set_option maxHeartbeats 4000000 in
theorem t_X2_firstOf_c17 (G : wd_G) (d : Nat) (hd : 13 ≤ d) {out : Int32 × wd_Mem} (rec : Int32 → wd_Mem → Option (Int32 × wd_Mem)) (k : wd_Mem → Option (Int32 × wd_Mem)) (h1 : Nat) (μ : wd_Mem) (x2 x3 : Int32) (w1 : wd_isW h1) (hrec : ∀ (x3 : Int32) (μ : wd_Mem), rec x3 μ = some out → wd_V G (d + 1) RX2 cX2_firstOf 4 (some .int) (fun r u => r = some (.inl out.1) ∧ u = out.2) 17 [some (.inr 21), some (.inr h1), some (.inl x2), some (.inl x3)] [] μ) (hk : ∀  (μ : wd_Mem), k μ = some out → wd_V G (d + 1) RX2 cX2_firstOf 4 (some .int) (fun r u => r = some (.inl out.1) ∧ u = out.2) 33 [some (.inr 21), some (.inr h1), some (.inl x2), none] [] μ) (h : X2_firstOf_c17 rec k h1 μ x2 x3 = some out) : wd_V G (d + 1) RX2 cX2_firstOf 4 (some .int) (fun r u => r = some (.inl out.1) ∧ u = out.2) 17 [some (.inr 21), some (.inr h1), some (.inl x2), some (.inl x3)] [] μ := by
  unfold X2_firstOf_c17 at h
  refine wv_iload_n (pc' := 18) (i := 3) (v := x3) dX2_firstOf_17 rfl rfl rfl ?_
  refine wv_iload_n (pc' := 19) (i := 2) (v := x2) dX2_firstOf_18 rfl rfl rfl ?_
  refine wv_icmp_gt (pc' := 22) (tgt := 33) dX2_firstOf_19 (by decide) rfl (fun c4 => ?_) (fun c4 => ?_)
  · have h := (if_pos c4).symm.trans h
    refine wv_weak (L' := [some (.inr 21), some (.inr h1), some (.inl x2), none]) ⟨rfl, rfl, rfl, trivial⟩ ?_
    exact hk _ h
  · have h := (if_neg c4).symm.trans h
    refine wv_aload_n (pc' := 23) (i := 0) (v := 21) dX2_firstOf_22 rfl rfl rfl ?_
    refine wv_iload_n (pc' := 24) (i := 3) (v := x3) dX2_firstOf_23 rfl rfl rfl ?_
    obtain ⟨r5, er5, h⟩ := wd_bind_some h
    refine wv_callVv (pc' := 27) (ν := r5) [.inl x3] ml_X2_92 rc_21 rfl (Nat.le_of_ble_eq_true rfl) dX2_firstOf_24 rfl (c_X2_pinFirst G d (Nat.le_trans (Nat.le_of_ble_eq_true rfl) hd)  er5) ?_
    refine wv_inc (pc' := 30) (x := x3) (L' := [some (.inr 21), some (.inr h1), some (.inl x2), some (.inl (x3 + (1 : Int32)))]) dX2_firstOf_27 ic_1 rfl (by decide) rfl rfl ?_
    refine wv_goto (pc' := 17) dX2_firstOf_30 (by decide) ?_
    exact hrec _ _ h
set_option maxRecDepth 100000 in
set_option maxHeartbeats 4000000 in
theorem t_X2_firstOf_l17 (G : wd_G) (d : Nat) (hd : 13 ≤ d) {out : Int32 × wd_Mem} (k : wd_Mem → Option (Int32 × wd_Mem)) (h1 : Nat) (x2 : Int32) (w1 : wd_isW h1) (hk : ∀  (μ : wd_Mem), k μ = some out → wd_V G (d + 1) RX2 cX2_firstOf 4 (some .int) (fun r u => r = some (.inl out.1) ∧ u = out.2) 33 [some (.inr 21), some (.inr h1), some (.inl x2), none] [] μ) : ∀ (n : Nat) (x3 : Int32) (μ : wd_Mem), X2_firstOf_l17 k h1 x2 n x3 μ = some out → wd_V G (d + 1) RX2 cX2_firstOf 4 (some .int) (fun r u => r = some (.inl out.1) ∧ u = out.2) 17 [some (.inr 21), some (.inr h1), some (.inl x2), some (.inl x3)] [] μ := by
  intro n
  induction n with
  | zero => intro x3 μ h; exact absurd h (by unfold X2_firstOf_l17; simp)
  | succ n ih =>
    intro x3 μ h
    exact t_X2_firstOf_c17 G d hd (X2_firstOf_l17 k h1 x2 n) k h1 μ x2 x3 w1 (fun x3 μ h => ih x3 μ h) hk h
set_option maxRecDepth 100000 in
set_option maxHeartbeats 4000000 in
theorem t_X2_firstOf_b33 (G : wd_G) (d : Nat) (hd : 13 ≤ d) {out : Int32 × wd_Mem} (h1 : Nat) (μ : wd_Mem) (x2 : Int32) (w1 : wd_isW h1) (h : X2_firstOf_b33 h1 μ x2 = some out) : wd_V G (d + 1) RX2 cX2_firstOf 4 (some .int) (fun r u => r = some (.inl out.1) ∧ u = out.2) 33 [some (.inr 21), some (.inr h1), some (.inl x2), none] [] μ := by
  unfold X2_firstOf_b33 at h
  refine wv_aload_n (pc' := 34) (i := 0) (v := 21) dX2_firstOf_33 rfl rfl rfl ?_
  refine wv_gr (pc' := 37) g_X2_9_21 dX2_firstOf_34 rfl ?_
  refine wv_iload_n (pc' := 38) (i := 2) (v := x2) dX2_firstOf_37 rfl rfl rfl ?_
  obtain ⟨g6, h⟩ := wd_chk_some h
  refine wv_iald (pc' := 39) sa_22 (wd_in_vp g6) dX2_firstOf_38 rfl ?_
  exact wv_ireturn rfl dX2_firstOf_39 (wd_liv h)
set_option maxRecDepth 100000 in
set_option maxHeartbeats 4000000 in
theorem t_X2_firstOf_b0 (G : wd_G) (d : Nat) (hd : 13 ≤ d) {out : Int32 × wd_Mem} (h1 : Nat) (μ : wd_Mem) (x2 : Int32) (w1 : wd_isW h1) (h : X2_firstOf_b0 h1 μ x2 = some out) : wd_V G (d + 1) RX2 cX2_firstOf 4 (some .int) (fun r u => r = some (.inl out.1) ∧ u = out.2) 0 [some (.inr 21), some (.inr h1), some (.inl x2), none] [] μ := by
  unfold X2_firstOf_b0 at h
  refine wv_aload_n (pc' := 1) (i := 0) (v := 21) dX2_firstOf_0 rfl rfl rfl ?_
  refine wv_aload_n (pc' := 2) (i := 1) (v := h1) dX2_firstOf_1 rfl rfl rfl ?_
  obtain ⟨r1, er1, h⟩ := wd_bind_some h
  refine wv_callVv (pc' := 5) (ν := r1) [.inr h1] ml_X2_47 rc_21 rfl (Nat.le_of_ble_eq_true rfl) dX2_firstOf_2 rfl (c_X2_open G d (Nat.le_trans (Nat.le_of_ble_eq_true rfl) hd) w1 er1) ?_
  refine wv_aload_n (pc' := 6) (i := 0) (v := 21) dX2_firstOf_5 rfl rfl rfl ?_
  obtain ⟨r2, er2, h⟩ := wd_bind_some h
  refine wv_callVi (pc' := 9) (x := r2.1) (ν := r2.2) [] ml_X2_54 rc_21 rfl (Nat.le_of_ble_eq_true rfl) dX2_firstOf_6 rfl (c_X2_isAny G d (Nat.le_trans (Nat.le_of_ble_eq_true rfl) hd)  er2) ?_
  refine wv_if_ne (pc' := 12) (tgt := 15) dX2_firstOf_9 (by decide) rfl (fun c3 => ?_) (fun c3 => ?_)
  · have h := (if_neg c3).symm.trans h
    refine wv_iconst (pc' := 16) dX2_firstOf_15 ic_0 rfl ?_
    refine wv_istore_n (pc' := 17) (i := 3) (L' := [some (.inr 21), some (.inr h1), some (.inl x2), some (.inl (0 : Int32))]) dX2_firstOf_16 rfl (by decide) rfl rfl ?_
    exact t_X2_firstOf_l17 G d hd (fun μ => X2_firstOf_b33 h1 μ x2) h1 x2 w1 (fun μ h => t_X2_firstOf_b33 G d hd h1 μ x2 w1 h) wd_big (0 : Int32) r2.2 h
  · have h := (if_pos c3).symm.trans h
    refine wv_bipush (pc' := 14) dX2_firstOf_12 bp_m9 rfl ?_
    exact wv_ireturn rfl dX2_firstOf_14 (wd_liv h)
set_option maxRecDepth 100000 in
set_option maxHeartbeats 4000000 in
theorem c_X2_firstOf (G : wd_G) (d : Nat) (hd : 14 ≤ d) {h1 : Nat} {μ : wd_Mem} {x2 : Int32} {out : Int32 × wd_Mem} (w1 : wd_isW h1) (h : X2_firstOf h1 μ x2 = some out) : wd_C G d yX2_firstOf [.inr 21, .inr h1, .inl x2] μ (fun r u => r = some (.inl out.1) ∧ u = out.2) := by
  obtain ⟨d, rfl⟩ : ∃ e, d = e + 1 := ⟨d - 1, by omega⟩
  refine wd_enter mc_X2_firstOf (by decide) (by decide +kernel) rfl (Nat.le_of_ble_eq_true rfl) (L0 := [some (.inr 21), some (.inr h1), some (.inl x2), none]) rfl ?_
  exact t_X2_firstOf_b0 G d (by omega) h1 μ x2 w1 h
set_option maxRecDepth 100000 in
set_option maxHeartbeats 4000000 in
theorem t_X7_task_b0 (G : wd_G) (d : Nat) (hd : 14 ≤ d) {out : Int32 × wd_Mem} (μ : wd_Mem) (x1 x2 : Int32)  (h : X7_task_b0 μ x1 x2 = some out) : wd_V G (d + 1) RX7 cX7_task 3 (some .int) (fun r u => r = some (.inl out.1) ∧ u = out.2) 0 [some (.inr 0), some (.inl x1), some (.inl x2)] [] μ := by
  unfold X7_task_b0 at h
  refine wv_aload_n (pc' := 1) (i := 0) (v := 0) dX7_task_0 rfl rfl rfl ?_
  refine wv_gr (pc' := 4) g_X7_19_0 dX7_task_1 rfl ?_
  refine wv_iload_n (pc' := 5) (i := 1) (v := x1) dX7_task_4 rfl rfl rfl ?_
  refine wv_callVi (pc' := 8) (x := (X4_has 3 μ x1)) (ν := μ) [.inl x1] ml_X7_97 rc_3 rfl (Nat.le_of_ble_eq_true rfl) dX7_task_5 rfl (c_X4_has G d (Nat.le_trans (Nat.le_of_ble_eq_true rfl) hd) (Or.inl rfl) rfl) ?_
  refine wv_if_ne (pc' := 11) (tgt := 13) dX7_task_8 (by decide) rfl (fun c1 => ?_) (fun c1 => ?_)
  · have h := (if_neg c1).symm.trans h
    refine wv_iload_n (pc' := 14) (i := 2) (v := x2) dX7_task_13 rfl rfl rfl ?_
    by_cases n14_0 : x2 = nI 0
    · have h := (if_pos n14_0).symm.trans h
      refine wv_case (i := 0) (tgt := 52) dX7_task_14 n14_0 (by decide) (by decide) rfl (by decide) ?_
      refine wv_aload_n (pc' := 53) (i := 0) (v := 0) dX7_task_52 rfl rfl rfl ?_
      refine wv_gr (pc' := 56) g_X7_29_0 dX7_task_53 rfl ?_
      refine wv_iload_n (pc' := 57) (i := 1) (v := x1) dX7_task_56 rfl rfl rfl ?_
      refine wv_iconst (pc' := 58) dX7_task_57 ic_0 rfl ?_
      obtain ⟨r2, er2, h⟩ := wd_bind_some h
      refine wv_callVi (pc' := 61) (x := r2) (ν := μ) [.inl x1, .inl (0 : Int32)] ml_X7_100 (wd_rcW sh_48) rfl (Nat.le_of_ble_eq_true rfl) dX7_task_58 rfl (c_X6_edge G d (Nat.le_trans (Nat.le_of_ble_eq_true rfl) hd) sh_48 er2) ?_
      exact wv_ireturn rfl dX7_task_61 (wd_liv h)
    · have h := (if_neg n14_0).symm.trans h
      by_cases n14_1 : x2 = nI 1
      · have h := (if_pos n14_1).symm.trans h
        refine wv_case (i := 1) (tgt := 62) dX7_task_14 n14_1 (by decide) (by decide) rfl (by decide) ?_
        refine wv_aload_n (pc' := 63) (i := 0) (v := 0) dX7_task_62 rfl rfl rfl ?_
        refine wv_gr (pc' := 66) g_X7_29_0 dX7_task_63 rfl ?_
        refine wv_iload_n (pc' := 67) (i := 1) (v := x1) dX7_task_66 rfl rfl rfl ?_
        refine wv_iconst (pc' := 68) dX7_task_67 ic_1 rfl ?_
        obtain ⟨r3, er3, h⟩ := wd_bind_some h
        refine wv_callVi (pc' := 71) (x := r3) (ν := μ) [.inl x1, .inl (1 : Int32)] ml_X7_100 (wd_rcW sh_48) rfl (Nat.le_of_ble_eq_true rfl) dX7_task_68 rfl (c_X6_edge G d (Nat.le_trans (Nat.le_of_ble_eq_true rfl) hd) sh_48 er3) ?_
        exact wv_ireturn rfl dX7_task_71 (wd_liv h)
      · have h := (if_neg n14_1).symm.trans h
        by_cases n14_2 : x2 = nI 2
        · have h := (if_pos n14_2).symm.trans h
          refine wv_case (i := 2) (tgt := 72) dX7_task_14 n14_2 (by decide) (by decide) rfl (by decide) ?_
          refine wv_aload_n (pc' := 73) (i := 0) (v := 0) dX7_task_72 rfl rfl rfl ?_
          refine wv_gr (pc' := 76) g_X7_19_0 dX7_task_73 rfl ?_
          refine wv_gr (pc' := 79) g_X7_104_3 dX7_task_76 rfl ?_
          refine wv_iload_n (pc' := 80) (i := 1) (v := x1) dX7_task_79 rfl rfl rfl ?_
          obtain ⟨g4, h⟩ := wd_chk_some h
          refine wv_iald (pc' := 81) sa_4 (wd_in_vp g4) dX7_task_80 rfl ?_
          exact wv_ireturn rfl dX7_task_81 (wd_liv h)
        · have h := (if_neg n14_2).symm.trans h
          by_cases n14_3 : x2 = nI 3
          · have h := (if_pos n14_3).symm.trans h
            refine wv_case (i := 3) (tgt := 82) dX7_task_14 n14_3 (by decide) (by decide) rfl (by decide) ?_
            refine wv_aload_n (pc' := 83) (i := 0) (v := 0) dX7_task_82 rfl rfl rfl ?_
            refine wv_gr (pc' := 86) g_X7_19_0 dX7_task_83 rfl ?_
            refine wv_gr (pc' := 89) g_X7_108_3 dX7_task_86 rfl ?_
            refine wv_iload_n (pc' := 90) (i := 1) (v := x1) dX7_task_89 rfl rfl rfl ?_
            obtain ⟨g5, h⟩ := wd_chk_some h
            refine wv_iald (pc' := 91) sa_5 (wd_in_vp g5) dX7_task_90 rfl ?_
            exact wv_ireturn rfl dX7_task_91 (wd_liv h)
          · have h := (if_neg n14_3).symm.trans h
            by_cases n14_4 : x2 = nI 4
            · have h := (if_pos n14_4).symm.trans h
              refine wv_case (i := 4) (tgt := 92) dX7_task_14 n14_4 (by decide) (by decide) rfl (by decide) ?_
              refine wv_aload_n (pc' := 93) (i := 0) (v := 0) dX7_task_92 rfl rfl rfl ?_
              refine wv_gr (pc' := 96) g_X7_72_0 dX7_task_93 rfl ?_
              refine wv_aload_n (pc' := 97) (i := 0) (v := 0) dX7_task_96 rfl rfl rfl ?_
              refine wv_gr (pc' := 100) g_X7_29_0 dX7_task_97 rfl ?_
              refine wv_iload_n (pc' := 101) (i := 1) (v := x1) dX7_task_100 rfl rfl rfl ?_
              obtain ⟨r6, er6, h⟩ := wd_bind_some h
              refine wv_callVi (pc' := 104) (x := r6.1) (ν := r6.2) [.inr 48, .inl x1] ml_X7_111 rc_21 rfl (Nat.le_of_ble_eq_true rfl) dX7_task_101 rfl (c_X2_belong G d (Nat.le_trans (Nat.le_of_ble_eq_true rfl) hd) sh_48 er6) ?_
              exact wv_ireturn rfl dX7_task_104 (wd_liv h)
            · have h := (if_neg n14_4).symm.trans h
              by_cases n14_5 : x2 = nI 5
              · have h := (if_pos n14_5).symm.trans h
                refine wv_case (i := 5) (tgt := 105) dX7_task_14 n14_5 (by decide) (by decide) rfl (by decide) ?_
                refine wv_aload_n (pc' := 106) (i := 0) (v := 0) dX7_task_105 rfl rfl rfl ?_
                refine wv_gr (pc' := 109) g_X7_72_0 dX7_task_106 rfl ?_
                refine wv_aload_n (pc' := 110) (i := 0) (v := 0) dX7_task_109 rfl rfl rfl ?_
                refine wv_gr (pc' := 113) g_X7_29_0 dX7_task_110 rfl ?_
                refine wv_iload_n (pc' := 114) (i := 1) (v := x1) dX7_task_113 rfl rfl rfl ?_
                obtain ⟨r7, er7, h⟩ := wd_bind_some h
                refine wv_callVi (pc' := 117) (x := r7.1) (ν := r7.2) [.inr 48, .inl x1] ml_X7_115 rc_21 rfl (Nat.le_of_ble_eq_true rfl) dX7_task_114 rfl (c_X2_firstOf G d (Nat.le_trans (Nat.le_of_ble_eq_true rfl) hd) sh_48 er7) ?_
                exact wv_ireturn rfl dX7_task_117 (wd_liv h)
              · have h := (if_neg n14_5).symm.trans h
                refine wv_dflt (N := 6) (tgt := 118) dX7_task_14 (by decide) (fun i hi => by
                  rcases (show i = 0 ∨ i = 1 ∨ i = 2 ∨ i = 3 ∨ i = 4 ∨ i = 5 by omega) with rfl|rfl|rfl|rfl|rfl|rfl
                  · exact n14_0
                  · exact n14_1
                  · exact n14_2
                  · exact n14_3
                  · exact n14_4
                  · exact n14_5) (by decide) ?_
                refine wv_iconst (pc' := 119) dX7_task_118 ic_m1 rfl ?_
                exact wv_ireturn rfl dX7_task_119 (wd_liv h)
  · have h := (if_pos c1).symm.trans h
    refine wv_iconst (pc' := 12) dX7_task_11 ic_m1 rfl ?_
    exact wv_ireturn rfl dX7_task_12 (wd_liv h)
set_option maxRecDepth 100000 in
set_option maxHeartbeats 4000000 in
theorem c_X7_task (G : wd_G) (d : Nat) (hd : 15 ≤ d) {μ : wd_Mem} {x1 x2 : Int32} {out : Int32 × wd_Mem}  (h : X7_task μ x1 x2 = some out) : wd_C G d yX7_task [.inr 0, .inl x1, .inl x2] μ (fun r u => r = some (.inl out.1) ∧ u = out.2) := by
  obtain ⟨d, rfl⟩ : ∃ e, d = e + 1 := ⟨d - 1, by omega⟩
  refine wd_enter mc_X7_task (by decide) (by decide +kernel) rfl (Nat.le_of_ble_eq_true rfl) (L0 := [some (.inr 0), some (.inl x1), some (.inl x2)]) rfl ?_
  exact t_X7_task_b0 G d (by omega) μ x1 x2 h
set_option maxRecDepth 100000 in
set_option maxHeartbeats 4000000 in
theorem t_X7_isZeroOrOne_b9 (G : wd_G) (d : Nat) (hd : 0 ≤ d) {out : Int32} (μ : wd_Mem)  (h : X7_isZeroOrOne_b9 μ = out) : wd_V G (d + 1) RX7 cX7_isZeroOrOne 1 (some .boolean) (fun r u => r = some (.inl out) ∧ u = μ) 9 [none] [] μ := by
  unfold X7_isZeroOrOne_b9 at h
  refine wv_iconst (pc' := 10) dX7_isZeroOrOne_9 ic_1 rfl ?_
  refine wv_goto (pc' := 14) dX7_isZeroOrOne_10 (by decide) ?_
  exact wv_zreturn rfl rfl dX7_isZeroOrOne_14 (wd_lt h)
set_option maxRecDepth 100000 in
set_option maxHeartbeats 4000000 in
theorem t_X7_isZeroOrOne_b0 (G : wd_G) (d : Nat) (hd : 0 ≤ d) {out : Int32} (μ : wd_Mem) (x0 : Int32)  (h : X7_isZeroOrOne_b0 μ x0 = out) : wd_V G (d + 1) RX7 cX7_isZeroOrOne 1 (some .boolean) (fun r u => r = some (.inl out) ∧ u = μ) 0 [some (.inl x0)] [] μ := by
  unfold X7_isZeroOrOne_b0 at h
  refine wv_iload_n (pc' := 1) (i := 0) (v := x0) dX7_isZeroOrOne_0 rfl rfl rfl ?_
  refine wv_if_eq (pc' := 4) (tgt := 9) dX7_isZeroOrOne_1 (by decide) rfl (fun c1 => ?_) (fun c1 => ?_)
  · have h := (if_pos c1).symm.trans h
    refine wv_weak (L' := [none]) trivial ?_
    exact t_X7_isZeroOrOne_b9 G d hd μ  h
  · have h := (if_neg c1).symm.trans h
    refine wv_iload_n (pc' := 5) (i := 0) (v := x0) dX7_isZeroOrOne_4 rfl rfl rfl ?_
    refine wv_iconst (pc' := 6) dX7_isZeroOrOne_5 ic_1 rfl ?_
    refine wv_icmp_ne (pc' := 9) (tgt := 13) dX7_isZeroOrOne_6 (by decide) rfl (fun c2 => ?_) (fun c2 => ?_)
    · have h := (if_neg c2).symm.trans h
      refine wv_iconst (pc' := 14) dX7_isZeroOrOne_13 ic_0 rfl ?_
      exact wv_zreturn rfl rfl dX7_isZeroOrOne_14 (wd_lt h)
    · have h := (if_pos c2).symm.trans h
      refine wv_weak (L' := [none]) trivial ?_
      exact t_X7_isZeroOrOne_b9 G d hd μ  h
set_option maxRecDepth 100000 in
set_option maxHeartbeats 4000000 in
theorem c_X7_isZeroOrOne (G : wd_G) (d : Nat) (hd : 1 ≤ d) {μ : wd_Mem} {x0 : Int32} {out : Int32}  (h : X7_isZeroOrOne μ x0 = out) : wd_C G d yX7_isZeroOrOne [.inl x0] μ (fun r u => r = some (.inl out) ∧ u = μ) := by
  obtain ⟨d, rfl⟩ : ∃ e, d = e + 1 := ⟨d - 1, by omega⟩
  refine wd_enter mc_X7_isZeroOrOne (by decide) (by decide +kernel) rfl (Nat.le_of_ble_eq_true rfl) (L0 := [some (.inl x0)]) rfl ?_
  exact t_X7_isZeroOrOne_b0 G d (by omega) μ x0 h
set_option maxRecDepth 100000 in
set_option maxHeartbeats 4000000 in
theorem t_X6_ruleOf_b0 (G : wd_G) (d : Nat) (hd : 1 ≤ d) {out : Int32} (h0 : Nat) (μ : wd_Mem) (x1 x2 : Int32) (w0 : wd_isW h0) (h : X6_ruleOf_b0 h0 μ x1 x2 = some out) : wd_V G (d + 1) RX6 cX6_ruleOf 3 (some .int) (fun r u => r = some (.inl out) ∧ u = μ) 0 [some (.inr h0), some (.inl x1), some (.inl x2)] [] μ := by
  unfold X6_ruleOf_b0 at h
  refine wv_aload_n (pc' := 1) (i := 0) (v := h0) dX6_ruleOf_0 rfl rfl rfl ?_
  refine wv_gr (pc' := 4) (g_X6_15_W w0) dX6_ruleOf_1 rfl ?_
  refine wv_iload_n (pc' := 5) (i := 1) (v := x1) dX6_ruleOf_4 rfl rfl rfl ?_
  refine wv_iload_n (pc' := 6) (i := 2) (v := x2) dX6_ruleOf_5 rfl rfl rfl ?_
  refine wv_callSi (pc' := 9) (x := (X6_placeOf μ x1 x2)) (ν := μ) [.inl x1, .inl x2] ml_X6_21 rfl (Nat.le_of_ble_eq_true rfl) dX6_ruleOf_6 rfl (c_X6_placeOf G d (Nat.le_trans (Nat.le_of_ble_eq_true rfl) hd)  rfl) ?_
  obtain ⟨g1, h⟩ := wd_chk_some h
  refine wv_iald (pc' := 10) (wd_shW w0).2.2.1 (wd_in_vp g1) dX6_ruleOf_9 rfl ?_
  exact wv_ireturn rfl dX6_ruleOf_10 (wd_li h)
set_option maxRecDepth 100000 in
set_option maxHeartbeats 4000000 in
theorem c_X6_ruleOf (G : wd_G) (d : Nat) (hd : 2 ≤ d) {h0 : Nat} {μ : wd_Mem} {x1 x2 : Int32} {out : Int32} (w0 : wd_isW h0) (h : X6_ruleOf h0 μ x1 x2 = some out) : wd_C G d yX6_ruleOf [.inr h0, .inl x1, .inl x2] μ (fun r u => r = some (.inl out) ∧ u = μ) := by
  obtain ⟨d, rfl⟩ : ∃ e, d = e + 1 := ⟨d - 1, by omega⟩
  refine wd_enter mc_X6_ruleOf (by decide) (by decide +kernel) rfl (Nat.le_of_ble_eq_true rfl) (L0 := [some (.inr h0), some (.inl x1), some (.inl x2)]) rfl ?_
  exact t_X6_ruleOf_b0 G d (by omega) h0 μ x1 x2 w0 h
set_option maxRecDepth 100000 in
set_option maxHeartbeats 4000000 in
theorem t_X6_causeOf_b0 (G : wd_G) (d : Nat) (hd : 1 ≤ d) {out : Int32} (h0 : Nat) (μ : wd_Mem) (x1 x2 : Int32) (w0 : wd_isW h0) (h : X6_causeOf_b0 h0 μ x1 x2 = some out) : wd_V G (d + 1) RX6 cX6_causeOf 3 (some .int) (fun r u => r = some (.inl out) ∧ u = μ) 0 [some (.inr h0), some (.inl x1), some (.inl x2)] [] μ := by
  unfold X6_causeOf_b0 at h
  refine wv_aload_n (pc' := 1) (i := 0) (v := h0) dX6_causeOf_0 rfl rfl rfl ?_
  refine wv_gr (pc' := 4) (g_X6_18_W w0) dX6_causeOf_1 rfl ?_
  refine wv_iload_n (pc' := 5) (i := 1) (v := x1) dX6_causeOf_4 rfl rfl rfl ?_
  refine wv_iload_n (pc' := 6) (i := 2) (v := x2) dX6_causeOf_5 rfl rfl rfl ?_
  refine wv_callSi (pc' := 9) (x := (X6_placeOf μ x1 x2)) (ν := μ) [.inl x1, .inl x2] ml_X6_21 rfl (Nat.le_of_ble_eq_true rfl) dX6_causeOf_6 rfl (c_X6_placeOf G d (Nat.le_trans (Nat.le_of_ble_eq_true rfl) hd)  rfl) ?_
  obtain ⟨g1, h⟩ := wd_chk_some h
  refine wv_iald (pc' := 10) (wd_shW w0).2.2.2 (wd_in_vp g1) dX6_causeOf_9 rfl ?_
  exact wv_ireturn rfl dX6_causeOf_10 (wd_li h)
set_option maxRecDepth 100000 in
set_option maxHeartbeats 4000000 in
theorem c_X6_causeOf (G : wd_G) (d : Nat) (hd : 2 ≤ d) {h0 : Nat} {μ : wd_Mem} {x1 x2 : Int32} {out : Int32} (w0 : wd_isW h0) (h : X6_causeOf h0 μ x1 x2 = some out) : wd_C G d yX6_causeOf [.inr h0, .inl x1, .inl x2] μ (fun r u => r = some (.inl out) ∧ u = μ) := by
  obtain ⟨d, rfl⟩ : ∃ e, d = e + 1 := ⟨d - 1, by omega⟩
  refine wd_enter mc_X6_causeOf (by decide) (by decide +kernel) rfl (Nat.le_of_ble_eq_true rfl) (L0 := [some (.inr h0), some (.inl x1), some (.inl x2)]) rfl ?_
  exact t_X6_causeOf_b0 G d (by omega) h0 μ x1 x2 w0 h
set_option maxRecDepth 100000 in
set_option maxHeartbeats 4000000 in
theorem t_X7_why_b25 (G : wd_G) (d : Nat) (hd : 2 ≤ d) {out : Int32} (μ : wd_Mem)  (h : X7_why_b25 μ = some out) : wd_V G (d + 1) RX7 cX7_why 4 (some .int) (fun r u => r = some (.inl out) ∧ u = μ) 25 [some (.inr 0), none, none, none] [] μ := by
  unfold X7_why_b25 at h
  refine wv_iconst (pc' := 26) dX7_why_25 ic_m1 rfl ?_
  exact wv_ireturn rfl dX7_why_26 (wd_li h)
set_option maxRecDepth 100000 in
set_option maxHeartbeats 4000000 in
theorem t_X7_why_b0 (G : wd_G) (d : Nat) (hd : 2 ≤ d) {out : Int32} (μ : wd_Mem) (x1 x2 x3 : Int32)  (h : X7_why_b0 μ x1 x2 x3 = some out) : wd_V G (d + 1) RX7 cX7_why 4 (some .int) (fun r u => r = some (.inl out) ∧ u = μ) 0 [some (.inr 0), some (.inl x1), some (.inl x2), some (.inl x3)] [] μ := by
  unfold X7_why_b0 at h
  refine wv_aload_n (pc' := 1) (i := 0) (v := 0) dX7_why_0 rfl rfl rfl ?_
  refine wv_gr (pc' := 4) g_X7_19_0 dX7_why_1 rfl ?_
  refine wv_iload_n (pc' := 5) (i := 1) (v := x1) dX7_why_4 rfl rfl rfl ?_
  refine wv_callVi (pc' := 8) (x := (X4_has 3 μ x1)) (ν := μ) [.inl x1] ml_X7_97 rc_3 rfl (Nat.le_of_ble_eq_true rfl) dX7_why_5 rfl (c_X4_has G d (Nat.le_trans (Nat.le_of_ble_eq_true rfl) hd) (Or.inl rfl) rfl) ?_
  refine wv_if_eq (pc' := 11) (tgt := 25) dX7_why_8 (by decide) rfl (fun c1 => ?_) (fun c1 => ?_)
  · have h := (if_pos c1).symm.trans h
    refine wv_weak (L' := [some (.inr 0), none, none, none]) ⟨rfl, trivial⟩ ?_
    exact t_X7_why_b25 G d hd μ  h
  · have h := (if_neg c1).symm.trans h
    refine wv_iload_n (pc' := 12) (i := 2) (v := x2) dX7_why_11 rfl rfl rfl ?_
    refine wv_callSi (pc' := 15) (x := (X7_isZeroOrOne μ x2)) (ν := μ) [.inl x2] ml_X7_118 rfl (Nat.le_of_ble_eq_true rfl) dX7_why_12 rfl (c_X7_isZeroOrOne G d (Nat.le_trans (Nat.le_of_ble_eq_true rfl) hd)  rfl) ?_
    refine wv_if_eq (pc' := 18) (tgt := 25) dX7_why_15 (by decide) rfl (fun c2 => ?_) (fun c2 => ?_)
    · have h := (if_pos c2).symm.trans h
      refine wv_weak (L' := [some (.inr 0), none, none, none]) ⟨rfl, trivial⟩ ?_
      exact t_X7_why_b25 G d hd μ  h
    · have h := (if_neg c2).symm.trans h
      refine wv_iload_n (pc' := 19) (i := 3) (v := x3) dX7_why_18 rfl rfl rfl ?_
      refine wv_callSi (pc' := 22) (x := (X7_isZeroOrOne μ x3)) (ν := μ) [.inl x3] ml_X7_118 rfl (Nat.le_of_ble_eq_true rfl) dX7_why_19 rfl (c_X7_isZeroOrOne G d (Nat.le_trans (Nat.le_of_ble_eq_true rfl) hd)  rfl) ?_
      refine wv_if_ne (pc' := 25) (tgt := 27) dX7_why_22 (by decide) rfl (fun c3 => ?_) (fun c3 => ?_)
      · have h := (if_neg c3).symm.trans h
        refine wv_iload_n (pc' := 28) (i := 3) (v := x3) dX7_why_27 rfl rfl rfl ?_
        refine wv_if_ne (pc' := 31) (tgt := 43) dX7_why_28 (by decide) rfl (fun c4 => ?_) (fun c4 => ?_)
        · have h := (if_neg c4).symm.trans h
          refine wv_aload_n (pc' := 44) (i := 0) (v := 0) dX7_why_43 rfl rfl rfl ?_
          refine wv_gr (pc' := 47) g_X7_29_0 dX7_why_44 rfl ?_
          refine wv_iload_n (pc' := 48) (i := 1) (v := x1) dX7_why_47 rfl rfl rfl ?_
          refine wv_iload_n (pc' := 49) (i := 2) (v := x2) dX7_why_48 rfl rfl rfl ?_
          obtain ⟨r5, er5, h⟩ := wd_bind_some h
          refine wv_callVi (pc' := 52) (x := r5) (ν := μ) [.inl x1, .inl x2] ml_X7_124 (wd_rcW sh_48) rfl (Nat.le_of_ble_eq_true rfl) dX7_why_49 rfl (c_X6_causeOf G d (Nat.le_trans (Nat.le_of_ble_eq_true rfl) hd) sh_48 er5) ?_
          exact wv_ireturn rfl dX7_why_52 (wd_li h)
        · have h := (if_pos c4).symm.trans h
          refine wv_aload_n (pc' := 32) (i := 0) (v := 0) dX7_why_31 rfl rfl rfl ?_
          refine wv_gr (pc' := 35) g_X7_29_0 dX7_why_32 rfl ?_
          refine wv_iload_n (pc' := 36) (i := 1) (v := x1) dX7_why_35 rfl rfl rfl ?_
          refine wv_iload_n (pc' := 37) (i := 2) (v := x2) dX7_why_36 rfl rfl rfl ?_
          obtain ⟨r6, er6, h⟩ := wd_bind_some h
          refine wv_callVi (pc' := 40) (x := r6) (ν := μ) [.inl x1, .inl x2] ml_X7_121 (wd_rcW sh_48) rfl (Nat.le_of_ble_eq_true rfl) dX7_why_37 rfl (c_X6_ruleOf G d (Nat.le_trans (Nat.le_of_ble_eq_true rfl) hd) sh_48 er6) ?_
          refine wv_goto (pc' := 52) dX7_why_40 (by decide) ?_
          exact wv_ireturn rfl dX7_why_52 (wd_li h)
      · have h := (if_pos c3).symm.trans h
        refine wv_weak (L' := [some (.inr 0), none, none, none]) ⟨rfl, trivial⟩ ?_
        exact t_X7_why_b25 G d hd μ  h
set_option maxRecDepth 100000 in
set_option maxHeartbeats 4000000 in
theorem c_X7_why (G : wd_G) (d : Nat) (hd : 3 ≤ d) {μ : wd_Mem} {x1 x2 x3 : Int32} {out : Int32}  (h : X7_why μ x1 x2 x3 = some out) : wd_C G d yX7_why [.inr 0, .inl x1, .inl x2, .inl x3] μ (fun r u => r = some (.inl out) ∧ u = μ) := by
  obtain ⟨d, rfl⟩ : ∃ e, d = e + 1 := ⟨d - 1, by omega⟩
  refine wd_enter mc_X7_why (by decide) (by decide +kernel) rfl (Nat.le_of_ble_eq_true rfl) (L0 := [some (.inr 0), some (.inl x1), some (.inl x2), some (.inl x3)]) rfl ?_
  exact t_X7_why_b0 G d (by omega) μ x1 x2 x3 h
set_option maxRecDepth 100000 in
set_option maxHeartbeats 4000000 in
theorem t_X4_energy_b0 (G : wd_G) (d : Nat) (hd : 0 ≤ d) {out : Int32} (h0 : Nat) (μ : wd_Mem) (x1 : Int32) (w0 : wd_isT h0) (h : X4_energy_b0 h0 μ x1 = some out) : wd_V G (d + 1) RX4 cX4_energy 2 (some .int) (fun r u => r = some (.inl out) ∧ u = μ) 0 [some (.inr h0), some (.inl x1)] [] μ := by
  unfold X4_energy_b0 at h
  refine wv_aload_n (pc' := 1) (i := 0) (v := h0) dX4_energy_0 rfl rfl rfl ?_
  refine wv_gr (pc' := 4) (g_X4_15_T w0) dX4_energy_1 rfl ?_
  refine wv_iload_n (pc' := 5) (i := 1) (v := x1) dX4_energy_4 rfl rfl rfl ?_
  obtain ⟨g1, h⟩ := wd_chk_some h
  refine wv_iald (pc' := 6) (wd_shT w0).2.1 (wd_in_vp g1) dX4_energy_5 rfl ?_
  refine wv_aload_n (pc' := 7) (i := 0) (v := h0) dX4_energy_6 rfl rfl rfl ?_
  refine wv_gr (pc' := 10) (g_X4_19_T w0) dX4_energy_7 rfl ?_
  refine wv_iload_n (pc' := 11) (i := 1) (v := x1) dX4_energy_10 rfl rfl rfl ?_
  refine wv_iald (pc' := 12) (wd_shT w0).2.2 (wd_in_vp g1) dX4_energy_11 rfl ?_
  refine wv_imul (pc' := 13) dX4_energy_12 rfl ?_
  exact wv_ireturn rfl dX4_energy_13 (wd_li h)
set_option maxRecDepth 100000 in
set_option maxHeartbeats 4000000 in
theorem c_X4_energy (G : wd_G) (d : Nat) (hd : 1 ≤ d) {h0 : Nat} {μ : wd_Mem} {x1 : Int32} {out : Int32} (w0 : wd_isT h0) (h : X4_energy h0 μ x1 = some out) : wd_C G d yX4_energy [.inr h0, .inl x1] μ (fun r u => r = some (.inl out) ∧ u = μ) := by
  obtain ⟨d, rfl⟩ : ∃ e, d = e + 1 := ⟨d - 1, by omega⟩
  refine wd_enter mc_X4_energy (by decide) (by decide +kernel) rfl (Nat.le_of_ble_eq_true rfl) (L0 := [some (.inr h0), some (.inl x1)]) rfl ?_
  exact t_X4_energy_b0 G d (by omega) h0 μ x1 w0 h
set_option maxRecDepth 100000 in
set_option maxHeartbeats 4000000 in
theorem t_X3_sumUp_b0 (G : wd_G) (d : Nat) (hd : 1 ≤ d) {out : wd_Mem} (μ : wd_Mem) (x1 x2 : Int32)  (h : X3_sumUp_b0 μ x1 x2 = some out) : wd_V G (d + 1) RX3 cX3_sumUp 4 none (fun r u => r = none ∧ u = out) 0 [some (.inr 9), some (.inl x1), some (.inl x2), none] [] μ := by
  unfold X3_sumUp_b0 at h
  refine wv_iload_n (pc' := 1) (i := 1) (v := x1) dX3_sumUp_0 rfl rfl rfl ?_
  refine wv_iconst (pc' := 2) dX3_sumUp_1 ic_1 rfl ?_
  refine wv_iload_n (pc' := 3) (i := 2) (v := x2) dX3_sumUp_2 rfl rfl rfl ?_
  refine wv_ishl (pc' := 4) dX3_sumUp_3 rfl ?_
  refine wv_ior (pc' := 5) dX3_sumUp_4 rfl ?_
  refine wv_istore_n (pc' := 6) (i := 3) (L' := [some (.inr 9), some (.inl x1), some (.inl x2), some (.inl (x1 ||| ((1 : Int32) <<< (x2 &&& 31))))]) dX3_sumUp_5 rfl (by decide) rfl rfl ?_
  refine wv_aload_n (pc' := 7) (i := 0) (v := 9) dX3_sumUp_6 rfl rfl rfl ?_
  refine wv_gr (pc' := 10) g_X3_24_9 dX3_sumUp_7 rfl ?_
  refine wv_iload_n (pc' := 11) (i := 3) (v := (x1 ||| ((1 : Int32) <<< (x2 &&& 31)))) dX3_sumUp_10 rfl rfl rfl ?_
  refine wv_aload_n (pc' := 12) (i := 0) (v := 9) dX3_sumUp_11 rfl rfl rfl ?_
  refine wv_gr (pc' := 15) g_X3_24_9 dX3_sumUp_12 rfl ?_
  refine wv_iload_n (pc' := 16) (i := 1) (v := x1) dX3_sumUp_15 rfl rfl rfl ?_
  obtain ⟨g1, h⟩ := wd_chk_some h
  refine wv_iald (pc' := 17) sa_14 (wd_in_vp g1) dX3_sumUp_16 rfl ?_
  refine wv_aload_n (pc' := 18) (i := 0) (v := 9) dX3_sumUp_17 rfl rfl rfl ?_
  refine wv_gr (pc' := 21) g_X3_9_9 dX3_sumUp_18 rfl ?_
  refine wv_iload_n (pc' := 22) (i := 2) (v := x2) dX3_sumUp_21 rfl rfl rfl ?_
  obtain ⟨g2, h⟩ := wd_chk_some h
  refine wv_iald (pc' := 23) sa_10 (wd_in_vp g2) dX3_sumUp_22 rfl ?_
  refine wv_min (pc' := 26) mm_X3_59 (Nat.le_of_ble_eq_true rfl) dX3_sumUp_23 rfl ?_
  obtain ⟨g3, h⟩ := wd_chk_some h
  refine wv_iast (pc' := 27) sa_14 (wd_in_vp g3) dX3_sumUp_26 rfl ?_
  refine wv_aload_n (pc' := 28) (i := 0) (v := 9) dX3_sumUp_27 rfl rfl rfl ?_
  refine wv_gr (pc' := 31) g_X3_27_9 dX3_sumUp_28 rfl ?_
  refine wv_iload_n (pc' := 32) (i := 3) (v := (x1 ||| ((1 : Int32) <<< (x2 &&& 31)))) dX3_sumUp_31 rfl rfl rfl ?_
  refine wv_aload_n (pc' := 33) (i := 0) (v := 9) dX3_sumUp_32 rfl rfl rfl ?_
  refine wv_gr (pc' := 36) g_X3_27_9 dX3_sumUp_33 rfl ?_
  refine wv_iload_n (pc' := 37) (i := 1) (v := x1) dX3_sumUp_36 rfl rfl rfl ?_
  refine wv_ialdE (pc' := 38) (v := (μ 15 (Int32.toNatClampNeg x1))) sa_15 (wd_in_vp g1) dX3_sumUp_37 rfl rfl ?_
  refine wv_aload_n (pc' := 39) (i := 0) (v := 9) dX3_sumUp_38 rfl rfl rfl ?_
  refine wv_gr (pc' := 42) g_X3_15_9 dX3_sumUp_39 rfl ?_
  refine wv_iload_n (pc' := 43) (i := 2) (v := x2) dX3_sumUp_42 rfl rfl rfl ?_
  refine wv_ialdE (pc' := 44) (v := (μ 11 (Int32.toNatClampNeg x2))) sa_11 (wd_in_vp g2) dX3_sumUp_43 rfl rfl ?_
  refine wv_max (pc' := 47) mm_X3_64 (Nat.le_of_ble_eq_true rfl) dX3_sumUp_44 rfl ?_
  refine wv_iast (pc' := 48) sa_15 (wd_in_vp g3) dX3_sumUp_47 rfl ?_
  refine wv_aload_n (pc' := 49) (i := 0) (v := 9) dX3_sumUp_48 rfl rfl rfl ?_
  refine wv_gr (pc' := 52) g_X3_30_9 dX3_sumUp_49 rfl ?_
  refine wv_iload_n (pc' := 53) (i := 3) (v := (x1 ||| ((1 : Int32) <<< (x2 &&& 31)))) dX3_sumUp_52 rfl rfl rfl ?_
  refine wv_aload_n (pc' := 54) (i := 0) (v := 9) dX3_sumUp_53 rfl rfl rfl ?_
  refine wv_gr (pc' := 57) g_X3_30_9 dX3_sumUp_54 rfl ?_
  refine wv_iload_n (pc' := 58) (i := 1) (v := x1) dX3_sumUp_57 rfl rfl rfl ?_
  refine wv_ialdE (pc' := 59) (v := (μ 16 (Int32.toNatClampNeg x1))) sa_16 (wd_in_vp g1) dX3_sumUp_58 rfl rfl ?_
  refine wv_aload_n (pc' := 60) (i := 0) (v := 9) dX3_sumUp_59 rfl rfl rfl ?_
  refine wv_gr (pc' := 63) g_X3_18_9 dX3_sumUp_60 rfl ?_
  refine wv_iload_n (pc' := 64) (i := 2) (v := x2) dX3_sumUp_63 rfl rfl rfl ?_
  refine wv_ialdE (pc' := 65) (v := (μ 12 (Int32.toNatClampNeg x2))) sa_12 (wd_in_vp g2) dX3_sumUp_64 rfl rfl ?_
  refine wv_min (pc' := 68) mm_X3_59 (Nat.le_of_ble_eq_true rfl) dX3_sumUp_65 rfl ?_
  refine wv_iast (pc' := 69) sa_16 (wd_in_vp g3) dX3_sumUp_68 rfl ?_
  refine wv_aload_n (pc' := 70) (i := 0) (v := 9) dX3_sumUp_69 rfl rfl rfl ?_
  refine wv_gr (pc' := 73) g_X3_33_9 dX3_sumUp_70 rfl ?_
  refine wv_iload_n (pc' := 74) (i := 3) (v := (x1 ||| ((1 : Int32) <<< (x2 &&& 31)))) dX3_sumUp_73 rfl rfl rfl ?_
  refine wv_aload_n (pc' := 75) (i := 0) (v := 9) dX3_sumUp_74 rfl rfl rfl ?_
  refine wv_gr (pc' := 78) g_X3_33_9 dX3_sumUp_75 rfl ?_
  refine wv_iload_n (pc' := 79) (i := 1) (v := x1) dX3_sumUp_78 rfl rfl rfl ?_
  refine wv_ialdE (pc' := 80) (v := (μ 17 (Int32.toNatClampNeg x1))) sa_17 (wd_in_vp g1) dX3_sumUp_79 rfl rfl ?_
  refine wv_aload_n (pc' := 81) (i := 0) (v := 9) dX3_sumUp_80 rfl rfl rfl ?_
  refine wv_gr (pc' := 84) g_X3_36_9 dX3_sumUp_81 rfl ?_
  refine wv_iload_n (pc' := 85) (i := 2) (v := x2) dX3_sumUp_84 rfl rfl rfl ?_
  obtain ⟨r4, er4, h⟩ := wd_bind_some h
  refine wv_callVi (pc' := 88) (x := r4) (ν := (mset (mset (mset μ 14 (Int32.toNatClampNeg (x1 ||| ((1 : Int32) <<< (x2 &&& 31)))) (if (μ 10 (Int32.toNatClampNeg x2)) < (μ 14 (Int32.toNatClampNeg x1)) then (μ 10 (Int32.toNatClampNeg x2)) else (μ 14 (Int32.toNatClampNeg x1)))) 15 (Int32.toNatClampNeg (x1 ||| ((1 : Int32) <<< (x2 &&& 31)))) (if (μ 15 (Int32.toNatClampNeg x1)) < (μ 11 (Int32.toNatClampNeg x2)) then (μ 11 (Int32.toNatClampNeg x2)) else (μ 15 (Int32.toNatClampNeg x1)))) 16 (Int32.toNatClampNeg (x1 ||| ((1 : Int32) <<< (x2 &&& 31)))) (if (μ 12 (Int32.toNatClampNeg x2)) < (μ 16 (Int32.toNatClampNeg x1)) then (μ 12 (Int32.toNatClampNeg x2)) else (μ 16 (Int32.toNatClampNeg x1))))) [.inl x2] ml_X3_67 rc_3 rfl (Nat.le_of_ble_eq_true rfl) dX3_sumUp_85 rfl (c_X4_energy G d (Nat.le_trans (Nat.le_of_ble_eq_true rfl) hd) (Or.inl rfl) er4) ?_
  refine wv_iadd (pc' := 89) dX3_sumUp_88 rfl ?_
  refine wv_iast (pc' := 90) sa_17 (wd_in_vp g3) dX3_sumUp_89 rfl ?_
  exact wv_return rfl dX3_sumUp_90 (wd_lv h)
set_option maxRecDepth 100000 in
set_option maxHeartbeats 4000000 in
theorem c_X3_sumUp (G : wd_G) (d : Nat) (hd : 2 ≤ d) {μ : wd_Mem} {x1 x2 : Int32} {out : wd_Mem}  (h : X3_sumUp μ x1 x2 = some out) : wd_C G d yX3_sumUp [.inr 9, .inl x1, .inl x2] μ (fun r u => r = none ∧ u = out) := by
  obtain ⟨d, rfl⟩ : ∃ e, d = e + 1 := ⟨d - 1, by omega⟩
  refine wd_enter mc_X3_sumUp (by decide) (by decide +kernel) rfl (Nat.le_of_ble_eq_true rfl) (L0 := [some (.inr 9), some (.inl x1), some (.inl x2), none]) rfl ?_
  exact t_X3_sumUp_b0 G d (by omega) μ x1 x2 h
set_option maxRecDepth 100000 in
set_option maxHeartbeats 4000000 in
theorem t_X3_look_c116 (G : wd_G) (d : Nat) (hd : 2 ≤ d) {out : wd_Mem} (rec : Int32 → wd_Mem → Option (wd_Mem)) (k : wd_Mem → Option (wd_Mem)) (h1 : Nat) (μ : wd_Mem) (x2 x3 x4 : Int32) (w1 : wd_isW h1) (hrec : ∀ (x4 : Int32) (μ : wd_Mem), rec x4 μ = some out → wd_V G (d + 1) RX3 cX3_look 5 none (fun r u => r = none ∧ u = out) 116 [some (.inr 9), some (.inr h1), some (.inl x2), some (.inl x3), some (.inl x4)] [] μ) (hk : ∀  (μ : wd_Mem), k μ = some out → wd_V G (d + 1) RX3 cX3_look 5 none (fun r u => r = none ∧ u = out) 137 [some (.inr 9), some (.inr h1), some (.inl x2), some (.inl x3), none] [] μ) (h : X3_look_c116 rec k h1 μ x2 x3 x4 = some out) : wd_V G (d + 1) RX3 cX3_look 5 none (fun r u => r = none ∧ u = out) 116 [some (.inr 9), some (.inr h1), some (.inl x2), some (.inl x3), some (.inl x4)] [] μ := by
  unfold X3_look_c116 at h
  refine wv_iload (pc' := 118) (v := x4) dX3_look_116 rfl rfl ?_
  refine wv_iconst (pc' := 119) dX3_look_118 ic_1 rfl ?_
  refine wv_iload_n (pc' := 120) (i := 3) (v := x3) dX3_look_119 rfl rfl rfl ?_
  refine wv_ishl (pc' := 121) dX3_look_120 rfl ?_
  refine wv_icmp_ge (pc' := 124) (tgt := 137) dX3_look_121 (by decide) rfl (fun c9 => ?_) (fun c9 => ?_)
  · have h := (if_pos c9).symm.trans h
    refine wv_weak (L' := [some (.inr 9), some (.inr h1), some (.inl x2), some (.inl x3), none]) ⟨rfl, rfl, rfl, rfl, trivial⟩ ?_
    exact hk _ h
  · have h := (if_neg c9).symm.trans h
    refine wv_aload_n (pc' := 125) (i := 0) (v := 9) dX3_look_124 rfl rfl rfl ?_
    refine wv_iload (pc' := 127) (v := x4) dX3_look_125 rfl rfl ?_
    refine wv_iload_n (pc' := 128) (i := 3) (v := x3) dX3_look_127 rfl rfl rfl ?_
    obtain ⟨r10, er10, h⟩ := wd_bind_some h
    refine wv_callVv (pc' := 131) (ν := r10) [.inl x4, .inl x3] ml_X3_55 rc_9 rfl (Nat.le_of_ble_eq_true rfl) dX3_look_128 rfl (c_X3_sumUp G d (Nat.le_trans (Nat.le_of_ble_eq_true rfl) hd)  er10) ?_
    refine wv_inc (pc' := 134) (x := x4) (L' := [some (.inr 9), some (.inr h1), some (.inl x2), some (.inl x3), some (.inl (x4 + (1 : Int32)))]) dX3_look_131 ic_1 rfl (by decide) rfl rfl ?_
    refine wv_goto (pc' := 116) dX3_look_134 (by decide) ?_
    exact hrec _ _ h
set_option maxRecDepth 100000 in
set_option maxHeartbeats 4000000 in
theorem t_X3_look_l116 (G : wd_G) (d : Nat) (hd : 2 ≤ d) {out : wd_Mem} (k : wd_Mem → Option (wd_Mem)) (h1 : Nat) (x2 x3 : Int32) (w1 : wd_isW h1) (hk : ∀  (μ : wd_Mem), k μ = some out → wd_V G (d + 1) RX3 cX3_look 5 none (fun r u => r = none ∧ u = out) 137 [some (.inr 9), some (.inr h1), some (.inl x2), some (.inl x3), none] [] μ) : ∀ (n : Nat) (x4 : Int32) (μ : wd_Mem), X3_look_l116 k h1 x2 x3 n x4 μ = some out → wd_V G (d + 1) RX3 cX3_look 5 none (fun r u => r = none ∧ u = out) 116 [some (.inr 9), some (.inr h1), some (.inl x2), some (.inl x3), some (.inl x4)] [] μ := by
  intro n
  induction n with
  | zero => intro x4 μ h; exact absurd h (by unfold X3_look_l116; simp)
  | succ n ih =>
    intro x4 μ h
    exact t_X3_look_c116 G d hd (X3_look_l116 k h1 x2 x3 n) k h1 μ x2 x3 x4 w1 (fun x4 μ h => ih x4 μ h) hk h
set_option maxRecDepth 100000 in
set_option maxHeartbeats 4000000 in
theorem t_X3_look_b137 (G : wd_G) (d : Nat) (hd : 2 ≤ d) {out : wd_Mem} (rec : Int32 → wd_Mem → Option (wd_Mem)) (k : wd_Mem → Option (wd_Mem)) (h1 : Nat) (μ : wd_Mem) (x2 x3 : Int32) (w1 : wd_isW h1) (hrec : ∀ (x3 : Int32) (μ : wd_Mem), rec x3 μ = some out → wd_V G (d + 1) RX3 cX3_look 5 none (fun r u => r = none ∧ u = out) 2 [some (.inr 9), some (.inr h1), some (.inl x2), some (.inl x3), none] [] μ) (hk : ∀  (μ : wd_Mem), k μ = some out → wd_V G (d + 1) RX3 cX3_look 5 none (fun r u => r = none ∧ u = out) 143 [some (.inr 9), some (.inr h1), none, none, none] [] μ) (h : X3_look_b137 rec k h1 μ x2 x3 = some out) : wd_V G (d + 1) RX3 cX3_look 5 none (fun r u => r = none ∧ u = out) 137 [some (.inr 9), some (.inr h1), some (.inl x2), some (.inl x3), none] [] μ := by
  unfold X3_look_b137 at h
  refine wv_inc (pc' := 140) (x := x3) (L' := [some (.inr 9), some (.inr h1), some (.inl x2), some (.inl (x3 + (1 : Int32))), none]) dX3_look_137 ic_1 rfl (by decide) rfl rfl ?_
  refine wv_goto (pc' := 2) dX3_look_140 (by decide) ?_
  exact hrec _ _ h
set_option maxRecDepth 100000 in
set_option maxHeartbeats 4000000 in
theorem t_X3_look_b68 (G : wd_G) (d : Nat) (hd : 2 ≤ d) {out : wd_Mem} (rec : Int32 → wd_Mem → Option (wd_Mem)) (k : wd_Mem → Option (wd_Mem)) (h1 : Nat) (μ : wd_Mem) (x2 x3 s1 s2 : Int32) (w1 : wd_isW h1) (hrec : ∀ (x3 : Int32) (μ : wd_Mem), rec x3 μ = some out → wd_V G (d + 1) RX3 cX3_look 5 none (fun r u => r = none ∧ u = out) 2 [some (.inr 9), some (.inr h1), some (.inl x2), some (.inl x3), none] [] μ) (hk : ∀  (μ : wd_Mem), k μ = some out → wd_V G (d + 1) RX3 cX3_look 5 none (fun r u => r = none ∧ u = out) 143 [some (.inr 9), some (.inr h1), none, none, none] [] μ) (h : X3_look_b68 rec k h1 μ x2 x3 s1 s2 = some out) : wd_V G (d + 1) RX3 cX3_look 5 none (fun r u => r = none ∧ u = out) 68 [some (.inr 9), some (.inr h1), some (.inl x2), some (.inl x3), none] [.inl s2, .inl s1, .inr 11] μ := by
  unfold X3_look_b68 at h
  obtain ⟨g7, h⟩ := wd_chk_some h
  refine wv_iast (pc' := 69) sa_11 (wd_in_vp g7) dX3_look_68 rfl ?_
  refine wv_aload_n (pc' := 70) (i := 0) (v := 9) dX3_look_69 rfl rfl rfl ?_
  refine wv_gr (pc' := 73) g_X3_18_9 dX3_look_70 rfl ?_
  refine wv_iload_n (pc' := 74) (i := 3) (v := x3) dX3_look_73 rfl rfl rfl ?_
  refine wv_aload_n (pc' := 75) (i := 0) (v := 9) dX3_look_74 rfl rfl rfl ?_
  refine wv_gr (pc' := 78) g_X3_9_9 dX3_look_75 rfl ?_
  refine wv_iload_n (pc' := 79) (i := 3) (v := x3) dX3_look_78 rfl rfl rfl ?_
  obtain ⟨g8, h⟩ := wd_chk_some h
  refine wv_ialdE (pc' := 80) (v := (μ 10 (Int32.toNatClampNeg x3))) sa_10 (wd_in_vp g8) dX3_look_79 rfl rfl ?_
  refine wv_aload_n (pc' := 81) (i := 0) (v := 9) dX3_look_80 rfl rfl rfl ?_
  refine wv_gr (pc' := 84) g_X3_36_9 dX3_look_81 rfl ?_
  refine wv_gr (pc' := 87) g_X3_52_3 dX3_look_84 rfl ?_
  refine wv_iload_n (pc' := 88) (i := 3) (v := x3) dX3_look_87 rfl rfl rfl ?_
  refine wv_ialdE (pc' := 89) (v := (μ 4 (Int32.toNatClampNeg x3))) sa_4 (wd_in_vp g8) dX3_look_88 rfl rfl ?_
  refine wv_iadd (pc' := 90) dX3_look_89 rfl ?_
  refine wv_iast (pc' := 91) sa_12 (wd_in_vp g8) dX3_look_90 rfl ?_
  refine wv_aload_n (pc' := 92) (i := 0) (v := 9) dX3_look_91 rfl rfl rfl ?_
  refine wv_gr (pc' := 95) g_X3_21_9 dX3_look_92 rfl ?_
  refine wv_iload_n (pc' := 96) (i := 3) (v := x3) dX3_look_95 rfl rfl rfl ?_
  refine wv_aload_n (pc' := 97) (i := 0) (v := 9) dX3_look_96 rfl rfl rfl ?_
  refine wv_gr (pc' := 100) g_X3_15_9 dX3_look_97 rfl ?_
  refine wv_iload_n (pc' := 101) (i := 3) (v := x3) dX3_look_100 rfl rfl rfl ?_
  refine wv_ialdE (pc' := 102) (v := ((mset μ 11 (Int32.toNatClampNeg s1) s2) 11 (Int32.toNatClampNeg x3))) sa_11 (wd_in_vp g8) dX3_look_101 rfl rfl ?_
  refine wv_aload_n (pc' := 103) (i := 0) (v := 9) dX3_look_102 rfl rfl rfl ?_
  refine wv_gr (pc' := 106) g_X3_36_9 dX3_look_103 rfl ?_
  refine wv_gr (pc' := 109) g_X3_52_3 dX3_look_106 rfl ?_
  refine wv_iload_n (pc' := 110) (i := 3) (v := x3) dX3_look_109 rfl rfl rfl ?_
  refine wv_ialdE (pc' := 111) (v := (μ 4 (Int32.toNatClampNeg x3))) sa_4 (wd_in_vp g8) dX3_look_110 rfl rfl ?_
  refine wv_isub (pc' := 112) dX3_look_111 rfl ?_
  refine wv_iast (pc' := 113) sa_13 (wd_in_vp g8) dX3_look_112 rfl ?_
  refine wv_iconst (pc' := 114) dX3_look_113 ic_0 rfl ?_
  refine wv_istore (pc' := 116) (L' := [some (.inr 9), some (.inr h1), some (.inl x2), some (.inl x3), some (.inl (0 : Int32))]) dX3_look_114 (by decide) rfl rfl ?_
  exact t_X3_look_l116 G d hd (fun μ => X3_look_b137 rec k h1 μ x2 x3) h1 x2 x3 w1 (fun μ h => t_X3_look_b137 G d hd rec k h1 μ x2 x3 w1 hrec hk h) wd_big (0 : Int32) (mset (mset (mset μ 11 (Int32.toNatClampNeg s1) s2) 12 (Int32.toNatClampNeg x3) ((μ 10 (Int32.toNatClampNeg x3)) + (μ 4 (Int32.toNatClampNeg x3)))) 13 (Int32.toNatClampNeg x3) (((mset μ 11 (Int32.toNatClampNeg s1) s2) 11 (Int32.toNatClampNeg x3)) - (μ 4 (Int32.toNatClampNeg x3)))) h
set_option maxRecDepth 100000 in
set_option maxHeartbeats 4000000 in
theorem t_X3_look_b40 (G : wd_G) (d : Nat) (hd : 2 ≤ d) {out : wd_Mem} (rec : Int32 → wd_Mem → Option (wd_Mem)) (k : wd_Mem → Option (wd_Mem)) (h1 : Nat) (μ : wd_Mem) (x2 x3 s1 s2 : Int32) (w1 : wd_isW h1) (hrec : ∀ (x3 : Int32) (μ : wd_Mem), rec x3 μ = some out → wd_V G (d + 1) RX3 cX3_look 5 none (fun r u => r = none ∧ u = out) 2 [some (.inr 9), some (.inr h1), some (.inl x2), some (.inl x3), none] [] μ) (hk : ∀  (μ : wd_Mem), k μ = some out → wd_V G (d + 1) RX3 cX3_look 5 none (fun r u => r = none ∧ u = out) 143 [some (.inr 9), some (.inr h1), none, none, none] [] μ) (h : X3_look_b40 rec k h1 μ x2 x3 s1 s2 = some out) : wd_V G (d + 1) RX3 cX3_look 5 none (fun r u => r = none ∧ u = out) 40 [some (.inr 9), some (.inr h1), some (.inl x2), some (.inl x3), none] [.inl s2, .inl s1, .inr 10] μ := by
  unfold X3_look_b40 at h
  obtain ⟨g4, h⟩ := wd_chk_some h
  refine wv_iast (pc' := 41) sa_10 (wd_in_vp g4) dX3_look_40 rfl ?_
  refine wv_aload_n (pc' := 42) (i := 0) (v := 9) dX3_look_41 rfl rfl rfl ?_
  refine wv_gr (pc' := 45) g_X3_15_9 dX3_look_42 rfl ?_
  refine wv_iload_n (pc' := 46) (i := 3) (v := x3) dX3_look_45 rfl rfl rfl ?_
  refine wv_iload_n (pc' := 47) (i := 2) (v := x2) dX3_look_46 rfl rfl rfl ?_
  refine wv_if_ne (pc' := 50) (tgt := 59) dX3_look_47 (by decide) rfl (fun c5 => ?_) (fun c5 => ?_)
  · have h := (if_neg c5).symm.trans h
    refine wv_bipush (pc' := 61) dX3_look_59 bp_16 rfl ?_
    refine wv_aload_n (pc' := 62) (i := 1) (v := h1) dX3_look_61 rfl rfl rfl ?_
    refine wv_iload_n (pc' := 63) (i := 3) (v := x3) dX3_look_62 rfl rfl rfl ?_
    refine wv_iconst (pc' := 64) dX3_look_63 ic_0 rfl ?_
    obtain ⟨r6, er6, h⟩ := wd_bind_some h
    refine wv_callVi (pc' := 67) (x := r6) (ν := (mset μ 10 (Int32.toNatClampNeg s1) s2)) [.inl x3, .inl (0 : Int32)] ml_X3_46 (wd_rcW w1) rfl (Nat.le_of_ble_eq_true rfl) dX3_look_64 rfl (c_X6_edge G d (Nat.le_trans (Nat.le_of_ble_eq_true rfl) hd) w1 er6) ?_
    refine wv_isub (pc' := 68) dX3_look_67 rfl ?_
    exact t_X3_look_b68 G d hd rec k h1 (mset μ 10 (Int32.toNatClampNeg s1) s2) x2 x3 x3 ((16 : Int32) - r6) w1 hrec hk h
  · have h := (if_pos c5).symm.trans h
    refine wv_aload_n (pc' := 51) (i := 1) (v := h1) dX3_look_50 rfl rfl rfl ?_
    refine wv_iload_n (pc' := 52) (i := 3) (v := x3) dX3_look_51 rfl rfl rfl ?_
    refine wv_iconst (pc' := 53) dX3_look_52 ic_1 rfl ?_
    obtain ⟨r11, er11, h⟩ := wd_bind_some h
    refine wv_callVi (pc' := 56) (x := r11) (ν := (mset μ 10 (Int32.toNatClampNeg s1) s2)) [.inl x3, .inl (1 : Int32)] ml_X3_46 (wd_rcW w1) rfl (Nat.le_of_ble_eq_true rfl) dX3_look_53 rfl (c_X6_edge G d (Nat.le_trans (Nat.le_of_ble_eq_true rfl) hd) w1 er11) ?_
    refine wv_goto (pc' := 68) dX3_look_56 (by decide) ?_
    exact t_X3_look_b68 G d hd rec k h1 (mset μ 10 (Int32.toNatClampNeg s1) s2) x2 x3 x3 r11 w1 hrec hk h
set_option maxRecDepth 100000 in
set_option maxHeartbeats 4000000 in
theorem t_X3_look_c2 (G : wd_G) (d : Nat) (hd : 2 ≤ d) {out : wd_Mem} (rec : Int32 → wd_Mem → Option (wd_Mem)) (k : wd_Mem → Option (wd_Mem)) (h1 : Nat) (μ : wd_Mem) (x2 x3 : Int32) (w1 : wd_isW h1) (hrec : ∀ (x3 : Int32) (μ : wd_Mem), rec x3 μ = some out → wd_V G (d + 1) RX3 cX3_look 5 none (fun r u => r = none ∧ u = out) 2 [some (.inr 9), some (.inr h1), some (.inl x2), some (.inl x3), none] [] μ) (hk : ∀  (μ : wd_Mem), k μ = some out → wd_V G (d + 1) RX3 cX3_look 5 none (fun r u => r = none ∧ u = out) 143 [some (.inr 9), some (.inr h1), none, none, none] [] μ) (h : X3_look_c2 rec k h1 μ x2 x3 = some out) : wd_V G (d + 1) RX3 cX3_look 5 none (fun r u => r = none ∧ u = out) 2 [some (.inr 9), some (.inr h1), some (.inl x2), some (.inl x3), none] [] μ := by
  unfold X3_look_c2 at h
  refine wv_iload_n (pc' := 3) (i := 3) (v := x3) dX3_look_2 rfl rfl rfl ?_
  refine wv_aload_n (pc' := 4) (i := 0) (v := 9) dX3_look_3 rfl rfl rfl ?_
  refine wv_gr (pc' := 7) g_X3_36_9 dX3_look_4 rfl ?_
  refine wv_gi (pc' := 10) g_X3_40_3 dX3_look_7 rfl ?_
  refine wv_icmp_ge (pc' := 13) (tgt := 143) dX3_look_10 (by decide) rfl (fun c1 => ?_) (fun c1 => ?_)
  · have h := (if_pos c1).symm.trans h
    refine wv_weak (L' := [some (.inr 9), some (.inr h1), none, none, none]) ⟨rfl, rfl, trivial⟩ ?_
    exact hk _ h
  · have h := (if_neg c1).symm.trans h
    refine wv_aload_n (pc' := 14) (i := 0) (v := 9) dX3_look_13 rfl rfl rfl ?_
    refine wv_gr (pc' := 17) g_X3_9_9 dX3_look_14 rfl ?_
    refine wv_iload_n (pc' := 18) (i := 3) (v := x3) dX3_look_17 rfl rfl rfl ?_
    refine wv_iload_n (pc' := 19) (i := 2) (v := x2) dX3_look_18 rfl rfl rfl ?_
    refine wv_if_ne (pc' := 22) (tgt := 31) dX3_look_19 (by decide) rfl (fun c2 => ?_) (fun c2 => ?_)
    · have h := (if_neg c2).symm.trans h
      refine wv_bipush (pc' := 33) dX3_look_31 bp_16 rfl ?_
      refine wv_aload_n (pc' := 34) (i := 1) (v := h1) dX3_look_33 rfl rfl rfl ?_
      refine wv_iload_n (pc' := 35) (i := 3) (v := x3) dX3_look_34 rfl rfl rfl ?_
      refine wv_iconst (pc' := 36) dX3_look_35 ic_1 rfl ?_
      obtain ⟨r3, er3, h⟩ := wd_bind_some h
      refine wv_callVi (pc' := 39) (x := r3) (ν := μ) [.inl x3, .inl (1 : Int32)] ml_X3_46 (wd_rcW w1) rfl (Nat.le_of_ble_eq_true rfl) dX3_look_36 rfl (c_X6_edge G d (Nat.le_trans (Nat.le_of_ble_eq_true rfl) hd) w1 er3) ?_
      refine wv_isub (pc' := 40) dX3_look_39 rfl ?_
      exact t_X3_look_b40 G d hd rec k h1 μ x2 x3 x3 ((16 : Int32) - r3) w1 hrec hk h
    · have h := (if_pos c2).symm.trans h
      refine wv_aload_n (pc' := 23) (i := 1) (v := h1) dX3_look_22 rfl rfl rfl ?_
      refine wv_iload_n (pc' := 24) (i := 3) (v := x3) dX3_look_23 rfl rfl rfl ?_
      refine wv_iconst (pc' := 25) dX3_look_24 ic_0 rfl ?_
      obtain ⟨r12, er12, h⟩ := wd_bind_some h
      refine wv_callVi (pc' := 28) (x := r12) (ν := μ) [.inl x3, .inl (0 : Int32)] ml_X3_46 (wd_rcW w1) rfl (Nat.le_of_ble_eq_true rfl) dX3_look_25 rfl (c_X6_edge G d (Nat.le_trans (Nat.le_of_ble_eq_true rfl) hd) w1 er12) ?_
      refine wv_goto (pc' := 40) dX3_look_28 (by decide) ?_
      exact t_X3_look_b40 G d hd rec k h1 μ x2 x3 x3 r12 w1 hrec hk h
set_option maxRecDepth 100000 in
set_option maxHeartbeats 4000000 in
theorem t_X3_look_l2 (G : wd_G) (d : Nat) (hd : 2 ≤ d) {out : wd_Mem} (k : wd_Mem → Option (wd_Mem)) (h1 : Nat) (x2 : Int32) (w1 : wd_isW h1) (hk : ∀  (μ : wd_Mem), k μ = some out → wd_V G (d + 1) RX3 cX3_look 5 none (fun r u => r = none ∧ u = out) 143 [some (.inr 9), some (.inr h1), none, none, none] [] μ) : ∀ (n : Nat) (x3 : Int32) (μ : wd_Mem), X3_look_l2 k h1 x2 n x3 μ = some out → wd_V G (d + 1) RX3 cX3_look 5 none (fun r u => r = none ∧ u = out) 2 [some (.inr 9), some (.inr h1), some (.inl x2), some (.inl x3), none] [] μ := by
  intro n
  induction n with
  | zero => intro x3 μ h; exact absurd h (by unfold X3_look_l2; simp)
  | succ n ih =>
    intro x3 μ h
    exact t_X3_look_c2 G d hd (X3_look_l2 k h1 x2 n) k h1 μ x2 x3 w1 (fun x3 μ h => ih x3 μ h) hk h
set_option maxRecDepth 100000 in
set_option maxHeartbeats 4000000 in
theorem t_X3_look_b143 (G : wd_G) (d : Nat) (hd : 2 ≤ d) {out : wd_Mem} (h1 : Nat) (μ : wd_Mem) (w1 : wd_isW h1) (h : X3_look_b143 h1 μ = some out) : wd_V G (d + 1) RX3 cX3_look 5 none (fun r u => r = none ∧ u = out) 143 [some (.inr 9), some (.inr h1), none, none, none] [] μ := by
  unfold X3_look_b143 at h
  exact wv_return rfl dX3_look_143 (wd_lv h)
set_option maxRecDepth 100000 in
set_option maxHeartbeats 4000000 in
theorem t_X3_look_b0 (G : wd_G) (d : Nat) (hd : 2 ≤ d) {out : wd_Mem} (h1 : Nat) (μ : wd_Mem) (x2 : Int32) (w1 : wd_isW h1) (h : X3_look_b0 h1 μ x2 = some out) : wd_V G (d + 1) RX3 cX3_look 5 none (fun r u => r = none ∧ u = out) 0 [some (.inr 9), some (.inr h1), some (.inl x2), none, none] [] μ := by
  unfold X3_look_b0 at h
  refine wv_iconst (pc' := 1) dX3_look_0 ic_0 rfl ?_
  refine wv_istore_n (pc' := 2) (i := 3) (L' := [some (.inr 9), some (.inr h1), some (.inl x2), some (.inl (0 : Int32)), none]) dX3_look_1 rfl (by decide) rfl rfl ?_
  exact t_X3_look_l2 G d hd (fun μ => X3_look_b143 h1 μ) h1 x2 w1 (fun μ h => t_X3_look_b143 G d hd h1 μ w1 h) wd_big (0 : Int32) μ h
set_option maxRecDepth 100000 in
set_option maxHeartbeats 4000000 in
theorem c_X3_look (G : wd_G) (d : Nat) (hd : 3 ≤ d) {h1 : Nat} {μ : wd_Mem} {x2 : Int32} {out : wd_Mem} (w1 : wd_isW h1) (h : X3_look h1 μ x2 = some out) : wd_C G d yX3_look [.inr 9, .inr h1, .inl x2] μ (fun r u => r = none ∧ u = out) := by
  obtain ⟨d, rfl⟩ : ∃ e, d = e + 1 := ⟨d - 1, by omega⟩
  refine wd_enter mc_X3_look (by decide) (by decide +kernel) rfl (Nat.le_of_ble_eq_true rfl) (L0 := [some (.inr 9), some (.inr h1), some (.inl x2), none, none]) rfl ?_
  exact t_X3_look_b0 G d (by omega) h1 μ x2 w1 h
set_option maxRecDepth 100000 in
set_option maxHeartbeats 4000000 in
theorem t_X3_surely_b58 (G : wd_G) (d : Nat) (hd : 0 ≤ d) {out : Int32} (rec : Int32 → Int32 → Option (Int32)) (k : Int32 → Option (Int32)) (μ : wd_Mem) (x1 x2 x3 x4 : Int32) (hrec : ∀ (x3 x4 : Int32), rec x3 x4 = some out → wd_V G (d + 1) RX3 cX3_surely 5 (some .int) (fun r u => r = some (.inl out) ∧ u = μ) 5 [some (.inr 9), some (.inl x1), some (.inl x2), some (.inl x3), some (.inl x4)] [] μ) (hk : ∀ (x3 : Int32), k x3 = some out → wd_V G (d + 1) RX3 cX3_surely 5 (some .int) (fun r u => r = some (.inl out) ∧ u = μ) 64 [some (.inr 9), none, none, some (.inl x3), none] [] μ) (h : X3_surely_b58 rec k μ x1 x2 x3 x4 = some out) : wd_V G (d + 1) RX3 cX3_surely 5 (some .int) (fun r u => r = some (.inl out) ∧ u = μ) 58 [some (.inr 9), some (.inl x1), some (.inl x2), some (.inl x3), some (.inl x4)] [] μ := by
  unfold X3_surely_b58 at h
  refine wv_inc (pc' := 61) (x := x4) (L' := [some (.inr 9), some (.inl x1), some (.inl x2), some (.inl x3), some (.inl (x4 + (1 : Int32)))]) dX3_surely_58 ic_1 rfl (by decide) rfl rfl ?_
  refine wv_goto (pc' := 5) dX3_surely_61 (by decide) ?_
  exact hrec _ _ h
set_option maxRecDepth 100000 in
set_option maxHeartbeats 4000000 in
theorem t_X3_surely_c5 (G : wd_G) (d : Nat) (hd : 0 ≤ d) {out : Int32} (rec : Int32 → Int32 → Option (Int32)) (k : Int32 → Option (Int32)) (μ : wd_Mem) (x1 x2 x3 x4 : Int32) (hrec : ∀ (x3 x4 : Int32), rec x3 x4 = some out → wd_V G (d + 1) RX3 cX3_surely 5 (some .int) (fun r u => r = some (.inl out) ∧ u = μ) 5 [some (.inr 9), some (.inl x1), some (.inl x2), some (.inl x3), some (.inl x4)] [] μ) (hk : ∀ (x3 : Int32), k x3 = some out → wd_V G (d + 1) RX3 cX3_surely 5 (some .int) (fun r u => r = some (.inl out) ∧ u = μ) 64 [some (.inr 9), none, none, some (.inl x3), none] [] μ) (h : X3_surely_c5 rec k μ x1 x2 x3 x4 = some out) : wd_V G (d + 1) RX3 cX3_surely 5 (some .int) (fun r u => r = some (.inl out) ∧ u = μ) 5 [some (.inr 9), some (.inl x1), some (.inl x2), some (.inl x3), some (.inl x4)] [] μ := by
  unfold X3_surely_c5 at h
  refine wv_iload (pc' := 7) (v := x4) dX3_surely_5 rfl rfl ?_
  refine wv_aload_n (pc' := 8) (i := 0) (v := 9) dX3_surely_7 rfl rfl rfl ?_
  refine wv_gr (pc' := 11) g_X3_36_9 dX3_surely_8 rfl ?_
  refine wv_gi (pc' := 14) g_X3_40_3 dX3_surely_11 rfl ?_
  refine wv_icmp_ge (pc' := 17) (tgt := 64) dX3_surely_14 (by decide) rfl (fun c1 => ?_) (fun c1 => ?_)
  · have h := (if_pos c1).symm.trans h
    refine wv_weak (L' := [some (.inr 9), none, none, some (.inl x3), none]) ⟨rfl, rfl, trivial⟩ ?_
    exact hk _ h
  · have h := (if_neg c1).symm.trans h
    refine wv_iload (pc' := 19) (v := x4) dX3_surely_17 rfl rfl ?_
    refine wv_iload_n (pc' := 20) (i := 2) (v := x2) dX3_surely_19 rfl rfl rfl ?_
    refine wv_icmp_eq (pc' := 23) (tgt := 58) dX3_surely_20 (by decide) rfl (fun c2 => ?_) (fun c2 => ?_)
    · have h := (if_pos c2).symm.trans h
      exact t_X3_surely_b58 G d hd rec k μ x1 x2 x3 x4 hrec hk h
    · have h := (if_neg c2).symm.trans h
      refine wv_aload_n (pc' := 24) (i := 0) (v := 9) dX3_surely_23 rfl rfl rfl ?_
      refine wv_gr (pc' := 27) g_X3_21_9 dX3_surely_24 rfl ?_
      refine wv_iload (pc' := 29) (v := x4) dX3_surely_27 rfl rfl ?_
      obtain ⟨g3, h⟩ := wd_chk_some h
      refine wv_iald (pc' := 30) sa_13 (wd_in_vp g3) dX3_surely_29 rfl ?_
      refine wv_iload_n (pc' := 31) (i := 1) (v := x1) dX3_surely_30 rfl rfl rfl ?_
      refine wv_icmp_gt (pc' := 34) (tgt := 58) dX3_surely_31 (by decide) rfl (fun c4 => ?_) (fun c4 => ?_)
      · have h := (if_pos c4).symm.trans h
        exact t_X3_surely_b58 G d hd rec k μ x1 x2 x3 x4 hrec hk h
      · have h := (if_neg c4).symm.trans h
        refine wv_iload_n (pc' := 35) (i := 1) (v := x1) dX3_surely_34 rfl rfl rfl ?_
        refine wv_aload_n (pc' := 36) (i := 0) (v := 9) dX3_surely_35 rfl rfl rfl ?_
        refine wv_gr (pc' := 39) g_X3_18_9 dX3_surely_36 rfl ?_
        refine wv_iload (pc' := 41) (v := x4) dX3_surely_39 rfl rfl ?_
        refine wv_iald (pc' := 42) sa_12 (wd_in_vp g3) dX3_surely_41 rfl ?_
        refine wv_icmp_ge (pc' := 45) (tgt := 58) dX3_surely_42 (by decide) rfl (fun c5 => ?_) (fun c5 => ?_)
        · have h := (if_pos c5).symm.trans h
          exact t_X3_surely_b58 G d hd rec k μ x1 x2 x3 x4 hrec hk h
        · have h := (if_neg c5).symm.trans h
          refine wv_iload_n (pc' := 46) (i := 3) (v := x3) dX3_surely_45 rfl rfl rfl ?_
          refine wv_aload_n (pc' := 47) (i := 0) (v := 9) dX3_surely_46 rfl rfl rfl ?_
          refine wv_gr (pc' := 50) g_X3_36_9 dX3_surely_47 rfl ?_
          refine wv_gr (pc' := 53) g_X3_71_3 dX3_surely_50 rfl ?_
          refine wv_iload (pc' := 55) (v := x4) dX3_surely_53 rfl rfl ?_
          refine wv_iald (pc' := 56) sa_5 (wd_in_vp g3) dX3_surely_55 rfl ?_
          refine wv_iadd (pc' := 57) dX3_surely_56 rfl ?_
          refine wv_istore_n (pc' := 58) (i := 3) (L' := [some (.inr 9), some (.inl x1), some (.inl x2), some (.inl (x3 + (μ 5 (Int32.toNatClampNeg x4)))), some (.inl x4)]) dX3_surely_57 rfl (by decide) rfl rfl ?_
          exact t_X3_surely_b58 G d hd rec k μ x1 x2 (x3 + (μ 5 (Int32.toNatClampNeg x4))) x4 hrec hk h
set_option maxRecDepth 100000 in
set_option maxHeartbeats 4000000 in
theorem t_X3_surely_l5 (G : wd_G) (d : Nat) (hd : 0 ≤ d) {out : Int32} (k : Int32 → Option (Int32)) (μ : wd_Mem) (x1 x2 : Int32) (hk : ∀ (x3 : Int32), k x3 = some out → wd_V G (d + 1) RX3 cX3_surely 5 (some .int) (fun r u => r = some (.inl out) ∧ u = μ) 64 [some (.inr 9), none, none, some (.inl x3), none] [] μ) : ∀ (n : Nat) (x3 x4 : Int32), X3_surely_l5 k μ x1 x2 n x3 x4 = some out → wd_V G (d + 1) RX3 cX3_surely 5 (some .int) (fun r u => r = some (.inl out) ∧ u = μ) 5 [some (.inr 9), some (.inl x1), some (.inl x2), some (.inl x3), some (.inl x4)] [] μ := by
  intro n
  induction n with
  | zero => intro x3 x4 h; exact absurd h (by unfold X3_surely_l5; simp)
  | succ n ih =>
    intro x3 x4 h
    exact t_X3_surely_c5 G d hd (X3_surely_l5 k μ x1 x2 n) k μ x1 x2 x3 x4  (fun x3 x4 h => ih x3 x4 h) hk h
set_option maxRecDepth 100000 in
set_option maxHeartbeats 4000000 in
theorem t_X3_surely_b64 (G : wd_G) (d : Nat) (hd : 0 ≤ d) {out : Int32} (μ : wd_Mem) (x3 : Int32)  (h : X3_surely_b64 μ x3 = some out) : wd_V G (d + 1) RX3 cX3_surely 5 (some .int) (fun r u => r = some (.inl out) ∧ u = μ) 64 [some (.inr 9), none, none, some (.inl x3), none] [] μ := by
  unfold X3_surely_b64 at h
  refine wv_iload_n (pc' := 65) (i := 3) (v := x3) dX3_surely_64 rfl rfl rfl ?_
  exact wv_ireturn rfl dX3_surely_65 (wd_li h)
set_option maxRecDepth 100000 in
set_option maxHeartbeats 4000000 in
theorem t_X3_surely_b0 (G : wd_G) (d : Nat) (hd : 0 ≤ d) {out : Int32} (μ : wd_Mem) (x1 x2 : Int32)  (h : X3_surely_b0 μ x1 x2 = some out) : wd_V G (d + 1) RX3 cX3_surely 5 (some .int) (fun r u => r = some (.inl out) ∧ u = μ) 0 [some (.inr 9), some (.inl x1), some (.inl x2), none, none] [] μ := by
  unfold X3_surely_b0 at h
  refine wv_iconst (pc' := 1) dX3_surely_0 ic_0 rfl ?_
  refine wv_istore_n (pc' := 2) (i := 3) (L' := [some (.inr 9), some (.inl x1), some (.inl x2), some (.inl (0 : Int32)), none]) dX3_surely_1 rfl (by decide) rfl rfl ?_
  refine wv_iconst (pc' := 3) dX3_surely_2 ic_0 rfl ?_
  refine wv_istore (pc' := 5) (L' := [some (.inr 9), some (.inl x1), some (.inl x2), some (.inl (0 : Int32)), some (.inl (0 : Int32))]) dX3_surely_3 (by decide) rfl rfl ?_
  exact t_X3_surely_l5 G d hd (fun x3 => X3_surely_b64 μ x3) μ x1 x2  (fun x3 h => t_X3_surely_b64 G d hd μ x3  h) wd_big (0 : Int32) (0 : Int32) h
set_option maxRecDepth 100000 in
set_option maxHeartbeats 4000000 in
theorem c_X3_surely (G : wd_G) (d : Nat) (hd : 1 ≤ d) {μ : wd_Mem} {x1 x2 : Int32} {out : Int32}  (h : X3_surely μ x1 x2 = some out) : wd_C G d yX3_surely [.inr 9, .inl x1, .inl x2] μ (fun r u => r = some (.inl out) ∧ u = μ) := by
  obtain ⟨d, rfl⟩ : ∃ e, d = e + 1 := ⟨d - 1, by omega⟩
  refine wd_enter mc_X3_surely (by decide) (by decide +kernel) rfl (Nat.le_of_ble_eq_true rfl) (L0 := [some (.inr 9), some (.inl x1), some (.inl x2), none, none]) rfl ?_
  exact t_X3_surely_b0 G d (by omega) μ x1 x2 h
set_option maxRecDepth 100000 in
set_option maxHeartbeats 4000000 in
theorem t_X7_must_b10 (G : wd_G) (d : Nat) (hd : 3 ≤ d) {out : Int32 × wd_Mem} (μ : wd_Mem)  (h : X7_must_b10 μ = some out) : wd_V G (d + 1) RX7 cX7_must 2 (some .int) (fun r u => r = some (.inl out.1) ∧ u = out.2) 10 [some (.inr 0), none] [] μ := by
  unfold X7_must_b10 at h
  refine wv_iconst (pc' := 11) dX7_must_10 ic_m1 rfl ?_
  exact wv_ireturn rfl dX7_must_11 (wd_liv h)
set_option maxRecDepth 100000 in
set_option maxHeartbeats 4000000 in
theorem t_X7_must_b0 (G : wd_G) (d : Nat) (hd : 3 ≤ d) {out : Int32 × wd_Mem} (μ : wd_Mem) (x1 : Int32)  (h : X7_must_b0 μ x1 = some out) : wd_V G (d + 1) RX7 cX7_must 2 (some .int) (fun r u => r = some (.inl out.1) ∧ u = out.2) 0 [some (.inr 0), some (.inl x1)] [] μ := by
  unfold X7_must_b0 at h
  refine wv_iload_n (pc' := 1) (i := 1) (v := x1) dX7_must_0 rfl rfl rfl ?_
  refine wv_if_lt (pc' := 4) (tgt := 10) dX7_must_1 (by decide) rfl (fun c1 => ?_) (fun c1 => ?_)
  · have h := (if_pos c1).symm.trans h
    refine wv_weak (L' := [some (.inr 0), none]) ⟨rfl, trivial⟩ ?_
    exact t_X7_must_b10 G d hd μ  h
  · have h := (if_neg c1).symm.trans h
    refine wv_iload_n (pc' := 5) (i := 1) (v := x1) dX7_must_4 rfl rfl rfl ?_
    refine wv_bipush (pc' := 7) dX7_must_5 bp_16 rfl ?_
    refine wv_icmp_lt (pc' := 10) (tgt := 12) dX7_must_7 (by decide) rfl (fun c2 => ?_) (fun c2 => ?_)
    · have h := (if_pos c2).symm.trans h
      refine wv_aload_n (pc' := 13) (i := 0) (v := 0) dX7_must_12 rfl rfl rfl ?_
      refine wv_gr (pc' := 16) g_X7_56_0 dX7_must_13 rfl ?_
      refine wv_aload_n (pc' := 17) (i := 0) (v := 0) dX7_must_16 rfl rfl rfl ?_
      refine wv_gr (pc' := 20) g_X7_29_0 dX7_must_17 rfl ?_
      refine wv_iconst (pc' := 21) dX7_must_20 ic_0 rfl ?_
      obtain ⟨r3, er3, h⟩ := wd_bind_some h
      refine wv_callVv (pc' := 24) (ν := r3) [.inr 48, .inl (0 : Int32)] ml_X7_127 rc_9 rfl (Nat.le_of_ble_eq_true rfl) dX7_must_21 rfl (c_X3_look G d (Nat.le_trans (Nat.le_of_ble_eq_true rfl) hd) sh_48 er3) ?_
      refine wv_aload_n (pc' := 25) (i := 0) (v := 0) dX7_must_24 rfl rfl rfl ?_
      refine wv_gr (pc' := 28) g_X7_56_0 dX7_must_25 rfl ?_
      refine wv_iload_n (pc' := 29) (i := 1) (v := x1) dX7_must_28 rfl rfl rfl ?_
      refine wv_bipush (pc' := 31) dX7_must_29 bp_m9 rfl ?_
      obtain ⟨r4, er4, h⟩ := wd_bind_some h
      refine wv_callVi (pc' := 34) (x := r4) (ν := r3) [.inl x1, .inl (-9 : Int32)] ml_X7_131 rc_9 rfl (Nat.le_of_ble_eq_true rfl) dX7_must_31 rfl (c_X3_surely G d (Nat.le_trans (Nat.le_of_ble_eq_true rfl) hd)  er4) ?_
      exact wv_ireturn rfl dX7_must_34 (wd_liv h)
    · have h := (if_neg c2).symm.trans h
      refine wv_weak (L' := [some (.inr 0), none]) ⟨rfl, trivial⟩ ?_
      exact t_X7_must_b10 G d hd μ  h
set_option maxRecDepth 100000 in
set_option maxHeartbeats 4000000 in
theorem c_X7_must (G : wd_G) (d : Nat) (hd : 4 ≤ d) {μ : wd_Mem} {x1 : Int32} {out : Int32 × wd_Mem}  (h : X7_must μ x1 = some out) : wd_C G d yX7_must [.inr 0, .inl x1] μ (fun r u => r = some (.inl out.1) ∧ u = out.2) := by
  obtain ⟨d, rfl⟩ : ∃ e, d = e + 1 := ⟨d - 1, by omega⟩
  refine wd_enter mc_X7_must (by decide) (by decide +kernel) rfl (Nat.le_of_ble_eq_true rfl) (L0 := [some (.inr 0), some (.inl x1)]) rfl ?_
  exact t_X7_must_b0 G d (by omega) μ x1 h
set_option maxRecDepth 100000 in
set_option maxHeartbeats 4000000 in
theorem t_X6_isBroken_c2 (G : wd_G) (d : Nat) (hd : 2 ≤ d) {out : Int32} (rec : Int32 → Option (Int32)) (k : Option (Int32)) (h0 : Nat) (h1 : Nat) (μ : wd_Mem) (x2 : Int32) (w0 : wd_isW h0) (w1 : wd_isT h1) (hrec : ∀ (x2 : Int32), rec x2 = some out → wd_V G (d + 1) RX6 cX6_isBroken 3 (some .boolean) (fun r u => r = some (.inl out) ∧ u = μ) 2 [some (.inr h0), some (.inr h1), some (.inl x2)] [] μ) (hk : k = some out → wd_V G (d + 1) RX6 cX6_isBroken 3 (some .boolean) (fun r u => r = some (.inl out) ∧ u = μ) 40 [some (.inr h0), some (.inr h1), none] [] μ) (h : X6_isBroken_c2 rec k h0 h1 μ x2 = some out) : wd_V G (d + 1) RX6 cX6_isBroken 3 (some .boolean) (fun r u => r = some (.inl out) ∧ u = μ) 2 [some (.inr h0), some (.inr h1), some (.inl x2)] [] μ := by
  unfold X6_isBroken_c2 at h
  refine wv_iload_n (pc' := 3) (i := 2) (v := x2) dX6_isBroken_2 rfl rfl rfl ?_
  refine wv_aload_n (pc' := 4) (i := 1) (v := h1) dX6_isBroken_3 rfl rfl rfl ?_
  refine wv_gi (pc' := 7) (g_X6_29_T w1) dX6_isBroken_4 rfl ?_
  refine wv_icmp_ge (pc' := 10) (tgt := 40) dX6_isBroken_7 (by decide) rfl (fun c1 => ?_) (fun c1 => ?_)
  · have h := (if_pos c1).symm.trans h
    refine wv_weak (L' := [some (.inr h0), some (.inr h1), none]) ⟨rfl, rfl, trivial⟩ ?_
    exact hk  h
  · have h := (if_neg c1).symm.trans h
    refine wv_aload_n (pc' := 11) (i := 0) (v := h0) dX6_isBroken_10 rfl rfl rfl ?_
    refine wv_iload_n (pc' := 12) (i := 2) (v := x2) dX6_isBroken_11 rfl rfl rfl ?_
    refine wv_iconst (pc' := 13) dX6_isBroken_12 ic_0 rfl ?_
    obtain ⟨r2, er2, h⟩ := wd_bind_some h
    refine wv_callVi (pc' := 16) (x := r2) (ν := μ) [.inl x2, .inl (0 : Int32)] ml_X6_35 (wd_rcW w0) rfl (Nat.le_of_ble_eq_true rfl) dX6_isBroken_13 rfl (c_X6_edge G d (Nat.le_trans (Nat.le_of_ble_eq_true rfl) hd) w0 er2) ?_
    refine wv_aload_n (pc' := 17) (i := 1) (v := h1) dX6_isBroken_16 rfl rfl rfl ?_
    refine wv_gr (pc' := 20) (g_X6_38_T w1) dX6_isBroken_17 rfl ?_
    refine wv_iload_n (pc' := 21) (i := 2) (v := x2) dX6_isBroken_20 rfl rfl rfl ?_
    obtain ⟨g3, h⟩ := wd_chk_some h
    refine wv_iald (pc' := 22) (wd_shT w1).2.1 (wd_in_vp g3) dX6_isBroken_21 rfl ?_
    refine wv_iadd (pc' := 23) dX6_isBroken_22 rfl ?_
    refine wv_aload_n (pc' := 24) (i := 0) (v := h0) dX6_isBroken_23 rfl rfl rfl ?_
    refine wv_iload_n (pc' := 25) (i := 2) (v := x2) dX6_isBroken_24 rfl rfl rfl ?_
    refine wv_iconst (pc' := 26) dX6_isBroken_25 ic_1 rfl ?_
    obtain ⟨r4, er4, h⟩ := wd_bind_some h
    refine wv_callVi (pc' := 29) (x := r4) (ν := μ) [.inl x2, .inl (1 : Int32)] ml_X6_35 (wd_rcW w0) rfl (Nat.le_of_ble_eq_true rfl) dX6_isBroken_26 rfl (c_X6_edge G d (Nat.le_trans (Nat.le_of_ble_eq_true rfl) hd) w0 er4) ?_
    refine wv_icmp_le (pc' := 32) (tgt := 34) dX6_isBroken_29 (by decide) rfl (fun c5 => ?_) (fun c5 => ?_)
    · have h := (if_pos c5).symm.trans h
      refine wv_inc (pc' := 37) (x := x2) (L' := [some (.inr h0), some (.inr h1), some (.inl (x2 + (1 : Int32)))]) dX6_isBroken_34 ic_1 rfl (by decide) rfl rfl ?_
      refine wv_goto (pc' := 2) dX6_isBroken_37 (by decide) ?_
      exact hrec _ h
    · have h := (if_neg c5).symm.trans h
      refine wv_iconst (pc' := 33) dX6_isBroken_32 ic_1 rfl ?_
      exact wv_zreturn rfl rfl dX6_isBroken_33 (wd_li h)
set_option maxRecDepth 100000 in
set_option maxHeartbeats 4000000 in
theorem t_X6_isBroken_l2 (G : wd_G) (d : Nat) (hd : 2 ≤ d) {out : Int32} (k : Option (Int32)) (h0 : Nat) (h1 : Nat) (μ : wd_Mem) (w0 : wd_isW h0) (w1 : wd_isT h1) (hk : k = some out → wd_V G (d + 1) RX6 cX6_isBroken 3 (some .boolean) (fun r u => r = some (.inl out) ∧ u = μ) 40 [some (.inr h0), some (.inr h1), none] [] μ) : ∀ (n : Nat) (x2 : Int32), X6_isBroken_l2 k h0 h1 μ n x2 = some out → wd_V G (d + 1) RX6 cX6_isBroken 3 (some .boolean) (fun r u => r = some (.inl out) ∧ u = μ) 2 [some (.inr h0), some (.inr h1), some (.inl x2)] [] μ := by
  intro n
  induction n with
  | zero => intro x2 h; exact absurd h (by unfold X6_isBroken_l2; simp)
  | succ n ih =>
    intro x2 h
    exact t_X6_isBroken_c2 G d hd (X6_isBroken_l2 k h0 h1 μ n) k h0 h1 μ x2 w0 w1 (fun x2 h => ih x2 h) hk h
set_option maxRecDepth 100000 in
set_option maxHeartbeats 4000000 in
theorem t_X6_isBroken_b40 (G : wd_G) (d : Nat) (hd : 2 ≤ d) {out : Int32} (h0 : Nat) (h1 : Nat) (μ : wd_Mem) (w0 : wd_isW h0) (w1 : wd_isT h1) (h : X6_isBroken_b40 h0 h1 μ = some out) : wd_V G (d + 1) RX6 cX6_isBroken 3 (some .boolean) (fun r u => r = some (.inl out) ∧ u = μ) 40 [some (.inr h0), some (.inr h1), none] [] μ := by
  unfold X6_isBroken_b40 at h
  refine wv_iconst (pc' := 41) dX6_isBroken_40 ic_0 rfl ?_
  exact wv_zreturn rfl rfl dX6_isBroken_41 (wd_li h)
set_option maxRecDepth 100000 in
set_option maxHeartbeats 4000000 in
theorem t_X6_isBroken_b0 (G : wd_G) (d : Nat) (hd : 2 ≤ d) {out : Int32} (h0 : Nat) (h1 : Nat) (μ : wd_Mem) (w0 : wd_isW h0) (w1 : wd_isT h1) (h : X6_isBroken_b0 h0 h1 μ = some out) : wd_V G (d + 1) RX6 cX6_isBroken 3 (some .boolean) (fun r u => r = some (.inl out) ∧ u = μ) 0 [some (.inr h0), some (.inr h1), none] [] μ := by
  unfold X6_isBroken_b0 at h
  refine wv_iconst (pc' := 1) dX6_isBroken_0 ic_0 rfl ?_
  refine wv_istore_n (pc' := 2) (i := 2) (L' := [some (.inr h0), some (.inr h1), some (.inl (0 : Int32))]) dX6_isBroken_1 rfl (by decide) rfl rfl ?_
  exact t_X6_isBroken_l2 G d hd (X6_isBroken_b40 h0 h1 μ) h0 h1 μ w0 w1 (fun  h => t_X6_isBroken_b40 G d hd h0 h1 μ w0 w1 h) wd_big (0 : Int32) h
set_option maxRecDepth 100000 in
set_option maxHeartbeats 4000000 in
theorem c_X6_isBroken (G : wd_G) (d : Nat) (hd : 3 ≤ d) {h0 : Nat} {h1 : Nat} {μ : wd_Mem} {out : Int32} (w0 : wd_isW h0) (w1 : wd_isT h1) (h : X6_isBroken h0 h1 μ = some out) : wd_C G d yX6_isBroken [.inr h0, .inr h1] μ (fun r u => r = some (.inl out) ∧ u = μ) := by
  obtain ⟨d, rfl⟩ : ∃ e, d = e + 1 := ⟨d - 1, by omega⟩
  refine wd_enter mc_X6_isBroken (by decide) (by decide +kernel) rfl (Nat.le_of_ble_eq_true rfl) (L0 := [some (.inr h0), some (.inr h1), none]) rfl ?_
  exact t_X6_isBroken_b0 G d (by omega) h0 h1 μ  w0 w1 h
set_option maxRecDepth 100000 in
set_option maxHeartbeats 4000000 in
theorem t_X0_add_b0 (G : wd_G) (d : Nat) (hd : 1 ≤ d) {out : wd_Mem} (h1 : Nat) (μ : wd_Mem) (w1 : wd_isW h1) (h : X0_add_b0 h1 μ = some out) : wd_V G (d + 1) RX0 cX0_add 2 none (fun r u => r = none ∧ u = out) 0 [some (.inr 27), some (.inr h1)] [] μ := by
  unfold X0_add_b0 at h
  refine wv_aload_n (pc' := 1) (i := 0) (v := 27) dX0_add_0 rfl rfl rfl ?_
  refine wv_aload_n (pc' := 2) (i := 0) (v := 27) dX0_add_1 rfl rfl rfl ?_
  refine wv_gi (pc' := 5) g_X0_18_27 dX0_add_2 rfl ?_
  refine wv_iconst (pc' := 6) dX0_add_5 ic_1 rfl ?_
  refine wv_iadd (pc' := 7) dX0_add_6 rfl ?_
  refine wv_bipush (pc' := 9) dX0_add_7 bp_10 rfl ?_
  obtain ⟨g1, h⟩ := wd_chk_some h
  refine wv_irem (pc' := 10) dX0_add_9 (wd_nz_ne g1) rfl ?_
  refine wv_pi (pc' := 13) p_X0_18_27 dX0_add_10 rfl ?_
  refine wv_aload_n (pc' := 14) (i := 0) (v := 27) dX0_add_13 rfl rfl rfl ?_
  refine wv_gr (pc' := 17) g_X0_11_27 dX0_add_14 rfl ?_
  refine wv_aload_n (pc' := 18) (i := 0) (v := 27) dX0_add_17 rfl rfl rfl ?_
  refine wv_giE (pc' := 21) (v := (((μ 27 1) + (1 : Int32)) - ((μ 27 1) + (1 : Int32)) / (10 : Int32) * (10 : Int32))) g_X0_18_27 dX0_add_18 rfl rfl ?_
  obtain ⟨g2, h⟩ := wd_chk_some h
  obtain ⟨a21, ea21, h⟩ := wd_bind_some h
  have wa21 : wd_isW a21 := wd_ringW ea21
  refine wv_aald (pc' := 22) sr_28 (wd_in_vp g2) ea21 dX0_add_21 rfl ?_
  refine wv_aload_n (pc' := 23) (i := 1) (v := h1) dX0_add_22 rfl rfl rfl ?_
  obtain ⟨r3, er3, h⟩ := wd_bind_some h
  refine wv_callVv (pc' := 26) (ν := r3) [.inr h1] ml_X0_22 (wd_rcW wa21) rfl (Nat.le_of_ble_eq_true rfl) dX0_add_23 rfl (c_X6_take G d (Nat.le_trans (Nat.le_of_ble_eq_true rfl) hd) wa21 w1 er3) ?_
  refine wv_aload_n (pc' := 27) (i := 0) (v := 27) dX0_add_26 rfl rfl rfl ?_
  refine wv_bipush (pc' := 29) dX0_add_27 bp_10 rfl ?_
  refine wv_aload_n (pc' := 30) (i := 0) (v := 27) dX0_add_29 rfl rfl rfl ?_
  refine wv_gi (pc' := 33) g_X0_26_27 dX0_add_30 rfl ?_
  refine wv_iconst (pc' := 34) dX0_add_33 ic_1 rfl ?_
  refine wv_iadd (pc' := 35) dX0_add_34 rfl ?_
  refine wv_min (pc' := 38) mm_X0_29 (Nat.le_of_ble_eq_true rfl) dX0_add_35 rfl ?_
  refine wv_pi (pc' := 41) p_X0_26_27 dX0_add_38 rfl ?_
  exact wv_return rfl dX0_add_41 (wd_lv h)
set_option maxRecDepth 100000 in
set_option maxHeartbeats 4000000 in
theorem c_X0_add (G : wd_G) (d : Nat) (hd : 2 ≤ d) {h1 : Nat} {μ : wd_Mem} {out : wd_Mem} (w1 : wd_isW h1) (h : X0_add h1 μ = some out) : wd_C G d yX0_add [.inr 27, .inr h1] μ (fun r u => r = none ∧ u = out) := by
  obtain ⟨d, rfl⟩ : ∃ e, d = e + 1 := ⟨d - 1, by omega⟩
  refine wd_enter mc_X0_add (by decide) (by decide +kernel) rfl (Nat.le_of_ble_eq_true rfl) (L0 := [some (.inr 27), some (.inr h1)]) rfl ?_
  exact t_X0_add_b0 G d (by omega) h1 μ  w1 h
set_option maxRecDepth 100000 in
set_option maxHeartbeats 4000000 in
theorem t_X1_tell_b0 (G : wd_G) (d : Nat) (hd : 0 ≤ d) {out : wd_Mem} (μ : wd_Mem) (x1 x2 x3 : Int32)  (h : X1_tell_b0 μ x1 x2 x3 = some out) : wd_V G (d + 1) RX1 cX1_tell 4 none (fun r u => r = none ∧ u = out) 0 [some (.inr 18), some (.inl x1), some (.inl x2), some (.inl x3)] [] μ := by
  unfold X1_tell_b0 at h
  refine wv_iload_n (pc' := 1) (i := 2) (v := x2) dX1_tell_0 rfl rfl rfl ?_
  refine wv_aload_n (pc' := 2) (i := 0) (v := 18) dX1_tell_1 rfl rfl rfl ?_
  refine wv_gr (pc' := 5) g_X1_9_18 dX1_tell_2 rfl ?_
  refine wv_iload_n (pc' := 6) (i := 1) (v := x1) dX1_tell_5 rfl rfl rfl ?_
  obtain ⟨g1, h⟩ := wd_chk_some h
  refine wv_iald (pc' := 7) sa_19 (wd_in_vp g1) dX1_tell_6 rfl ?_
  refine wv_icmp_le (pc' := 10) (tgt := 24) dX1_tell_7 (by decide) rfl (fun c2 => ?_) (fun c2 => ?_)
  · have h := (if_pos c2).symm.trans h
    exact wv_return rfl dX1_tell_24 (wd_lv h)
  · have h := (if_neg c2).symm.trans h
    refine wv_aload_n (pc' := 11) (i := 0) (v := 18) dX1_tell_10 rfl rfl rfl ?_
    refine wv_gr (pc' := 14) g_X1_9_18 dX1_tell_11 rfl ?_
    refine wv_iload_n (pc' := 15) (i := 1) (v := x1) dX1_tell_14 rfl rfl rfl ?_
    refine wv_iload_n (pc' := 16) (i := 2) (v := x2) dX1_tell_15 rfl rfl rfl ?_
    refine wv_iast (pc' := 17) sa_19 (wd_in_vp g1) dX1_tell_16 rfl ?_
    refine wv_aload_n (pc' := 18) (i := 0) (v := 18) dX1_tell_17 rfl rfl rfl ?_
    refine wv_gr (pc' := 21) g_X1_15_18 dX1_tell_18 rfl ?_
    refine wv_iload_n (pc' := 22) (i := 1) (v := x1) dX1_tell_21 rfl rfl rfl ?_
    refine wv_iload_n (pc' := 23) (i := 3) (v := x3) dX1_tell_22 rfl rfl rfl ?_
    refine wv_iast (pc' := 24) sa_20 (wd_in_vp g1) dX1_tell_23 rfl ?_
    exact wv_return rfl dX1_tell_24 (wd_lv h)
set_option maxRecDepth 100000 in
set_option maxHeartbeats 4000000 in
theorem c_X1_tell (G : wd_G) (d : Nat) (hd : 1 ≤ d) {μ : wd_Mem} {x1 x2 x3 : Int32} {out : wd_Mem}  (h : X1_tell μ x1 x2 x3 = some out) : wd_C G d yX1_tell [.inr 18, .inl x1, .inl x2, .inl x3] μ (fun r u => r = none ∧ u = out) := by
  obtain ⟨d, rfl⟩ : ∃ e, d = e + 1 := ⟨d - 1, by omega⟩
  refine wd_enter mc_X1_tell (by decide) (by decide +kernel) rfl (Nat.le_of_ble_eq_true rfl) (L0 := [some (.inr 18), some (.inl x1), some (.inl x2), some (.inl x3)]) rfl ?_
  exact t_X1_tell_b0 G d (by omega) μ x1 x2 x3 h
set_option maxRecDepth 100000 in
set_option maxHeartbeats 4000000 in
theorem t_X1_byMust_b73 (G : wd_G) (d : Nat) (hd : 1 ≤ d) {out : wd_Mem} (rec : Int32 → Int32 → Option (wd_Mem)) (k : Option (wd_Mem)) (μ : wd_Mem) (x1 x3 s0 : Int32) (hrec : ∀ (x2 x3 : Int32), rec x2 x3 = some out → wd_V G (d + 1) RX1 cX1_byMust 5 none (fun r u => r = none ∧ u = out) 12 [some (.inr 18), some (.inl x1), some (.inl x2), some (.inl x3), none] [] μ) (hk : k = some out → wd_V G (d + 1) RX1 cX1_byMust 5 none (fun r u => r = none ∧ u = out) 105 [some (.inr 18), some (.inl x1), none, none, none] [] μ) (h : X1_byMust_b73 rec k μ x1 x3 s0 = some out) : wd_V G (d + 1) RX1 cX1_byMust 5 none (fun r u => r = none ∧ u = out) 73 [some (.inr 18), some (.inl x1), none, some (.inl x3), none] [.inl s0] μ := by
  unfold X1_byMust_b73 at h
  refine wv_istore_n (pc' := 74) (i := 2) (L' := [some (.inr 18), some (.inl x1), some (.inl s0), some (.inl x3), none]) dX1_byMust_73 rfl (by decide) rfl rfl ?_
  refine wv_iload_n (pc' := 75) (i := 2) (v := s0) dX1_byMust_74 rfl rfl rfl ?_
  refine wv_aload_n (pc' := 76) (i := 0) (v := 18) dX1_byMust_75 rfl rfl rfl ?_
  refine wv_gr (pc' := 79) g_X1_18_18 dX1_byMust_76 rfl ?_
  refine wv_gr (pc' := 82) g_X1_93_3 dX1_byMust_79 rfl ?_
  refine wv_iload_n (pc' := 83) (i := 1) (v := x1) dX1_byMust_82 rfl rfl rfl ?_
  obtain ⟨g7, h⟩ := wd_chk_some h
  refine wv_iald (pc' := 84) sa_4 (wd_in_vp g7) dX1_byMust_83 rfl ?_
  refine wv_icmp_ne (pc' := 87) (tgt := 99) dX1_byMust_84 (by decide) rfl (fun c8 => ?_) (fun c8 => ?_)
  · have h := (if_neg c8).symm.trans h
    refine wv_inc (pc' := 102) (x := x3) (L' := [some (.inr 18), some (.inl x1), some (.inl s0), some (.inl (x3 + (1 : Int32))), none]) dX1_byMust_99 ic_1 rfl (by decide) rfl rfl ?_
    refine wv_goto (pc' := 12) dX1_byMust_102 (by decide) ?_
    exact hrec _ _ h
  · have h := (if_pos c8).symm.trans h
    refine wv_aload_n (pc' := 88) (i := 0) (v := 18) dX1_byMust_87 rfl rfl rfl ?_
    refine wv_iload_n (pc' := 89) (i := 1) (v := x1) dX1_byMust_88 rfl rfl rfl ?_
    refine wv_iload_n (pc' := 90) (i := 3) (v := x3) dX1_byMust_89 rfl rfl rfl ?_
    refine wv_iconst (pc' := 91) dX1_byMust_90 ic_1 rfl ?_
    refine wv_iadd (pc' := 92) dX1_byMust_91 rfl ?_
    refine wv_iload_n (pc' := 93) (i := 2) (v := s0) dX1_byMust_92 rfl rfl rfl ?_
    refine wv_isub (pc' := 94) dX1_byMust_93 rfl ?_
    refine wv_iconst (pc' := 95) dX1_byMust_94 ic_0 rfl ?_
    obtain ⟨r9, er9, h⟩ := wd_bind_some h
    refine wv_callVv (pc' := 98) (ν := r9) [.inl x1, .inl ((x3 + (1 : Int32)) - s0), .inl (0 : Int32)] ml_X1_96 rc_18 rfl (Nat.le_of_ble_eq_true rfl) dX1_byMust_95 rfl (c_X1_tell G d (Nat.le_trans (Nat.le_of_ble_eq_true rfl) hd)  er9) ?_
    exact wv_return rfl dX1_byMust_98 (wd_lv h)
set_option maxRecDepth 100000 in
set_option maxHeartbeats 4000000 in
theorem t_X1_byMust_b59 (G : wd_G) (d : Nat) (hd : 1 ≤ d) {out : wd_Mem} (rec : Int32 → Int32 → Option (wd_Mem)) (k : Option (wd_Mem)) (μ : wd_Mem) (x1 x2 x3 s0 : Int32) (hrec : ∀ (x2 x3 : Int32), rec x2 x3 = some out → wd_V G (d + 1) RX1 cX1_byMust 5 none (fun r u => r = none ∧ u = out) 12 [some (.inr 18), some (.inl x1), some (.inl x2), some (.inl x3), none] [] μ) (hk : k = some out → wd_V G (d + 1) RX1 cX1_byMust 5 none (fun r u => r = none ∧ u = out) 105 [some (.inr 18), some (.inl x1), none, none, none] [] μ) (h : X1_byMust_b59 rec k μ x1 x2 x3 s0 = some out) : wd_V G (d + 1) RX1 cX1_byMust 5 none (fun r u => r = none ∧ u = out) 59 [some (.inr 18), some (.inl x1), some (.inl x2), some (.inl x3), none] [.inl s0] μ := by
  unfold X1_byMust_b59 at h
  refine wv_istore (pc' := 61) (L' := [some (.inr 18), some (.inl x1), some (.inl x2), some (.inl x3), some (.inl s0)]) dX1_byMust_59 (by decide) rfl rfl ?_
  refine wv_iload (pc' := 63) (v := s0) dX1_byMust_61 rfl rfl ?_
  refine wv_if_eq (pc' := 66) (tgt := 70) dX1_byMust_63 (by decide) rfl (fun c6 => ?_) (fun c6 => ?_)
  · have h := (if_pos c6).symm.trans h
    refine wv_iload_n (pc' := 71) (i := 2) (v := x2) dX1_byMust_70 rfl rfl rfl ?_
    refine wv_iconst (pc' := 72) dX1_byMust_71 ic_1 rfl ?_
    refine wv_iadd (pc' := 73) dX1_byMust_72 rfl ?_
    refine wv_weak (L' := [some (.inr 18), some (.inl x1), none, some (.inl x3), none]) ⟨rfl, rfl, rfl, trivial⟩ ?_
    exact t_X1_byMust_b73 G d hd rec k μ x1 x3 (x2 + (1 : Int32)) hrec hk h
  · have h := (if_neg c6).symm.trans h
    refine wv_iconst (pc' := 67) dX1_byMust_66 ic_0 rfl ?_
    refine wv_goto (pc' := 73) dX1_byMust_67 (by decide) ?_
    refine wv_weak (L' := [some (.inr 18), some (.inl x1), none, some (.inl x3), none]) ⟨rfl, rfl, rfl, trivial⟩ ?_
    exact t_X1_byMust_b73 G d hd rec k μ x1 x3 (0 : Int32) hrec hk h
set_option maxRecDepth 100000 in
set_option maxHeartbeats 4000000 in
theorem t_X1_byMust_c12 (G : wd_G) (d : Nat) (hd : 1 ≤ d) {out : wd_Mem} (rec : Int32 → Int32 → Option (wd_Mem)) (k : Option (wd_Mem)) (μ : wd_Mem) (x1 x2 x3 : Int32) (hrec : ∀ (x2 x3 : Int32), rec x2 x3 = some out → wd_V G (d + 1) RX1 cX1_byMust 5 none (fun r u => r = none ∧ u = out) 12 [some (.inr 18), some (.inl x1), some (.inl x2), some (.inl x3), none] [] μ) (hk : k = some out → wd_V G (d + 1) RX1 cX1_byMust 5 none (fun r u => r = none ∧ u = out) 105 [some (.inr 18), some (.inl x1), none, none, none] [] μ) (h : X1_byMust_c12 rec k μ x1 x2 x3 = some out) : wd_V G (d + 1) RX1 cX1_byMust 5 none (fun r u => r = none ∧ u = out) 12 [some (.inr 18), some (.inl x1), some (.inl x2), some (.inl x3), none] [] μ := by
  unfold X1_byMust_c12 at h
  refine wv_iload_n (pc' := 13) (i := 3) (v := x3) dX1_byMust_12 rfl rfl rfl ?_
  refine wv_aload_n (pc' := 14) (i := 0) (v := 18) dX1_byMust_13 rfl rfl rfl ?_
  refine wv_gr (pc' := 17) g_X1_22_18 dX1_byMust_14 rfl ?_
  refine wv_gr (pc' := 20) g_X1_81_9 dX1_byMust_17 rfl ?_
  refine wv_iload_n (pc' := 21) (i := 1) (v := x1) dX1_byMust_20 rfl rfl rfl ?_
  obtain ⟨g2, h⟩ := wd_chk_some h
  refine wv_iald (pc' := 22) sa_11 (wd_in_vp g2) dX1_byMust_21 rfl ?_
  refine wv_icmp_ge (pc' := 25) (tgt := 105) dX1_byMust_22 (by decide) rfl (fun c3 => ?_) (fun c3 => ?_)
  · have h := (if_pos c3).symm.trans h
    refine wv_weak (L' := [some (.inr 18), some (.inl x1), none, none, none]) ⟨rfl, rfl, trivial⟩ ?_
    exact hk  h
  · have h := (if_neg c3).symm.trans h
    refine wv_aload_n (pc' := 26) (i := 0) (v := 18) dX1_byMust_25 rfl rfl rfl ?_
    refine wv_gr (pc' := 29) g_X1_22_18 dX1_byMust_26 rfl ?_
    refine wv_iload_n (pc' := 30) (i := 3) (v := x3) dX1_byMust_29 rfl rfl rfl ?_
    refine wv_iload_n (pc' := 31) (i := 1) (v := x1) dX1_byMust_30 rfl rfl rfl ?_
    obtain ⟨r4, er4, h⟩ := wd_bind_some h
    refine wv_callVi (pc' := 34) (x := r4) (ν := μ) [.inl x3, .inl x1] ml_X1_84 rc_9 rfl (Nat.le_of_ble_eq_true rfl) dX1_byMust_31 rfl (c_X3_surely G d (Nat.le_trans (Nat.le_of_ble_eq_true rfl) hd)  er4) ?_
    refine wv_aload_n (pc' := 35) (i := 0) (v := 18) dX1_byMust_34 rfl rfl rfl ?_
    refine wv_gr (pc' := 38) g_X1_18_18 dX1_byMust_35 rfl ?_
    refine wv_gr (pc' := 41) g_X1_87_3 dX1_byMust_38 rfl ?_
    refine wv_iload_n (pc' := 42) (i := 1) (v := x1) dX1_byMust_41 rfl rfl rfl ?_
    refine wv_iald (pc' := 43) sa_5 (wd_in_vp g2) dX1_byMust_42 rfl ?_
    refine wv_iadd (pc' := 44) dX1_byMust_43 rfl ?_
    refine wv_aload_n (pc' := 45) (i := 0) (v := 18) dX1_byMust_44 rfl rfl rfl ?_
    refine wv_gr (pc' := 48) g_X1_18_18 dX1_byMust_45 rfl ?_
    refine wv_gi (pc' := 51) g_X1_90_3 dX1_byMust_48 rfl ?_
    refine wv_icmp_le (pc' := 54) (tgt := 58) dX1_byMust_51 (by decide) rfl (fun c5 => ?_) (fun c5 => ?_)
    · have h := (if_pos c5).symm.trans h
      refine wv_iconst (pc' := 59) dX1_byMust_58 ic_0 rfl ?_
      exact t_X1_byMust_b59 G d hd rec k μ x1 x2 x3 (0 : Int32) hrec hk h
    · have h := (if_neg c5).symm.trans h
      refine wv_iconst (pc' := 55) dX1_byMust_54 ic_1 rfl ?_
      refine wv_goto (pc' := 59) dX1_byMust_55 (by decide) ?_
      exact t_X1_byMust_b59 G d hd rec k μ x1 x2 x3 (1 : Int32) hrec hk h
set_option maxRecDepth 100000 in
set_option maxHeartbeats 4000000 in
theorem t_X1_byMust_l12 (G : wd_G) (d : Nat) (hd : 1 ≤ d) {out : wd_Mem} (k : Option (wd_Mem)) (μ : wd_Mem) (x1 : Int32) (hk : k = some out → wd_V G (d + 1) RX1 cX1_byMust 5 none (fun r u => r = none ∧ u = out) 105 [some (.inr 18), some (.inl x1), none, none, none] [] μ) : ∀ (n : Nat) (x2 x3 : Int32), X1_byMust_l12 k μ x1 n x2 x3 = some out → wd_V G (d + 1) RX1 cX1_byMust 5 none (fun r u => r = none ∧ u = out) 12 [some (.inr 18), some (.inl x1), some (.inl x2), some (.inl x3), none] [] μ := by
  intro n
  induction n with
  | zero => intro x2 x3 h; exact absurd h (by unfold X1_byMust_l12; simp)
  | succ n ih =>
    intro x2 x3 h
    exact t_X1_byMust_c12 G d hd (X1_byMust_l12 k μ x1 n) k μ x1 x2 x3  (fun x2 x3 h => ih x2 x3 h) hk h
set_option maxRecDepth 100000 in
set_option maxHeartbeats 4000000 in
theorem t_X1_byMust_b105 (G : wd_G) (d : Nat) (hd : 1 ≤ d) {out : wd_Mem} (μ : wd_Mem) (x1 : Int32)  (h : X1_byMust_b105 μ x1 = some out) : wd_V G (d + 1) RX1 cX1_byMust 5 none (fun r u => r = none ∧ u = out) 105 [some (.inr 18), some (.inl x1), none, none, none] [] μ := by
  unfold X1_byMust_b105 at h
  refine wv_aload_n (pc' := 106) (i := 0) (v := 18) dX1_byMust_105 rfl rfl rfl ?_
  refine wv_iload_n (pc' := 107) (i := 1) (v := x1) dX1_byMust_106 rfl rfl rfl ?_
  refine wv_aload_n (pc' := 108) (i := 0) (v := 18) dX1_byMust_107 rfl rfl rfl ?_
  refine wv_gr (pc' := 111) g_X1_22_18 dX1_byMust_108 rfl ?_
  refine wv_gr (pc' := 114) g_X1_68_9 dX1_byMust_111 rfl ?_
  refine wv_iload_n (pc' := 115) (i := 1) (v := x1) dX1_byMust_114 rfl rfl rfl ?_
  obtain ⟨g10, h⟩ := wd_chk_some h
  refine wv_iald (pc' := 116) sa_13 (wd_in_vp g10) dX1_byMust_115 rfl ?_
  refine wv_iconst (pc' := 117) dX1_byMust_116 ic_1 rfl ?_
  refine wv_iadd (pc' := 118) dX1_byMust_117 rfl ?_
  refine wv_iconst (pc' := 119) dX1_byMust_118 ic_0 rfl ?_
  obtain ⟨r11, er11, h⟩ := wd_bind_some h
  refine wv_callVv (pc' := 122) (ν := r11) [.inl x1, .inl ((μ 13 (Int32.toNatClampNeg x1)) + (1 : Int32)), .inl (0 : Int32)] ml_X1_96 rc_18 rfl (Nat.le_of_ble_eq_true rfl) dX1_byMust_119 rfl (c_X1_tell G d (Nat.le_trans (Nat.le_of_ble_eq_true rfl) hd)  er11) ?_
  exact wv_return rfl dX1_byMust_122 (wd_lv h)
set_option maxRecDepth 100000 in
set_option maxHeartbeats 4000000 in
theorem t_X1_byMust_b0 (G : wd_G) (d : Nat) (hd : 1 ≤ d) {out : wd_Mem} (μ : wd_Mem) (x1 : Int32)  (h : X1_byMust_b0 μ x1 = some out) : wd_V G (d + 1) RX1 cX1_byMust 5 none (fun r u => r = none ∧ u = out) 0 [some (.inr 18), some (.inl x1), none, none, none] [] μ := by
  unfold X1_byMust_b0 at h
  refine wv_iconst (pc' := 1) dX1_byMust_0 ic_0 rfl ?_
  refine wv_istore_n (pc' := 2) (i := 2) (L' := [some (.inr 18), some (.inl x1), some (.inl (0 : Int32)), none, none]) dX1_byMust_1 rfl (by decide) rfl rfl ?_
  refine wv_aload_n (pc' := 3) (i := 0) (v := 18) dX1_byMust_2 rfl rfl rfl ?_
  refine wv_gr (pc' := 6) g_X1_22_18 dX1_byMust_3 rfl ?_
  refine wv_gr (pc' := 9) g_X1_52_9 dX1_byMust_6 rfl ?_
  refine wv_iload_n (pc' := 10) (i := 1) (v := x1) dX1_byMust_9 rfl rfl rfl ?_
  obtain ⟨g1, h⟩ := wd_chk_some h
  refine wv_iald (pc' := 11) sa_10 (wd_in_vp g1) dX1_byMust_10 rfl ?_
  refine wv_istore_n (pc' := 12) (i := 3) (L' := [some (.inr 18), some (.inl x1), some (.inl (0 : Int32)), some (.inl (μ 10 (Int32.toNatClampNeg x1))), none]) dX1_byMust_11 rfl (by decide) rfl rfl ?_
  exact t_X1_byMust_l12 G d hd (X1_byMust_b105 μ x1) μ x1  (fun  h => t_X1_byMust_b105 G d hd μ x1  h) wd_big (0 : Int32) (μ 10 (Int32.toNatClampNeg x1)) h
set_option maxRecDepth 100000 in
set_option maxHeartbeats 4000000 in
theorem c_X1_byMust (G : wd_G) (d : Nat) (hd : 2 ≤ d) {μ : wd_Mem} {x1 : Int32} {out : wd_Mem}  (h : X1_byMust μ x1 = some out) : wd_C G d yX1_byMust [.inr 18, .inl x1] μ (fun r u => r = none ∧ u = out) := by
  obtain ⟨d, rfl⟩ : ∃ e, d = e + 1 := ⟨d - 1, by omega⟩
  refine wd_enter mc_X1_byMust (by decide) (by decide +kernel) rfl (Nat.le_of_ble_eq_true rfl) (L0 := [some (.inr 18), some (.inl x1), none, none, none]) rfl ?_
  exact t_X1_byMust_b0 G d (by omega) μ x1 h
set_option maxRecDepth 100000 in
set_option maxHeartbeats 4000000 in
theorem t_X1_endsBehind_b0 (G : wd_G) (d : Nat) (hd : 0 ≤ d) {out : Int32} (μ : wd_Mem) (x1 x2 : Int32)  (h : X1_endsBehind_b0 μ x1 x2 = some out) : wd_V G (d + 1) RX1 cX1_endsBehind 4 (some .boolean) (fun r u => r = some (.inl out) ∧ u = μ) 0 [some (.inr 18), some (.inl x1), some (.inl x2), none] [] μ := by
  unfold X1_endsBehind_b0 at h
  refine wv_aload_n (pc' := 1) (i := 0) (v := 18) dX1_endsBehind_0 rfl rfl rfl ?_
  refine wv_gr (pc' := 4) g_X1_22_18 dX1_endsBehind_1 rfl ?_
  refine wv_gr (pc' := 7) g_X1_107_9 dX1_endsBehind_4 rfl ?_
  refine wv_iload_n (pc' := 8) (i := 2) (v := x2) dX1_endsBehind_7 rfl rfl rfl ?_
  obtain ⟨g1, h⟩ := wd_chk_some h
  refine wv_iald (pc' := 9) sa_14 (wd_in_vp g1) dX1_endsBehind_8 rfl ?_
  refine wv_aload_n (pc' := 10) (i := 0) (v := 18) dX1_endsBehind_9 rfl rfl rfl ?_
  refine wv_gr (pc' := 13) g_X1_22_18 dX1_endsBehind_10 rfl ?_
  refine wv_gr (pc' := 16) g_X1_52_9 dX1_endsBehind_13 rfl ?_
  refine wv_iload_n (pc' := 17) (i := 1) (v := x1) dX1_endsBehind_16 rfl rfl rfl ?_
  obtain ⟨g2, h⟩ := wd_chk_some h
  refine wv_iald (pc' := 18) sa_10 (wd_in_vp g2) dX1_endsBehind_17 rfl ?_
  refine wv_min (pc' := 21) mm_X1_71 (Nat.le_of_ble_eq_true rfl) dX1_endsBehind_18 rfl ?_
  refine wv_istore_n (pc' := 22) (i := 3) (L' := [some (.inr 18), some (.inl x1), some (.inl x2), some (.inl (if (μ 10 (Int32.toNatClampNeg x1)) < (μ 14 (Int32.toNatClampNeg x2)) then (μ 10 (Int32.toNatClampNeg x1)) else (μ 14 (Int32.toNatClampNeg x2))))]) dX1_endsBehind_21 rfl (by decide) rfl rfl ?_
  refine wv_aload_n (pc' := 23) (i := 0) (v := 18) dX1_endsBehind_22 rfl rfl rfl ?_
  refine wv_gr (pc' := 26) g_X1_22_18 dX1_endsBehind_23 rfl ?_
  refine wv_gr (pc' := 29) g_X1_110_9 dX1_endsBehind_26 rfl ?_
  refine wv_iload_n (pc' := 30) (i := 2) (v := x2) dX1_endsBehind_29 rfl rfl rfl ?_
  refine wv_iconst (pc' := 31) dX1_endsBehind_30 ic_1 rfl ?_
  refine wv_iload_n (pc' := 32) (i := 1) (v := x1) dX1_endsBehind_31 rfl rfl rfl ?_
  refine wv_ishl (pc' := 33) dX1_endsBehind_32 rfl ?_
  refine wv_ior (pc' := 34) dX1_endsBehind_33 rfl ?_
  obtain ⟨g3, h⟩ := wd_chk_some h
  refine wv_iald (pc' := 35) sa_17 (wd_in_vp g3) dX1_endsBehind_34 rfl ?_
  refine wv_aload_n (pc' := 36) (i := 0) (v := 18) dX1_endsBehind_35 rfl rfl rfl ?_
  refine wv_gr (pc' := 39) g_X1_18_18 dX1_endsBehind_36 rfl ?_
  refine wv_gi (pc' := 42) g_X1_90_3 dX1_endsBehind_39 rfl ?_
  refine wv_aload_n (pc' := 43) (i := 0) (v := 18) dX1_endsBehind_42 rfl rfl rfl ?_
  refine wv_gr (pc' := 46) g_X1_22_18 dX1_endsBehind_43 rfl ?_
  refine wv_gr (pc' := 49) g_X1_113_9 dX1_endsBehind_46 rfl ?_
  refine wv_iload_n (pc' := 50) (i := 2) (v := x2) dX1_endsBehind_49 rfl rfl rfl ?_
  refine wv_iald (pc' := 51) sa_15 (wd_in_vp g1) dX1_endsBehind_50 rfl ?_
  refine wv_iload_n (pc' := 52) (i := 3) (v := (if (μ 10 (Int32.toNatClampNeg x1)) < (μ 14 (Int32.toNatClampNeg x2)) then (μ 10 (Int32.toNatClampNeg x1)) else (μ 14 (Int32.toNatClampNeg x2)))) dX1_endsBehind_51 rfl rfl rfl ?_
  refine wv_isub (pc' := 53) dX1_endsBehind_52 rfl ?_
  refine wv_imul (pc' := 54) dX1_endsBehind_53 rfl ?_
  refine wv_icmp_le (pc' := 57) (tgt := 61) dX1_endsBehind_54 (by decide) rfl (fun c4 => ?_) (fun c4 => ?_)
  · have h := (if_pos c4).symm.trans h
    refine wv_iconst (pc' := 62) dX1_endsBehind_61 ic_0 rfl ?_
    exact wv_zreturn rfl rfl dX1_endsBehind_62 (wd_li h)
  · have h := (if_neg c4).symm.trans h
    refine wv_iconst (pc' := 58) dX1_endsBehind_57 ic_1 rfl ?_
    refine wv_goto (pc' := 62) dX1_endsBehind_58 (by decide) ?_
    exact wv_zreturn rfl rfl dX1_endsBehind_62 (wd_li h)
set_option maxRecDepth 100000 in
set_option maxHeartbeats 4000000 in
theorem c_X1_endsBehind (G : wd_G) (d : Nat) (hd : 1 ≤ d) {μ : wd_Mem} {x1 x2 : Int32} {out : Int32}  (h : X1_endsBehind μ x1 x2 = some out) : wd_C G d yX1_endsBehind [.inr 18, .inl x1, .inl x2] μ (fun r u => r = some (.inl out) ∧ u = μ) := by
  obtain ⟨d, rfl⟩ : ∃ e, d = e + 1 := ⟨d - 1, by omega⟩
  refine wd_enter mc_X1_endsBehind (by decide) (by decide +kernel) rfl (Nat.le_of_ble_eq_true rfl) (L0 := [some (.inr 18), some (.inl x1), some (.inl x2), none]) rfl ?_
  exact t_X1_endsBehind_b0 G d (by omega) μ x1 x2 h
set_option maxRecDepth 100000 in
set_option maxHeartbeats 4000000 in
theorem t_X1_tellRest_b0 (G : wd_G) (d : Nat) (hd : 1 ≤ d) {out : wd_Mem} (μ : wd_Mem) (x1 x2 x3 : Int32)  (h : X1_tellRest_b0 μ x1 x2 x3 = some out) : wd_V G (d + 1) RX1 cX1_tellRest 7 none (fun r u => r = none ∧ u = out) 0 [some (.inr 18), some (.inl x1), some (.inl x2), some (.inl x3), none, none, none] [] μ := by
  unfold X1_tellRest_b0 at h
  refine wv_aload_n (pc' := 1) (i := 0) (v := 18) dX1_tellRest_0 rfl rfl rfl ?_
  refine wv_gr (pc' := 4) g_X1_18_18 dX1_tellRest_1 rfl ?_
  refine wv_gi (pc' := 7) g_X1_90_3 dX1_tellRest_4 rfl ?_
  refine wv_aload_n (pc' := 8) (i := 0) (v := 18) dX1_tellRest_7 rfl rfl rfl ?_
  refine wv_gr (pc' := 11) g_X1_18_18 dX1_tellRest_8 rfl ?_
  refine wv_gr (pc' := 14) g_X1_87_3 dX1_tellRest_11 rfl ?_
  refine wv_iload_n (pc' := 15) (i := 1) (v := x1) dX1_tellRest_14 rfl rfl rfl ?_
  obtain ⟨g1, h⟩ := wd_chk_some h
  refine wv_iald (pc' := 16) sa_5 (wd_in_vp g1) dX1_tellRest_15 rfl ?_
  refine wv_isub (pc' := 17) dX1_tellRest_16 rfl ?_
  refine wv_aload_n (pc' := 18) (i := 0) (v := 18) dX1_tellRest_17 rfl rfl rfl ?_
  refine wv_gr (pc' := 21) g_X1_22_18 dX1_tellRest_18 rfl ?_
  refine wv_gr (pc' := 24) g_X1_113_9 dX1_tellRest_21 rfl ?_
  refine wv_iload_n (pc' := 25) (i := 2) (v := x2) dX1_tellRest_24 rfl rfl rfl ?_
  obtain ⟨g2, h⟩ := wd_chk_some h
  refine wv_iald (pc' := 26) sa_15 (wd_in_vp g2) dX1_tellRest_25 rfl ?_
  refine wv_aload_n (pc' := 27) (i := 0) (v := 18) dX1_tellRest_26 rfl rfl rfl ?_
  refine wv_gr (pc' := 30) g_X1_22_18 dX1_tellRest_27 rfl ?_
  refine wv_gr (pc' := 33) g_X1_107_9 dX1_tellRest_30 rfl ?_
  refine wv_iload_n (pc' := 34) (i := 2) (v := x2) dX1_tellRest_33 rfl rfl rfl ?_
  refine wv_iald (pc' := 35) sa_14 (wd_in_vp g2) dX1_tellRest_34 rfl ?_
  refine wv_isub (pc' := 36) dX1_tellRest_35 rfl ?_
  refine wv_imul (pc' := 37) dX1_tellRest_36 rfl ?_
  refine wv_istore (pc' := 39) (L' := [some (.inr 18), some (.inl x1), some (.inl x2), some (.inl x3), some (.inl (((μ 3 0) - (μ 5 (Int32.toNatClampNeg x1))) * ((μ 15 (Int32.toNatClampNeg x2)) - (μ 14 (Int32.toNatClampNeg x2))))), none, none]) dX1_tellRest_37 (by decide) rfl rfl ?_
  refine wv_aload_n (pc' := 40) (i := 0) (v := 18) dX1_tellRest_39 rfl rfl rfl ?_
  refine wv_gr (pc' := 43) g_X1_22_18 dX1_tellRest_40 rfl ?_
  refine wv_gr (pc' := 46) g_X1_110_9 dX1_tellRest_43 rfl ?_
  refine wv_iload_n (pc' := 47) (i := 2) (v := x2) dX1_tellRest_46 rfl rfl rfl ?_
  refine wv_iald (pc' := 48) sa_17 (wd_in_vp g2) dX1_tellRest_47 rfl ?_
  refine wv_iload (pc' := 50) (v := (((μ 3 0) - (μ 5 (Int32.toNatClampNeg x1))) * ((μ 15 (Int32.toNatClampNeg x2)) - (μ 14 (Int32.toNatClampNeg x2))))) dX1_tellRest_48 rfl rfl ?_
  refine wv_isub (pc' := 51) dX1_tellRest_50 rfl ?_
  refine wv_istore (pc' := 53) (L' := [some (.inr 18), some (.inl x1), some (.inl x2), some (.inl x3), some (.inl (((μ 3 0) - (μ 5 (Int32.toNatClampNeg x1))) * ((μ 15 (Int32.toNatClampNeg x2)) - (μ 14 (Int32.toNatClampNeg x2))))), some (.inl ((μ 17 (Int32.toNatClampNeg x2)) - (((μ 3 0) - (μ 5 (Int32.toNatClampNeg x1))) * ((μ 15 (Int32.toNatClampNeg x2)) - (μ 14 (Int32.toNatClampNeg x2)))))), none]) dX1_tellRest_51 (by decide) rfl rfl ?_
  refine wv_aload_n (pc' := 54) (i := 0) (v := 18) dX1_tellRest_53 rfl rfl rfl ?_
  refine wv_gr (pc' := 57) g_X1_18_18 dX1_tellRest_54 rfl ?_
  refine wv_gr (pc' := 60) g_X1_87_3 dX1_tellRest_57 rfl ?_
  refine wv_iload_n (pc' := 61) (i := 1) (v := x1) dX1_tellRest_60 rfl rfl rfl ?_
  refine wv_iald (pc' := 62) sa_5 (wd_in_vp g1) dX1_tellRest_61 rfl ?_
  refine wv_istore (pc' := 64) (L' := [some (.inr 18), some (.inl x1), some (.inl x2), some (.inl x3), some (.inl (((μ 3 0) - (μ 5 (Int32.toNatClampNeg x1))) * ((μ 15 (Int32.toNatClampNeg x2)) - (μ 14 (Int32.toNatClampNeg x2))))), some (.inl ((μ 17 (Int32.toNatClampNeg x2)) - (((μ 3 0) - (μ 5 (Int32.toNatClampNeg x1))) * ((μ 15 (Int32.toNatClampNeg x2)) - (μ 14 (Int32.toNatClampNeg x2)))))), some (.inl (μ 5 (Int32.toNatClampNeg x1)))]) dX1_tellRest_62 (by decide) rfl rfl ?_
  refine wv_iload (pc' := 66) (v := ((μ 17 (Int32.toNatClampNeg x2)) - (((μ 3 0) - (μ 5 (Int32.toNatClampNeg x1))) * ((μ 15 (Int32.toNatClampNeg x2)) - (μ 14 (Int32.toNatClampNeg x2)))))) dX1_tellRest_64 rfl rfl ?_
  refine wv_if_le (pc' := 69) (tgt := 100) dX1_tellRest_66 (by decide) rfl (fun c3 => ?_) (fun c3 => ?_)
  · have h := (if_pos c3).symm.trans h
    exact wv_return rfl dX1_tellRest_100 (wd_lv h)
  · have h := (if_neg c3).symm.trans h
    refine wv_iload (pc' := 71) (v := (μ 5 (Int32.toNatClampNeg x1))) dX1_tellRest_69 rfl rfl ?_
    refine wv_if_le (pc' := 74) (tgt := 100) dX1_tellRest_71 (by decide) rfl (fun c4 => ?_) (fun c4 => ?_)
    · have h := (if_pos c4).symm.trans h
      exact wv_return rfl dX1_tellRest_100 (wd_lv h)
    · have h := (if_neg c4).symm.trans h
      refine wv_aload_n (pc' := 75) (i := 0) (v := 18) dX1_tellRest_74 rfl rfl rfl ?_
      refine wv_iload_n (pc' := 76) (i := 1) (v := x1) dX1_tellRest_75 rfl rfl rfl ?_
      refine wv_aload_n (pc' := 77) (i := 0) (v := 18) dX1_tellRest_76 rfl rfl rfl ?_
      refine wv_gr (pc' := 80) g_X1_22_18 dX1_tellRest_77 rfl ?_
      refine wv_gr (pc' := 83) g_X1_107_9 dX1_tellRest_80 rfl ?_
      refine wv_iload_n (pc' := 84) (i := 2) (v := x2) dX1_tellRest_83 rfl rfl rfl ?_
      refine wv_iald (pc' := 85) sa_14 (wd_in_vp g2) dX1_tellRest_84 rfl ?_
      refine wv_iload (pc' := 87) (v := ((μ 17 (Int32.toNatClampNeg x2)) - (((μ 3 0) - (μ 5 (Int32.toNatClampNeg x1))) * ((μ 15 (Int32.toNatClampNeg x2)) - (μ 14 (Int32.toNatClampNeg x2)))))) dX1_tellRest_85 rfl rfl ?_
      refine wv_iload (pc' := 89) (v := (μ 5 (Int32.toNatClampNeg x1))) dX1_tellRest_87 rfl rfl ?_
      refine wv_iadd (pc' := 90) dX1_tellRest_89 rfl ?_
      refine wv_iconst (pc' := 91) dX1_tellRest_90 ic_1 rfl ?_
      refine wv_isub (pc' := 92) dX1_tellRest_91 rfl ?_
      refine wv_iload (pc' := 94) (v := (μ 5 (Int32.toNatClampNeg x1))) dX1_tellRest_92 rfl rfl ?_
      obtain ⟨g5, h⟩ := wd_chk_some h
      refine wv_idiv (pc' := 95) dX1_tellRest_94 (wd_nz_ne g5) rfl ?_
      refine wv_iadd (pc' := 96) dX1_tellRest_95 rfl ?_
      refine wv_iload_n (pc' := 97) (i := 3) (v := x3) dX1_tellRest_96 rfl rfl rfl ?_
      obtain ⟨r6, er6, h⟩ := wd_bind_some h
      refine wv_callVv (pc' := 100) (ν := r6) [.inl x1, .inl ((μ 14 (Int32.toNatClampNeg x2)) + (((((μ 17 (Int32.toNatClampNeg x2)) - (((μ 3 0) - (μ 5 (Int32.toNatClampNeg x1))) * ((μ 15 (Int32.toNatClampNeg x2)) - (μ 14 (Int32.toNatClampNeg x2))))) + (μ 5 (Int32.toNatClampNeg x1))) - (1 : Int32)) / (μ 5 (Int32.toNatClampNeg x1)))), .inl x3] ml_X1_96 rc_18 rfl (Nat.le_of_ble_eq_true rfl) dX1_tellRest_97 rfl (c_X1_tell G d (Nat.le_trans (Nat.le_of_ble_eq_true rfl) hd)  er6) ?_
      exact wv_return rfl dX1_tellRest_100 (wd_lv h)
set_option maxRecDepth 100000 in
set_option maxHeartbeats 4000000 in
theorem c_X1_tellRest (G : wd_G) (d : Nat) (hd : 2 ≤ d) {μ : wd_Mem} {x1 x2 x3 : Int32} {out : wd_Mem}  (h : X1_tellRest μ x1 x2 x3 = some out) : wd_C G d yX1_tellRest [.inr 18, .inl x1, .inl x2, .inl x3] μ (fun r u => r = none ∧ u = out) := by
  obtain ⟨d, rfl⟩ : ∃ e, d = e + 1 := ⟨d - 1, by omega⟩
  refine wd_enter mc_X1_tellRest (by decide) (by decide +kernel) rfl (Nat.le_of_ble_eq_true rfl) (L0 := [some (.inr 18), some (.inl x1), some (.inl x2), some (.inl x3), none, none, none]) rfl ?_
  exact t_X1_tellRest_b0 G d (by omega) μ x1 x2 x3 h
