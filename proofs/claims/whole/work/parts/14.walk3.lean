set_option maxRecDepth 100000 in
set_option maxHeartbeats 4000000 in
theorem t_X8_firsts_b123 (G : wd_G) (d : Nat) (hd : 2 ≤ d) {out : wd_Mem} (rec : Int32 → wd_Mem → Option (wd_Mem)) (k : wd_Mem → Option (wd_Mem)) (μ : wd_Mem) (x1 x2 : Int32) (hrec : ∀ (x2 : Int32) (μ : wd_Mem), rec x2 μ = some out → wd_V G (d + 1) RX8 cX8_firsts 4 none (fun r u => r = none ∧ u = out) 2 [some (.inr 31), some (.inl x1), some (.inl x2), none] [] μ) (hk : ∀  (μ : wd_Mem), k μ = some out → wd_V G (d + 1) RX8 cX8_firsts 4 none (fun r u => r = none ∧ u = out) 129 [some (.inr 31), none, none, none] [] μ) (h : X8_firsts_b123 rec k μ x1 x2 = some out) : wd_V G (d + 1) RX8 cX8_firsts 4 none (fun r u => r = none ∧ u = out) 123 [some (.inr 31), some (.inl x1), some (.inl x2), none] [] μ := by
  unfold X8_firsts_b123 at h
  refine wv_inc (pc' := 126) (x := x2) (L' := [some (.inr 31), some (.inl x1), some (.inl (x2 + (1 : Int32))), none]) dX8_firsts_123 ic_1 rfl (by decide) rfl rfl ?_
  refine wv_goto (pc' := 2) dX8_firsts_126 (by decide) ?_
  exact hrec _ _ h
set_option maxRecDepth 100000 in
set_option maxHeartbeats 4000000 in
theorem t_X8_firsts_b72 (G : wd_G) (d : Nat) (hd : 2 ≤ d) {out : wd_Mem} (rec : Int32 → wd_Mem → Option (wd_Mem)) (k : wd_Mem → Option (wd_Mem)) (μ : wd_Mem) (x1 x2 s0 : Int32) (hrec : ∀ (x2 : Int32) (μ : wd_Mem), rec x2 μ = some out → wd_V G (d + 1) RX8 cX8_firsts 4 none (fun r u => r = none ∧ u = out) 2 [some (.inr 31), some (.inl x1), some (.inl x2), none] [] μ) (hk : ∀  (μ : wd_Mem), k μ = some out → wd_V G (d + 1) RX8 cX8_firsts 4 none (fun r u => r = none ∧ u = out) 129 [some (.inr 31), none, none, none] [] μ) (h : X8_firsts_b72 rec k μ x1 x2 s0 = some out) : wd_V G (d + 1) RX8 cX8_firsts 4 none (fun r u => r = none ∧ u = out) 72 [some (.inr 31), some (.inl x1), some (.inl x2), none] [.inl s0] μ := by
  unfold X8_firsts_b72 at h
  refine wv_istore_n (pc' := 73) (i := 3) (L' := [some (.inr 31), some (.inl x1), some (.inl x2), some (.inl s0)]) dX8_firsts_72 rfl (by decide) rfl rfl ?_
  refine wv_aload_n (pc' := 74) (i := 0) (v := 31) dX8_firsts_73 rfl rfl rfl ?_
  refine wv_iload_n (pc' := 75) (i := 2) (v := x2) dX8_firsts_74 rfl rfl rfl ?_
  obtain ⟨r12, er12, h⟩ := wd_bind_some h
  refine wv_callVi (pc' := 78) (x := r12) (ν := μ) [.inl x2] ml_X8_148 rc_31 rfl (Nat.le_of_ble_eq_true rfl) dX8_firsts_75 rfl (c_X8_energy G d (Nat.le_trans (Nat.le_of_ble_eq_true rfl) hd)  er12) ?_
  refine wv_aload_n (pc' := 79) (i := 0) (v := 31) dX8_firsts_78 rfl rfl rfl ?_
  refine wv_gr (pc' := 82) g_X8_13_31 dX8_firsts_79 rfl ?_
  refine wv_iload_n (pc' := 83) (i := 1) (v := x1) dX8_firsts_82 rfl rfl rfl ?_
  obtain ⟨g13, h⟩ := wd_chk_some h
  refine wv_iald (pc' := 84) sa_33 (wd_in_vp g13) dX8_firsts_83 rfl ?_
  refine wv_iload_n (pc' := 85) (i := 3) (v := s0) dX8_firsts_84 rfl rfl rfl ?_
  refine wv_aload_n (pc' := 86) (i := 0) (v := 31) dX8_firsts_85 rfl rfl rfl ?_
  refine wv_iload_n (pc' := 87) (i := 2) (v := x2) dX8_firsts_86 rfl rfl rfl ?_
  obtain ⟨r14, er14, h⟩ := wd_bind_some h
  refine wv_callVi (pc' := 90) (x := r14) (ν := μ) [.inl x2] ml_X8_145 rc_31 rfl (Nat.le_of_ble_eq_true rfl) dX8_firsts_87 rfl (c_X8_setEarly G d (Nat.le_trans (Nat.le_of_ble_eq_true rfl) hd)  er14) ?_
  refine wv_isub (pc' := 91) dX8_firsts_90 rfl ?_
  refine wv_imul (pc' := 92) dX8_firsts_91 rfl ?_
  refine wv_iadd (pc' := 93) dX8_firsts_92 rfl ?_
  refine wv_aload_n (pc' := 94) (i := 0) (v := 31) dX8_firsts_93 rfl rfl rfl ?_
  refine wv_gi (pc' := 97) g_X8_59_31 dX8_firsts_94 rfl ?_
  refine wv_aload_n (pc' := 98) (i := 0) (v := 31) dX8_firsts_97 rfl rfl rfl ?_
  refine wv_iload_n (pc' := 99) (i := 2) (v := x2) dX8_firsts_98 rfl rfl rfl ?_
  obtain ⟨r15, er15, h⟩ := wd_bind_some h
  refine wv_callVi (pc' := 102) (x := r15) (ν := μ) [.inl x2] ml_X8_151 rc_31 rfl (Nat.le_of_ble_eq_true rfl) dX8_firsts_99 rfl (c_X8_setLate G d (Nat.le_trans (Nat.le_of_ble_eq_true rfl) hd)  er15) ?_
  refine wv_aload_n (pc' := 103) (i := 0) (v := 31) dX8_firsts_102 rfl rfl rfl ?_
  refine wv_iload_n (pc' := 104) (i := 2) (v := x2) dX8_firsts_103 rfl rfl rfl ?_
  obtain ⟨r16, er16, h⟩ := wd_bind_some h
  refine wv_callVi (pc' := 107) (x := r16) (ν := μ) [.inl x2] ml_X8_145 rc_31 rfl (Nat.le_of_ble_eq_true rfl) dX8_firsts_104 rfl (c_X8_setEarly G d (Nat.le_trans (Nat.le_of_ble_eq_true rfl) hd)  er16) ?_
  refine wv_isub (pc' := 108) dX8_firsts_107 rfl ?_
  refine wv_imul (pc' := 109) dX8_firsts_108 rfl ?_
  refine wv_icmp_le (pc' := 112) (tgt := 123) dX8_firsts_109 (by decide) rfl (fun c17 => ?_) (fun c17 => ?_)
  · have h := (if_pos c17).symm.trans h
    refine wv_weak (L' := [some (.inr 31), some (.inl x1), some (.inl x2), none]) ⟨rfl, rfl, rfl, trivial⟩ ?_
    exact t_X8_firsts_b123 G d hd rec k μ x1 x2 hrec hk h
  · have h := (if_neg c17).symm.trans h
    refine wv_aload_n (pc' := 113) (i := 0) (v := 31) dX8_firsts_112 rfl rfl rfl ?_
    refine wv_iload_n (pc' := 114) (i := 1) (v := x1) dX8_firsts_113 rfl rfl rfl ?_
    refine wv_aload_n (pc' := 115) (i := 0) (v := 31) dX8_firsts_114 rfl rfl rfl ?_
    refine wv_iload_n (pc' := 116) (i := 2) (v := x2) dX8_firsts_115 rfl rfl rfl ?_
    obtain ⟨r18, er18, h⟩ := wd_bind_some h
    refine wv_callVi (pc' := 119) (x := r18) (ν := μ) [.inl x2] ml_X8_154 rc_31 rfl (Nat.le_of_ble_eq_true rfl) dX8_firsts_116 rfl (c_X8_setDone G d (Nat.le_trans (Nat.le_of_ble_eq_true rfl) hd)  er18) ?_
    refine wv_iload_n (pc' := 120) (i := 2) (v := x2) dX8_firsts_119 rfl rfl rfl ?_
    obtain ⟨r19, er19, h⟩ := wd_bind_some h
    refine wv_callVv (pc' := 123) (ν := r19) [.inl x1, .inl r18, .inl x2] ml_X8_137 rc_31 rfl (Nat.le_of_ble_eq_true rfl) dX8_firsts_120 rfl (c_X8_tells G d (Nat.le_trans (Nat.le_of_ble_eq_true rfl) hd)  er19) ?_
    refine wv_weak (L' := [some (.inr 31), some (.inl x1), some (.inl x2), none]) ⟨rfl, rfl, rfl, trivial⟩ ?_
    exact t_X8_firsts_b123 G d hd rec k r19 x1 x2 hrec hk h
set_option maxRecDepth 100000 in
set_option maxHeartbeats 4000000 in
theorem t_X8_firsts_c2 (G : wd_G) (d : Nat) (hd : 2 ≤ d) {out : wd_Mem} (rec : Int32 → wd_Mem → Option (wd_Mem)) (k : wd_Mem → Option (wd_Mem)) (μ : wd_Mem) (x1 x2 : Int32) (hrec : ∀ (x2 : Int32) (μ : wd_Mem), rec x2 μ = some out → wd_V G (d + 1) RX8 cX8_firsts 4 none (fun r u => r = none ∧ u = out) 2 [some (.inr 31), some (.inl x1), some (.inl x2), none] [] μ) (hk : ∀  (μ : wd_Mem), k μ = some out → wd_V G (d + 1) RX8 cX8_firsts 4 none (fun r u => r = none ∧ u = out) 129 [some (.inr 31), none, none, none] [] μ) (h : X8_firsts_c2 rec k μ x1 x2 = some out) : wd_V G (d + 1) RX8 cX8_firsts 4 none (fun r u => r = none ∧ u = out) 2 [some (.inr 31), some (.inl x1), some (.inl x2), none] [] μ := by
  unfold X8_firsts_c2 at h
  refine wv_iload_n (pc' := 3) (i := 2) (v := x2) dX8_firsts_2 rfl rfl rfl ?_
  refine wv_aload_n (pc' := 4) (i := 0) (v := 31) dX8_firsts_3 rfl rfl rfl ?_
  refine wv_callVi (pc' := 7) (x := (X8_all μ)) (ν := μ) [] ml_X8_141 rc_31 rfl (Nat.le_of_ble_eq_true rfl) dX8_firsts_4 rfl (c_X8_all G d (Nat.le_trans (Nat.le_of_ble_eq_true rfl) hd)  rfl) ?_
  refine wv_icmp_gt (pc' := 10) (tgt := 129) dX8_firsts_7 (by decide) rfl (fun c1 => ?_) (fun c1 => ?_)
  · have h := (if_pos c1).symm.trans h
    refine wv_weak (L' := [some (.inr 31), none, none, none]) ⟨rfl, trivial⟩ ?_
    exact hk _ h
  · have h := (if_neg c1).symm.trans h
    refine wv_iload_n (pc' := 11) (i := 2) (v := x2) dX8_firsts_10 rfl rfl rfl ?_
    refine wv_iload_n (pc' := 12) (i := 1) (v := x1) dX8_firsts_11 rfl rfl rfl ?_
    refine wv_callSi (pc' := 15) (x := (X8_has μ x2 x1)) (ν := μ) [.inl x2, .inl x1] ml_X8_124 rfl (Nat.le_of_ble_eq_true rfl) dX8_firsts_12 rfl (c_X8_has G d (Nat.le_trans (Nat.le_of_ble_eq_true rfl) hd)  rfl) ?_
    refine wv_if_ne (pc' := 18) (tgt := 123) dX8_firsts_15 (by decide) rfl (fun c2 => ?_) (fun c2 => ?_)
    · have h := (if_neg c2).symm.trans h
      exact t_X8_firsts_b123 G d hd rec k μ x1 x2 hrec hk h
    · have h := (if_pos c2).symm.trans h
      refine wv_aload_n (pc' := 19) (i := 0) (v := 31) dX8_firsts_18 rfl rfl rfl ?_
      refine wv_iload_n (pc' := 20) (i := 2) (v := x2) dX8_firsts_19 rfl rfl rfl ?_
      obtain ⟨r3, er3, h⟩ := wd_bind_some h
      refine wv_callVi (pc' := 23) (x := r3) (ν := μ) [.inl x2] ml_X8_145 rc_31 rfl (Nat.le_of_ble_eq_true rfl) dX8_firsts_20 rfl (c_X8_setEarly G d (Nat.le_trans (Nat.le_of_ble_eq_true rfl) hd)  er3) ?_
      refine wv_aload_n (pc' := 24) (i := 0) (v := 31) dX8_firsts_23 rfl rfl rfl ?_
      refine wv_gr (pc' := 27) g_X8_35_31 dX8_firsts_24 rfl ?_
      refine wv_iload_n (pc' := 28) (i := 1) (v := x1) dX8_firsts_27 rfl rfl rfl ?_
      obtain ⟨g4, h⟩ := wd_chk_some h
      refine wv_iald (pc' := 29) sa_40 (wd_in_vp g4) dX8_firsts_28 rfl ?_
      refine wv_icmp_gt (pc' := 32) (tgt := 123) dX8_firsts_29 (by decide) rfl (fun c5 => ?_) (fun c5 => ?_)
      · have h := (if_pos c5).symm.trans h
        exact t_X8_firsts_b123 G d hd rec k μ x1 x2 hrec hk h
      · have h := (if_neg c5).symm.trans h
        refine wv_aload_n (pc' := 33) (i := 0) (v := 31) dX8_firsts_32 rfl rfl rfl ?_
        refine wv_gr (pc' := 36) g_X8_35_31 dX8_firsts_33 rfl ?_
        refine wv_iload_n (pc' := 37) (i := 1) (v := x1) dX8_firsts_36 rfl rfl rfl ?_
        refine wv_iald (pc' := 38) sa_40 (wd_in_vp g4) dX8_firsts_37 rfl ?_
        refine wv_aload_n (pc' := 39) (i := 0) (v := 31) dX8_firsts_38 rfl rfl rfl ?_
        refine wv_iload_n (pc' := 40) (i := 2) (v := x2) dX8_firsts_39 rfl rfl rfl ?_
        obtain ⟨r6, er6, h⟩ := wd_bind_some h
        refine wv_callVi (pc' := 43) (x := r6) (ν := μ) [.inl x2] ml_X8_154 rc_31 rfl (Nat.le_of_ble_eq_true rfl) dX8_firsts_40 rfl (c_X8_setDone G d (Nat.le_trans (Nat.le_of_ble_eq_true rfl) hd)  er6) ?_
        refine wv_icmp_ge (pc' := 46) (tgt := 123) dX8_firsts_43 (by decide) rfl (fun c7 => ?_) (fun c7 => ?_)
        · have h := (if_pos c7).symm.trans h
          exact t_X8_firsts_b123 G d hd rec k μ x1 x2 hrec hk h
        · have h := (if_neg c7).symm.trans h
          refine wv_aload_n (pc' := 47) (i := 0) (v := 31) dX8_firsts_46 rfl rfl rfl ?_
          refine wv_iload_n (pc' := 48) (i := 1) (v := x1) dX8_firsts_47 rfl rfl rfl ?_
          obtain ⟨r8, er8, h⟩ := wd_bind_some h
          refine wv_callVi (pc' := 51) (x := r8) (ν := μ) [.inl x1] ml_X8_127 rc_31 rfl (Nat.le_of_ble_eq_true rfl) dX8_firsts_48 rfl (c_X8_done G d (Nat.le_trans (Nat.le_of_ble_eq_true rfl) hd)  er8) ?_
          refine wv_aload_n (pc' := 52) (i := 0) (v := 31) dX8_firsts_51 rfl rfl rfl ?_
          refine wv_iload_n (pc' := 53) (i := 2) (v := x2) dX8_firsts_52 rfl rfl rfl ?_
          obtain ⟨r9, er9, h⟩ := wd_bind_some h
          refine wv_callVi (pc' := 56) (x := r9) (ν := μ) [.inl x2] ml_X8_151 rc_31 rfl (Nat.le_of_ble_eq_true rfl) dX8_firsts_53 rfl (c_X8_setLate G d (Nat.le_trans (Nat.le_of_ble_eq_true rfl) hd)  er9) ?_
          refine wv_icmp_ge (pc' := 59) (tgt := 67) dX8_firsts_56 (by decide) rfl (fun c10 => ?_) (fun c10 => ?_)
          · have h := (if_pos c10).symm.trans h
            refine wv_aload_n (pc' := 68) (i := 0) (v := 31) dX8_firsts_67 rfl rfl rfl ?_
            refine wv_iload_n (pc' := 69) (i := 2) (v := x2) dX8_firsts_68 rfl rfl rfl ?_
            obtain ⟨r11, er11, h⟩ := wd_bind_some h
            refine wv_callVi (pc' := 72) (x := r11) (ν := μ) [.inl x2] ml_X8_151 rc_31 rfl (Nat.le_of_ble_eq_true rfl) dX8_firsts_69 rfl (c_X8_setLate G d (Nat.le_trans (Nat.le_of_ble_eq_true rfl) hd)  er11) ?_
            exact t_X8_firsts_b72 G d hd rec k μ x1 x2 r11 hrec hk h
          · have h := (if_neg c10).symm.trans h
            refine wv_aload_n (pc' := 60) (i := 0) (v := 31) dX8_firsts_59 rfl rfl rfl ?_
            refine wv_iload_n (pc' := 61) (i := 1) (v := x1) dX8_firsts_60 rfl rfl rfl ?_
            obtain ⟨r20, er20, h⟩ := wd_bind_some h
            refine wv_callVi (pc' := 64) (x := r20) (ν := μ) [.inl x1] ml_X8_127 rc_31 rfl (Nat.le_of_ble_eq_true rfl) dX8_firsts_61 rfl (c_X8_done G d (Nat.le_trans (Nat.le_of_ble_eq_true rfl) hd)  er20) ?_
            refine wv_goto (pc' := 72) dX8_firsts_64 (by decide) ?_
            exact t_X8_firsts_b72 G d hd rec k μ x1 x2 r20 hrec hk h
set_option maxRecDepth 100000 in
set_option maxHeartbeats 4000000 in
theorem t_X8_firsts_l2 (G : wd_G) (d : Nat) (hd : 2 ≤ d) {out : wd_Mem} (k : wd_Mem → Option (wd_Mem)) (x1 : Int32) (hk : ∀  (μ : wd_Mem), k μ = some out → wd_V G (d + 1) RX8 cX8_firsts 4 none (fun r u => r = none ∧ u = out) 129 [some (.inr 31), none, none, none] [] μ) : ∀ (n : Nat) (x2 : Int32) (μ : wd_Mem), X8_firsts_l2 k x1 n x2 μ = some out → wd_V G (d + 1) RX8 cX8_firsts 4 none (fun r u => r = none ∧ u = out) 2 [some (.inr 31), some (.inl x1), some (.inl x2), none] [] μ := by
  intro n
  induction n with
  | zero => intro x2 μ h; exact absurd h (by unfold X8_firsts_l2; simp)
  | succ n ih =>
    intro x2 μ h
    exact t_X8_firsts_c2 G d hd (X8_firsts_l2 k x1 n) k μ x1 x2  (fun x2 μ h => ih x2 μ h) hk h
set_option maxRecDepth 100000 in
set_option maxHeartbeats 4000000 in
theorem t_X8_firsts_b129 (G : wd_G) (d : Nat) (hd : 2 ≤ d) {out : wd_Mem} (μ : wd_Mem)  (h : X8_firsts_b129 μ = some out) : wd_V G (d + 1) RX8 cX8_firsts 4 none (fun r u => r = none ∧ u = out) 129 [some (.inr 31), none, none, none] [] μ := by
  unfold X8_firsts_b129 at h
  exact wv_return rfl dX8_firsts_129 (wd_lv h)
set_option maxRecDepth 100000 in
set_option maxHeartbeats 4000000 in
theorem t_X8_firsts_b0 (G : wd_G) (d : Nat) (hd : 2 ≤ d) {out : wd_Mem} (μ : wd_Mem) (x1 : Int32)  (h : X8_firsts_b0 μ x1 = some out) : wd_V G (d + 1) RX8 cX8_firsts 4 none (fun r u => r = none ∧ u = out) 0 [some (.inr 31), some (.inl x1), none, none] [] μ := by
  unfold X8_firsts_b0 at h
  refine wv_iconst (pc' := 1) dX8_firsts_0 ic_1 rfl ?_
  refine wv_istore_n (pc' := 2) (i := 2) (L' := [some (.inr 31), some (.inl x1), some (.inl (1 : Int32)), none]) dX8_firsts_1 rfl (by decide) rfl rfl ?_
  exact t_X8_firsts_l2 G d hd (fun μ => X8_firsts_b129 μ) x1  (fun μ h => t_X8_firsts_b129 G d hd μ  h) wd_big (1 : Int32) μ h
set_option maxRecDepth 100000 in
set_option maxHeartbeats 4000000 in
theorem c_X8_firsts (G : wd_G) (d : Nat) (hd : 3 ≤ d) {μ : wd_Mem} {x1 : Int32} {out : wd_Mem}  (h : X8_firsts μ x1 = some out) : wd_C G d yX8_firsts [.inr 31, .inl x1] μ (fun r u => r = none ∧ u = out) := by
  obtain ⟨d, rfl⟩ : ∃ e, d = e + 1 := ⟨d - 1, by omega⟩
  refine wd_enter mc_X8_firsts (by decide) (by decide +kernel) rfl (Nat.le_of_ble_eq_true rfl) (L0 := [some (.inr 31), some (.inl x1), none, none]) rfl ?_
  exact t_X8_firsts_b0 G d (by omega) μ x1 h
set_option maxRecDepth 100000 in
set_option maxHeartbeats 4000000 in
theorem t_X8_lesser_b0 (G : wd_G) (d : Nat) (hd : 0 ≤ d) {out : Int32} (μ : wd_Mem) (x0 x1 : Int32)  (h : X8_lesser_b0 μ x0 x1 = out) : wd_V G (d + 1) RX8 cX8_lesser 2 (some .int) (fun r u => r = some (.inl out) ∧ u = μ) 0 [some (.inl x0), some (.inl x1)] [] μ := by
  unfold X8_lesser_b0 at h
  refine wv_iload_n (pc' := 1) (i := 0) (v := x0) dX8_lesser_0 rfl rfl rfl ?_
  refine wv_iload_n (pc' := 2) (i := 1) (v := x1) dX8_lesser_1 rfl rfl rfl ?_
  refine wv_icmp_ge (pc' := 5) (tgt := 9) dX8_lesser_2 (by decide) rfl (fun c1 => ?_) (fun c1 => ?_)
  · have h := (if_pos c1).symm.trans h
    refine wv_iload_n (pc' := 10) (i := 1) (v := x1) dX8_lesser_9 rfl rfl rfl ?_
    exact wv_ireturn rfl dX8_lesser_10 (wd_lt h)
  · have h := (if_neg c1).symm.trans h
    refine wv_iload_n (pc' := 6) (i := 0) (v := x0) dX8_lesser_5 rfl rfl rfl ?_
    refine wv_goto (pc' := 10) dX8_lesser_6 (by decide) ?_
    exact wv_ireturn rfl dX8_lesser_10 (wd_lt h)
set_option maxRecDepth 100000 in
set_option maxHeartbeats 4000000 in
theorem c_X8_lesser (G : wd_G) (d : Nat) (hd : 1 ≤ d) {μ : wd_Mem} {x0 x1 : Int32} {out : Int32}  (h : X8_lesser μ x0 x1 = out) : wd_C G d yX8_lesser [.inl x0, .inl x1] μ (fun r u => r = some (.inl out) ∧ u = μ) := by
  obtain ⟨d, rfl⟩ : ∃ e, d = e + 1 := ⟨d - 1, by omega⟩
  refine wd_enter mc_X8_lesser (by decide) (by decide +kernel) rfl (Nat.le_of_ble_eq_true rfl) (L0 := [some (.inl x0), some (.inl x1)]) rfl ?_
  exact t_X8_lesser_b0 G d (by omega) μ x0 x1 h
set_option maxRecDepth 100000 in
set_option maxHeartbeats 4000000 in
theorem t_X8_leastOf_b0 (G : wd_G) (d : Nat) (hd : 1 ≤ d) {out : Int32} (μ : wd_Mem) (x1 x2 x3 : Int32)  (h : X8_leastOf_b0 μ x1 x2 x3 = some out) : wd_V G (d + 1) RX8 cX8_leastOf 5 (some .int) (fun r u => r = some (.inl out) ∧ u = μ) 0 [some (.inr 31), some (.inl x1), some (.inl x2), some (.inl x3), none] [] μ := by
  unfold X8_leastOf_b0 at h
  refine wv_aload_n (pc' := 1) (i := 0) (v := 31) dX8_leastOf_0 rfl rfl rfl ?_
  refine wv_gr (pc' := 4) g_X8_7_31 dX8_leastOf_1 rfl ?_
  refine wv_iload_n (pc' := 5) (i := 1) (v := x1) dX8_leastOf_4 rfl rfl rfl ?_
  obtain ⟨g1, h⟩ := wd_chk_some h
  refine wv_iald (pc' := 6) sa_32 (wd_in_vp g1) dX8_leastOf_5 rfl ?_
  refine wv_iload_n (pc' := 7) (i := 3) (v := x3) dX8_leastOf_6 rfl rfl rfl ?_
  refine wv_iload_n (pc' := 8) (i := 2) (v := x2) dX8_leastOf_7 rfl rfl rfl ?_
  refine wv_isub (pc' := 9) dX8_leastOf_8 rfl ?_
  refine wv_callSi (pc' := 12) (x := (X8_lesser μ (μ 32 (Int32.toNatClampNeg x1)) (x3 - x2))) (ν := μ) [.inl (μ 32 (Int32.toNatClampNeg x1)), .inl (x3 - x2)] ml_X8_157 rfl (Nat.le_of_ble_eq_true rfl) dX8_leastOf_9 rfl (c_X8_lesser G d (Nat.le_trans (Nat.le_of_ble_eq_true rfl) hd)  rfl) ?_
  refine wv_aload_n (pc' := 13) (i := 0) (v := 31) dX8_leastOf_12 rfl rfl rfl ?_
  refine wv_iload_n (pc' := 14) (i := 1) (v := x1) dX8_leastOf_13 rfl rfl rfl ?_
  obtain ⟨r2, er2, h⟩ := wd_bind_some h
  refine wv_callVi (pc' := 17) (x := r2) (ν := μ) [.inl x1] ml_X8_127 rc_31 rfl (Nat.le_of_ble_eq_true rfl) dX8_leastOf_14 rfl (c_X8_done G d (Nat.le_trans (Nat.le_of_ble_eq_true rfl) hd)  er2) ?_
  refine wv_iload_n (pc' := 18) (i := 2) (v := x2) dX8_leastOf_17 rfl rfl rfl ?_
  refine wv_isub (pc' := 19) dX8_leastOf_18 rfl ?_
  refine wv_iload_n (pc' := 20) (i := 3) (v := x3) dX8_leastOf_19 rfl rfl rfl ?_
  refine wv_aload_n (pc' := 21) (i := 0) (v := 31) dX8_leastOf_20 rfl rfl rfl ?_
  refine wv_iload_n (pc' := 22) (i := 1) (v := x1) dX8_leastOf_21 rfl rfl rfl ?_
  obtain ⟨r3, er3, h⟩ := wd_bind_some h
  refine wv_callVi (pc' := 25) (x := r3) (ν := μ) [.inl x1] ml_X8_131 rc_31 rfl (Nat.le_of_ble_eq_true rfl) dX8_leastOf_22 rfl (c_X8_start G d (Nat.le_trans (Nat.le_of_ble_eq_true rfl) hd)  er3) ?_
  refine wv_isub (pc' := 26) dX8_leastOf_25 rfl ?_
  refine wv_callSi (pc' := 29) (x := (X8_lesser μ (r2 - x2) (x3 - r3))) (ν := μ) [.inl (r2 - x2), .inl (x3 - r3)] ml_X8_157 rfl (Nat.le_of_ble_eq_true rfl) dX8_leastOf_26 rfl (c_X8_lesser G d (Nat.le_trans (Nat.le_of_ble_eq_true rfl) hd)  rfl) ?_
  refine wv_callSi (pc' := 32) (x := (X8_lesser μ (X8_lesser μ (μ 32 (Int32.toNatClampNeg x1)) (x3 - x2)) (X8_lesser μ (r2 - x2) (x3 - r3)))) (ν := μ) [.inl (X8_lesser μ (μ 32 (Int32.toNatClampNeg x1)) (x3 - x2)), .inl (X8_lesser μ (r2 - x2) (x3 - r3))] ml_X8_157 rfl (Nat.le_of_ble_eq_true rfl) dX8_leastOf_29 rfl (c_X8_lesser G d (Nat.le_trans (Nat.le_of_ble_eq_true rfl) hd)  rfl) ?_
  refine wv_istore (pc' := 34) (L' := [some (.inr 31), some (.inl x1), some (.inl x2), some (.inl x3), some (.inl (X8_lesser μ (X8_lesser μ (μ 32 (Int32.toNatClampNeg x1)) (x3 - x2)) (X8_lesser μ (r2 - x2) (x3 - r3))))]) dX8_leastOf_32 (by decide) rfl rfl ?_
  refine wv_iload (pc' := 36) (v := (X8_lesser μ (X8_lesser μ (μ 32 (Int32.toNatClampNeg x1)) (x3 - x2)) (X8_lesser μ (r2 - x2) (x3 - r3)))) dX8_leastOf_34 rfl rfl ?_
  refine wv_if_ge (pc' := 39) (tgt := 43) dX8_leastOf_36 (by decide) rfl (fun c4 => ?_) (fun c4 => ?_)
  · have h := (if_pos c4).symm.trans h
    refine wv_iload (pc' := 45) (v := (X8_lesser μ (X8_lesser μ (μ 32 (Int32.toNatClampNeg x1)) (x3 - x2)) (X8_lesser μ (r2 - x2) (x3 - r3)))) dX8_leastOf_43 rfl rfl ?_
    refine wv_aload_n (pc' := 46) (i := 0) (v := 31) dX8_leastOf_45 rfl rfl rfl ?_
    refine wv_gr (pc' := 49) g_X8_13_31 dX8_leastOf_46 rfl ?_
    refine wv_iload_n (pc' := 50) (i := 1) (v := x1) dX8_leastOf_49 rfl rfl rfl ?_
    refine wv_iald (pc' := 51) sa_33 (wd_in_vp g1) dX8_leastOf_50 rfl ?_
    refine wv_imul (pc' := 52) dX8_leastOf_51 rfl ?_
    exact wv_ireturn rfl dX8_leastOf_52 (wd_li h)
  · have h := (if_neg c4).symm.trans h
    refine wv_iconst (pc' := 40) dX8_leastOf_39 ic_0 rfl ?_
    refine wv_goto (pc' := 52) dX8_leastOf_40 (by decide) ?_
    exact wv_ireturn rfl dX8_leastOf_52 (wd_li h)
set_option maxRecDepth 100000 in
set_option maxHeartbeats 4000000 in
theorem c_X8_leastOf (G : wd_G) (d : Nat) (hd : 2 ≤ d) {μ : wd_Mem} {x1 x2 x3 : Int32} {out : Int32}  (h : X8_leastOf μ x1 x2 x3 = some out) : wd_C G d yX8_leastOf [.inr 31, .inl x1, .inl x2, .inl x3] μ (fun r u => r = some (.inl out) ∧ u = μ) := by
  obtain ⟨d, rfl⟩ : ∃ e, d = e + 1 := ⟨d - 1, by omega⟩
  refine wd_enter mc_X8_leastOf (by decide) (by decide +kernel) rfl (Nat.le_of_ble_eq_true rfl) (L0 := [some (.inr 31), some (.inl x1), some (.inl x2), some (.inl x3), none]) rfl ?_
  exact t_X8_leastOf_b0 G d (by omega) μ x1 x2 x3 h
set_option maxRecDepth 100000 in
set_option maxHeartbeats 4000000 in
theorem t_X8_spans_b60 (G : wd_G) (d : Nat) (hd : 2 ≤ d) {out : wd_Mem} (rec : Int32 → Int32 → Option (wd_Mem)) (k : Int32 → Option (wd_Mem)) (μ : wd_Mem) (x1 x2 x3 x5 s0 s1 : Int32) (hrec : ∀ (x4 x5 : Int32), rec x4 x5 = some out → wd_V G (d + 1) RX8 cX8_spans 6 none (fun r u => r = none ∧ u = out) 31 [some (.inr 31), some (.inl x1), some (.inl x2), some (.inl x3), some (.inl x4), some (.inl x5)] [] μ) (hk : ∀ (x4 : Int32), k x4 = some out → wd_V G (d + 1) RX8 cX8_spans 6 none (fun r u => r = none ∧ u = out) 69 [some (.inr 31), some (.inl x1), some (.inl x2), some (.inl x3), some (.inl x4), none] [] μ) (h : X8_spans_b60 rec k μ x1 x2 x3 x5 s0 s1 = some out) : wd_V G (d + 1) RX8 cX8_spans 6 none (fun r u => r = none ∧ u = out) 60 [some (.inr 31), some (.inl x1), some (.inl x2), some (.inl x3), none, some (.inl x5)] [.inl s1, .inl s0] μ := by
  unfold X8_spans_b60 at h
  refine wv_isub (pc' := 61) dX8_spans_60 rfl ?_
  refine wv_istore (pc' := 63) (L' := [some (.inr 31), some (.inl x1), some (.inl x2), some (.inl x3), some (.inl (s0 - s1)), some (.inl x5)]) dX8_spans_61 (by decide) rfl rfl ?_
  refine wv_inc (pc' := 66) (x := x5) (L' := [some (.inr 31), some (.inl x1), some (.inl x2), some (.inl x3), some (.inl (s0 - s1)), some (.inl (x5 + (1 : Int32)))]) dX8_spans_63 ic_1 rfl (by decide) rfl rfl ?_
  refine wv_goto (pc' := 31) dX8_spans_66 (by decide) ?_
  exact hrec _ _ h
set_option maxRecDepth 100000 in
set_option maxHeartbeats 4000000 in
theorem t_X8_spans_c31 (G : wd_G) (d : Nat) (hd : 2 ≤ d) {out : wd_Mem} (rec : Int32 → Int32 → Option (wd_Mem)) (k : Int32 → Option (wd_Mem)) (μ : wd_Mem) (x1 x2 x3 x4 x5 : Int32) (hrec : ∀ (x4 x5 : Int32), rec x4 x5 = some out → wd_V G (d + 1) RX8 cX8_spans 6 none (fun r u => r = none ∧ u = out) 31 [some (.inr 31), some (.inl x1), some (.inl x2), some (.inl x3), some (.inl x4), some (.inl x5)] [] μ) (hk : ∀ (x4 : Int32), k x4 = some out → wd_V G (d + 1) RX8 cX8_spans 6 none (fun r u => r = none ∧ u = out) 69 [some (.inr 31), some (.inl x1), some (.inl x2), some (.inl x3), some (.inl x4), none] [] μ) (h : X8_spans_c31 rec k μ x1 x2 x3 x4 x5 = some out) : wd_V G (d + 1) RX8 cX8_spans 6 none (fun r u => r = none ∧ u = out) 31 [some (.inr 31), some (.inl x1), some (.inl x2), some (.inl x3), some (.inl x4), some (.inl x5)] [] μ := by
  unfold X8_spans_c31 at h
  refine wv_iload (pc' := 33) (v := x5) dX8_spans_31 rfl rfl ?_
  refine wv_aload_n (pc' := 34) (i := 0) (v := 31) dX8_spans_33 rfl rfl rfl ?_
  refine wv_gi (pc' := 37) g_X8_118_31 dX8_spans_34 rfl ?_
  refine wv_icmp_ge (pc' := 40) (tgt := 69) dX8_spans_37 (by decide) rfl (fun c3 => ?_) (fun c3 => ?_)
  · have h := (if_pos c3).symm.trans h
    refine wv_weak (L' := [some (.inr 31), some (.inl x1), some (.inl x2), some (.inl x3), some (.inl x4), none]) ⟨rfl, rfl, rfl, rfl, rfl, trivial⟩ ?_
    exact hk _ h
  · have h := (if_neg c3).symm.trans h
    refine wv_iload (pc' := 42) (v := x4) dX8_spans_40 rfl rfl ?_
    refine wv_iload (pc' := 44) (v := x5) dX8_spans_42 rfl rfl ?_
    refine wv_iload_n (pc' := 45) (i := 1) (v := x1) dX8_spans_44 rfl rfl rfl ?_
    refine wv_icmp_ne (pc' := 48) (tgt := 52) dX8_spans_45 (by decide) rfl (fun c4 => ?_) (fun c4 => ?_)
    · have h := (if_neg c4).symm.trans h
      refine wv_aload_n (pc' := 53) (i := 0) (v := 31) dX8_spans_52 rfl rfl rfl ?_
      refine wv_iload (pc' := 55) (v := x5) dX8_spans_53 rfl rfl ?_
      refine wv_iload_n (pc' := 56) (i := 2) (v := x2) dX8_spans_55 rfl rfl rfl ?_
      refine wv_iload_n (pc' := 57) (i := 3) (v := x3) dX8_spans_56 rfl rfl rfl ?_
      obtain ⟨r5, er5, h⟩ := wd_bind_some h
      refine wv_callVi (pc' := 60) (x := r5) (ν := μ) [.inl x5, .inl x2, .inl x3] ml_X8_161 rc_31 rfl (Nat.le_of_ble_eq_true rfl) dX8_spans_57 rfl (c_X8_leastOf G d (Nat.le_trans (Nat.le_of_ble_eq_true rfl) hd)  er5) ?_
      refine wv_weak (L' := [some (.inr 31), some (.inl x1), some (.inl x2), some (.inl x3), none, some (.inl x5)]) ⟨rfl, rfl, rfl, rfl, rfl, trivial⟩ ?_
      exact t_X8_spans_b60 G d hd rec k μ x1 x2 x3 x5 x4 r5 hrec hk h
    · have h := (if_pos c4).symm.trans h
      refine wv_iconst (pc' := 49) dX8_spans_48 ic_0 rfl ?_
      refine wv_goto (pc' := 60) dX8_spans_49 (by decide) ?_
      refine wv_weak (L' := [some (.inr 31), some (.inl x1), some (.inl x2), some (.inl x3), none, some (.inl x5)]) ⟨rfl, rfl, rfl, rfl, rfl, trivial⟩ ?_
      exact t_X8_spans_b60 G d hd rec k μ x1 x2 x3 x5 x4 (0 : Int32) hrec hk h
set_option maxRecDepth 100000 in
set_option maxHeartbeats 4000000 in
theorem t_X8_spans_l31 (G : wd_G) (d : Nat) (hd : 2 ≤ d) {out : wd_Mem} (k : Int32 → Option (wd_Mem)) (μ : wd_Mem) (x1 x2 x3 : Int32) (hk : ∀ (x4 : Int32), k x4 = some out → wd_V G (d + 1) RX8 cX8_spans 6 none (fun r u => r = none ∧ u = out) 69 [some (.inr 31), some (.inl x1), some (.inl x2), some (.inl x3), some (.inl x4), none] [] μ) : ∀ (n : Nat) (x4 x5 : Int32), X8_spans_l31 k μ x1 x2 x3 n x4 x5 = some out → wd_V G (d + 1) RX8 cX8_spans 6 none (fun r u => r = none ∧ u = out) 31 [some (.inr 31), some (.inl x1), some (.inl x2), some (.inl x3), some (.inl x4), some (.inl x5)] [] μ := by
  intro n
  induction n with
  | zero => intro x4 x5 h; exact absurd h (by unfold X8_spans_l31; simp)
  | succ n ih =>
    intro x4 x5 h
    exact t_X8_spans_c31 G d hd (X8_spans_l31 k μ x1 x2 x3 n) k μ x1 x2 x3 x4 x5  (fun x4 x5 h => ih x4 x5 h) hk h
set_option maxRecDepth 100000 in
set_option maxHeartbeats 4000000 in
theorem t_X8_spans_b147 (G : wd_G) (d : Nat) (hd : 2 ≤ d) {out : wd_Mem} (rec : Int32 → wd_Mem → Option (wd_Mem)) (k : wd_Mem → Option (wd_Mem)) (μ : wd_Mem) (x1 x2 x3 : Int32) (hrec : ∀ (x3 : Int32) (μ : wd_Mem), rec x3 μ = some out → wd_V G (d + 1) RX8 cX8_spans 6 none (fun r u => r = none ∧ u = out) 12 [some (.inr 31), some (.inl x1), some (.inl x2), some (.inl x3), none, none] [] μ) (hk : ∀  (μ : wd_Mem), k μ = some out → wd_V G (d + 1) RX8 cX8_spans 6 none (fun r u => r = none ∧ u = out) 153 [some (.inr 31), some (.inl x1), some (.inl x2), none, none, none] [] μ) (h : X8_spans_b147 rec k μ x1 x2 x3 = some out) : wd_V G (d + 1) RX8 cX8_spans 6 none (fun r u => r = none ∧ u = out) 147 [some (.inr 31), some (.inl x1), some (.inl x2), some (.inl x3), none, none] [] μ := by
  unfold X8_spans_b147 at h
  refine wv_inc (pc' := 150) (x := x3) (L' := [some (.inr 31), some (.inl x1), some (.inl x2), some (.inl (x3 + (1 : Int32))), none, none]) dX8_spans_147 ic_1 rfl (by decide) rfl rfl ?_
  refine wv_goto (pc' := 12) dX8_spans_150 (by decide) ?_
  exact hrec _ _ h
set_option maxRecDepth 100000 in
set_option maxHeartbeats 4000000 in
theorem t_X8_spans_b111 (G : wd_G) (d : Nat) (hd : 2 ≤ d) {out : wd_Mem} (rec : Int32 → wd_Mem → Option (wd_Mem)) (k : wd_Mem → Option (wd_Mem)) (μ : wd_Mem) (x1 x2 x3 x4 s0 : Int32) (hrec : ∀ (x3 : Int32) (μ : wd_Mem), rec x3 μ = some out → wd_V G (d + 1) RX8 cX8_spans 6 none (fun r u => r = none ∧ u = out) 12 [some (.inr 31), some (.inl x1), some (.inl x2), some (.inl x3), none, none] [] μ) (hk : ∀  (μ : wd_Mem), k μ = some out → wd_V G (d + 1) RX8 cX8_spans 6 none (fun r u => r = none ∧ u = out) 153 [some (.inr 31), some (.inl x1), some (.inl x2), none, none, none] [] μ) (h : X8_spans_b111 rec k μ x1 x2 x3 x4 s0 = some out) : wd_V G (d + 1) RX8 cX8_spans 6 none (fun r u => r = none ∧ u = out) 111 [some (.inr 31), some (.inl x1), some (.inl x2), some (.inl x3), some (.inl x4), none] [.inl s0] μ := by
  unfold X8_spans_b111 at h
  refine wv_istore (pc' := 113) (L' := [some (.inr 31), some (.inl x1), some (.inl x2), some (.inl x3), some (.inl x4), some (.inl s0)]) dX8_spans_111 (by decide) rfl rfl ?_
  refine wv_iload (pc' := 115) (v := x4) dX8_spans_113 rfl rfl ?_
  refine wv_if_lt (pc' := 118) (tgt := 147) dX8_spans_115 (by decide) rfl (fun c8 => ?_) (fun c8 => ?_)
  · have h := (if_pos c8).symm.trans h
    refine wv_weak (L' := [some (.inr 31), some (.inl x1), some (.inl x2), some (.inl x3), none, none]) ⟨rfl, rfl, rfl, rfl, trivial⟩ ?_
    exact t_X8_spans_b147 G d hd rec k μ x1 x2 x3 hrec hk h
  · have h := (if_neg c8).symm.trans h
    refine wv_iload (pc' := 120) (v := s0) dX8_spans_118 rfl rfl ?_
    refine wv_iload (pc' := 122) (v := x4) dX8_spans_120 rfl rfl ?_
    refine wv_icmp_le (pc' := 125) (tgt := 147) dX8_spans_122 (by decide) rfl (fun c9 => ?_) (fun c9 => ?_)
    · have h := (if_pos c9).symm.trans h
      refine wv_weak (L' := [some (.inr 31), some (.inl x1), some (.inl x2), some (.inl x3), none, none]) ⟨rfl, rfl, rfl, rfl, trivial⟩ ?_
      exact t_X8_spans_b147 G d hd rec k μ x1 x2 x3 hrec hk h
    · have h := (if_neg c9).symm.trans h
      refine wv_aload_n (pc' := 126) (i := 0) (v := 31) dX8_spans_125 rfl rfl rfl ?_
      refine wv_iload_n (pc' := 127) (i := 1) (v := x1) dX8_spans_126 rfl rfl rfl ?_
      refine wv_iload_n (pc' := 128) (i := 3) (v := x3) dX8_spans_127 rfl rfl rfl ?_
      refine wv_iload (pc' := 130) (v := x4) dX8_spans_128 rfl rfl ?_
      refine wv_aload_n (pc' := 131) (i := 0) (v := 31) dX8_spans_130 rfl rfl rfl ?_
      refine wv_gr (pc' := 134) g_X8_13_31 dX8_spans_131 rfl ?_
      refine wv_iload_n (pc' := 135) (i := 1) (v := x1) dX8_spans_134 rfl rfl rfl ?_
      obtain ⟨g10, h⟩ := wd_chk_some h
      refine wv_iald (pc' := 136) sa_33 (wd_in_vp g10) dX8_spans_135 rfl ?_
      obtain ⟨g11, h⟩ := wd_chk_some h
      refine wv_idiv (pc' := 137) dX8_spans_136 (wd_nz_ne g11) rfl ?_
      refine wv_isub (pc' := 138) dX8_spans_137 rfl ?_
      refine wv_bipush (pc' := 140) dX8_spans_138 bp_100 rfl ?_
      refine wv_iload_n (pc' := 141) (i := 2) (v := x2) dX8_spans_140 rfl rfl rfl ?_
      refine wv_imul (pc' := 142) dX8_spans_141 rfl ?_
      refine wv_iload_n (pc' := 143) (i := 3) (v := x3) dX8_spans_142 rfl rfl rfl ?_
      refine wv_iadd (pc' := 144) dX8_spans_143 rfl ?_
      obtain ⟨r12, er12, h⟩ := wd_bind_some h
      refine wv_callVv (pc' := 147) (ν := r12) [.inl x1, .inl (x3 - (x4 / (μ 33 (Int32.toNatClampNeg x1)))), .inl (((100 : Int32) * x2) + x3)] ml_X8_137 rc_31 rfl (Nat.le_of_ble_eq_true rfl) dX8_spans_144 rfl (c_X8_tells G d (Nat.le_trans (Nat.le_of_ble_eq_true rfl) hd)  er12) ?_
      refine wv_weak (L' := [some (.inr 31), some (.inl x1), some (.inl x2), some (.inl x3), none, none]) ⟨rfl, rfl, rfl, rfl, trivial⟩ ?_
      exact t_X8_spans_b147 G d hd rec k r12 x1 x2 x3 hrec hk h
set_option maxRecDepth 100000 in
set_option maxHeartbeats 4000000 in
theorem t_X8_spans_b69 (G : wd_G) (d : Nat) (hd : 2 ≤ d) {out : wd_Mem} (rec : Int32 → wd_Mem → Option (wd_Mem)) (k : wd_Mem → Option (wd_Mem)) (μ : wd_Mem) (x1 x2 x3 x4 : Int32) (hrec : ∀ (x3 : Int32) (μ : wd_Mem), rec x3 μ = some out → wd_V G (d + 1) RX8 cX8_spans 6 none (fun r u => r = none ∧ u = out) 12 [some (.inr 31), some (.inl x1), some (.inl x2), some (.inl x3), none, none] [] μ) (hk : ∀  (μ : wd_Mem), k μ = some out → wd_V G (d + 1) RX8 cX8_spans 6 none (fun r u => r = none ∧ u = out) 153 [some (.inr 31), some (.inl x1), some (.inl x2), none, none, none] [] μ) (h : X8_spans_b69 rec k μ x1 x2 x3 x4 = some out) : wd_V G (d + 1) RX8 cX8_spans 6 none (fun r u => r = none ∧ u = out) 69 [some (.inr 31), some (.inl x1), some (.inl x2), some (.inl x3), some (.inl x4), none] [] μ := by
  unfold X8_spans_b69 at h
  refine wv_aload_n (pc' := 70) (i := 0) (v := 31) dX8_spans_69 rfl rfl rfl ?_
  refine wv_iload_n (pc' := 71) (i := 1) (v := x1) dX8_spans_70 rfl rfl rfl ?_
  obtain ⟨r6, er6, h⟩ := wd_bind_some h
  refine wv_callVi (pc' := 74) (x := r6) (ν := μ) [.inl x1] ml_X8_127 rc_31 rfl (Nat.le_of_ble_eq_true rfl) dX8_spans_71 rfl (c_X8_done G d (Nat.le_trans (Nat.le_of_ble_eq_true rfl) hd)  er6) ?_
  refine wv_iload_n (pc' := 75) (i := 2) (v := x2) dX8_spans_74 rfl rfl rfl ?_
  refine wv_icmp_le (pc' := 78) (tgt := 110) dX8_spans_75 (by decide) rfl (fun c7 => ?_) (fun c7 => ?_)
  · have h := (if_pos c7).symm.trans h
    refine wv_iconst (pc' := 111) dX8_spans_110 ic_0 rfl ?_
    exact t_X8_spans_b111 G d hd rec k μ x1 x2 x3 x4 (0 : Int32) hrec hk h
  · have h := (if_neg c7).symm.trans h
    refine wv_aload_n (pc' := 79) (i := 0) (v := 31) dX8_spans_78 rfl rfl rfl ?_
    refine wv_gr (pc' := 82) g_X8_13_31 dX8_spans_79 rfl ?_
    refine wv_iload_n (pc' := 83) (i := 1) (v := x1) dX8_spans_82 rfl rfl rfl ?_
    obtain ⟨g13, h⟩ := wd_chk_some h
    refine wv_iald (pc' := 84) sa_33 (wd_in_vp g13) dX8_spans_83 rfl ?_
    refine wv_aload_n (pc' := 85) (i := 0) (v := 31) dX8_spans_84 rfl rfl rfl ?_
    refine wv_gr (pc' := 88) g_X8_7_31 dX8_spans_85 rfl ?_
    refine wv_iload_n (pc' := 89) (i := 1) (v := x1) dX8_spans_88 rfl rfl rfl ?_
    refine wv_iald (pc' := 90) sa_32 (wd_in_vp g13) dX8_spans_89 rfl ?_
    refine wv_iload_n (pc' := 91) (i := 3) (v := x3) dX8_spans_90 rfl rfl rfl ?_
    refine wv_iload_n (pc' := 92) (i := 2) (v := x2) dX8_spans_91 rfl rfl rfl ?_
    refine wv_isub (pc' := 93) dX8_spans_92 rfl ?_
    refine wv_callSi (pc' := 96) (x := (X8_lesser μ (μ 32 (Int32.toNatClampNeg x1)) (x3 - x2))) (ν := μ) [.inl (μ 32 (Int32.toNatClampNeg x1)), .inl (x3 - x2)] ml_X8_157 rfl (Nat.le_of_ble_eq_true rfl) dX8_spans_93 rfl (c_X8_lesser G d (Nat.le_trans (Nat.le_of_ble_eq_true rfl) hd)  rfl) ?_
    refine wv_aload_n (pc' := 97) (i := 0) (v := 31) dX8_spans_96 rfl rfl rfl ?_
    refine wv_iload_n (pc' := 98) (i := 1) (v := x1) dX8_spans_97 rfl rfl rfl ?_
    obtain ⟨r14, er14, h⟩ := wd_bind_some h
    refine wv_callVi (pc' := 101) (x := r14) (ν := μ) [.inl x1] ml_X8_127 rc_31 rfl (Nat.le_of_ble_eq_true rfl) dX8_spans_98 rfl (c_X8_done G d (Nat.le_trans (Nat.le_of_ble_eq_true rfl) hd)  er14) ?_
    refine wv_iload_n (pc' := 102) (i := 2) (v := x2) dX8_spans_101 rfl rfl rfl ?_
    refine wv_isub (pc' := 103) dX8_spans_102 rfl ?_
    refine wv_callSi (pc' := 106) (x := (X8_lesser μ (X8_lesser μ (μ 32 (Int32.toNatClampNeg x1)) (x3 - x2)) (r14 - x2))) (ν := μ) [.inl (X8_lesser μ (μ 32 (Int32.toNatClampNeg x1)) (x3 - x2)), .inl (r14 - x2)] ml_X8_157 rfl (Nat.le_of_ble_eq_true rfl) dX8_spans_103 rfl (c_X8_lesser G d (Nat.le_trans (Nat.le_of_ble_eq_true rfl) hd)  rfl) ?_
    refine wv_imul (pc' := 107) dX8_spans_106 rfl ?_
    refine wv_goto (pc' := 111) dX8_spans_107 (by decide) ?_
    exact t_X8_spans_b111 G d hd rec k μ x1 x2 x3 x4 ((μ 33 (Int32.toNatClampNeg x1)) * (X8_lesser μ (X8_lesser μ (μ 32 (Int32.toNatClampNeg x1)) (x3 - x2)) (r14 - x2))) hrec hk h
set_option maxRecDepth 100000 in
set_option maxHeartbeats 4000000 in
theorem t_X8_spans_c12 (G : wd_G) (d : Nat) (hd : 2 ≤ d) {out : wd_Mem} (rec : Int32 → wd_Mem → Option (wd_Mem)) (k : wd_Mem → Option (wd_Mem)) (μ : wd_Mem) (x1 x2 x3 : Int32) (hrec : ∀ (x3 : Int32) (μ : wd_Mem), rec x3 μ = some out → wd_V G (d + 1) RX8 cX8_spans 6 none (fun r u => r = none ∧ u = out) 12 [some (.inr 31), some (.inl x1), some (.inl x2), some (.inl x3), none, none] [] μ) (hk : ∀  (μ : wd_Mem), k μ = some out → wd_V G (d + 1) RX8 cX8_spans 6 none (fun r u => r = none ∧ u = out) 153 [some (.inr 31), some (.inl x1), some (.inl x2), none, none, none] [] μ) (h : X8_spans_c12 rec k μ x1 x2 x3 = some out) : wd_V G (d + 1) RX8 cX8_spans 6 none (fun r u => r = none ∧ u = out) 12 [some (.inr 31), some (.inl x1), some (.inl x2), some (.inl x3), none, none] [] μ := by
  unfold X8_spans_c12 at h
  refine wv_iload_n (pc' := 13) (i := 3) (v := x3) dX8_spans_12 rfl rfl rfl ?_
  refine wv_bipush (pc' := 15) dX8_spans_13 bp_16 rfl ?_
  refine wv_icmp_gt (pc' := 18) (tgt := 153) dX8_spans_15 (by decide) rfl (fun c2 => ?_) (fun c2 => ?_)
  · have h := (if_pos c2).symm.trans h
    refine wv_weak (L' := [some (.inr 31), some (.inl x1), some (.inl x2), none, none, none]) ⟨rfl, rfl, rfl, trivial⟩ ?_
    exact hk _ h
  · have h := (if_neg c2).symm.trans h
    refine wv_aload_n (pc' := 19) (i := 0) (v := 31) dX8_spans_18 rfl rfl rfl ?_
    refine wv_gi (pc' := 22) g_X8_59_31 dX8_spans_19 rfl ?_
    refine wv_iload_n (pc' := 23) (i := 3) (v := x3) dX8_spans_22 rfl rfl rfl ?_
    refine wv_iload_n (pc' := 24) (i := 2) (v := x2) dX8_spans_23 rfl rfl rfl ?_
    refine wv_isub (pc' := 25) dX8_spans_24 rfl ?_
    refine wv_imul (pc' := 26) dX8_spans_25 rfl ?_
    refine wv_istore (pc' := 28) (L' := [some (.inr 31), some (.inl x1), some (.inl x2), some (.inl x3), some (.inl ((μ 31 1) * (x3 - x2))), none]) dX8_spans_26 (by decide) rfl rfl ?_
    refine wv_iconst (pc' := 29) dX8_spans_28 ic_0 rfl ?_
    refine wv_istore (pc' := 31) (L' := [some (.inr 31), some (.inl x1), some (.inl x2), some (.inl x3), some (.inl ((μ 31 1) * (x3 - x2))), some (.inl (0 : Int32))]) dX8_spans_29 (by decide) rfl rfl ?_
    exact t_X8_spans_l31 G d hd (fun x4 => X8_spans_b69 rec k μ x1 x2 x3 x4) μ x1 x2 x3  (fun x4 h => t_X8_spans_b69 G d hd rec k μ x1 x2 x3 x4 hrec hk h) wd_big ((μ 31 1) * (x3 - x2)) (0 : Int32) h
set_option maxRecDepth 100000 in
set_option maxHeartbeats 4000000 in
theorem t_X8_spans_l12 (G : wd_G) (d : Nat) (hd : 2 ≤ d) {out : wd_Mem} (k : wd_Mem → Option (wd_Mem)) (x1 x2 : Int32) (hk : ∀  (μ : wd_Mem), k μ = some out → wd_V G (d + 1) RX8 cX8_spans 6 none (fun r u => r = none ∧ u = out) 153 [some (.inr 31), some (.inl x1), some (.inl x2), none, none, none] [] μ) : ∀ (n : Nat) (x3 : Int32) (μ : wd_Mem), X8_spans_l12 k x1 x2 n x3 μ = some out → wd_V G (d + 1) RX8 cX8_spans 6 none (fun r u => r = none ∧ u = out) 12 [some (.inr 31), some (.inl x1), some (.inl x2), some (.inl x3), none, none] [] μ := by
  intro n
  induction n with
  | zero => intro x3 μ h; exact absurd h (by unfold X8_spans_l12; simp)
  | succ n ih =>
    intro x3 μ h
    exact t_X8_spans_c12 G d hd (X8_spans_l12 k x1 x2 n) k μ x1 x2 x3  (fun x3 μ h => ih x3 μ h) hk h
set_option maxRecDepth 100000 in
set_option maxHeartbeats 4000000 in
theorem t_X8_spans_b153 (G : wd_G) (d : Nat) (hd : 2 ≤ d) {out : wd_Mem} (rec : Int32 → wd_Mem → Option (wd_Mem)) (k : wd_Mem → Option (wd_Mem)) (μ : wd_Mem) (x1 x2 : Int32) (hrec : ∀ (x2 : Int32) (μ : wd_Mem), rec x2 μ = some out → wd_V G (d + 1) RX8 cX8_spans 6 none (fun r u => r = none ∧ u = out) 2 [some (.inr 31), some (.inl x1), some (.inl x2), none, none, none] [] μ) (hk : ∀  (μ : wd_Mem), k μ = some out → wd_V G (d + 1) RX8 cX8_spans 6 none (fun r u => r = none ∧ u = out) 159 [some (.inr 31), none, none, none, none, none] [] μ) (h : X8_spans_b153 rec k μ x1 x2 = some out) : wd_V G (d + 1) RX8 cX8_spans 6 none (fun r u => r = none ∧ u = out) 153 [some (.inr 31), some (.inl x1), some (.inl x2), none, none, none] [] μ := by
  unfold X8_spans_b153 at h
  refine wv_inc (pc' := 156) (x := x2) (L' := [some (.inr 31), some (.inl x1), some (.inl (x2 + (1 : Int32))), none, none, none]) dX8_spans_153 ic_1 rfl (by decide) rfl rfl ?_
  refine wv_goto (pc' := 2) dX8_spans_156 (by decide) ?_
  exact hrec _ _ h
set_option maxRecDepth 100000 in
set_option maxHeartbeats 4000000 in
theorem t_X8_spans_c2 (G : wd_G) (d : Nat) (hd : 2 ≤ d) {out : wd_Mem} (rec : Int32 → wd_Mem → Option (wd_Mem)) (k : wd_Mem → Option (wd_Mem)) (μ : wd_Mem) (x1 x2 : Int32) (hrec : ∀ (x2 : Int32) (μ : wd_Mem), rec x2 μ = some out → wd_V G (d + 1) RX8 cX8_spans 6 none (fun r u => r = none ∧ u = out) 2 [some (.inr 31), some (.inl x1), some (.inl x2), none, none, none] [] μ) (hk : ∀  (μ : wd_Mem), k μ = some out → wd_V G (d + 1) RX8 cX8_spans 6 none (fun r u => r = none ∧ u = out) 159 [some (.inr 31), none, none, none, none, none] [] μ) (h : X8_spans_c2 rec k μ x1 x2 = some out) : wd_V G (d + 1) RX8 cX8_spans 6 none (fun r u => r = none ∧ u = out) 2 [some (.inr 31), some (.inl x1), some (.inl x2), none, none, none] [] μ := by
  unfold X8_spans_c2 at h
  refine wv_iload_n (pc' := 3) (i := 2) (v := x2) dX8_spans_2 rfl rfl rfl ?_
  refine wv_bipush (pc' := 5) dX8_spans_3 bp_16 rfl ?_
  refine wv_icmp_ge (pc' := 8) (tgt := 159) dX8_spans_5 (by decide) rfl (fun c1 => ?_) (fun c1 => ?_)
  · have h := (if_pos c1).symm.trans h
    refine wv_weak (L' := [some (.inr 31), none, none, none, none, none]) ⟨rfl, trivial⟩ ?_
    exact hk _ h
  · have h := (if_neg c1).symm.trans h
    refine wv_iload_n (pc' := 9) (i := 2) (v := x2) dX8_spans_8 rfl rfl rfl ?_
    refine wv_iconst (pc' := 10) dX8_spans_9 ic_1 rfl ?_
    refine wv_iadd (pc' := 11) dX8_spans_10 rfl ?_
    refine wv_istore_n (pc' := 12) (i := 3) (L' := [some (.inr 31), some (.inl x1), some (.inl x2), some (.inl (x2 + (1 : Int32))), none, none]) dX8_spans_11 rfl (by decide) rfl rfl ?_
    exact t_X8_spans_l12 G d hd (fun μ => X8_spans_b153 rec k μ x1 x2) x1 x2  (fun μ h => t_X8_spans_b153 G d hd rec k μ x1 x2 hrec hk h) wd_big (x2 + (1 : Int32)) μ h
set_option maxRecDepth 100000 in
set_option maxHeartbeats 4000000 in
theorem t_X8_spans_l2 (G : wd_G) (d : Nat) (hd : 2 ≤ d) {out : wd_Mem} (k : wd_Mem → Option (wd_Mem)) (x1 : Int32) (hk : ∀  (μ : wd_Mem), k μ = some out → wd_V G (d + 1) RX8 cX8_spans 6 none (fun r u => r = none ∧ u = out) 159 [some (.inr 31), none, none, none, none, none] [] μ) : ∀ (n : Nat) (x2 : Int32) (μ : wd_Mem), X8_spans_l2 k x1 n x2 μ = some out → wd_V G (d + 1) RX8 cX8_spans 6 none (fun r u => r = none ∧ u = out) 2 [some (.inr 31), some (.inl x1), some (.inl x2), none, none, none] [] μ := by
  intro n
  induction n with
  | zero => intro x2 μ h; exact absurd h (by unfold X8_spans_l2; simp)
  | succ n ih =>
    intro x2 μ h
    exact t_X8_spans_c2 G d hd (X8_spans_l2 k x1 n) k μ x1 x2  (fun x2 μ h => ih x2 μ h) hk h
set_option maxRecDepth 100000 in
set_option maxHeartbeats 4000000 in
theorem t_X8_spans_b159 (G : wd_G) (d : Nat) (hd : 2 ≤ d) {out : wd_Mem} (μ : wd_Mem)  (h : X8_spans_b159 μ = some out) : wd_V G (d + 1) RX8 cX8_spans 6 none (fun r u => r = none ∧ u = out) 159 [some (.inr 31), none, none, none, none, none] [] μ := by
  unfold X8_spans_b159 at h
  exact wv_return rfl dX8_spans_159 (wd_lv h)
set_option maxRecDepth 100000 in
set_option maxHeartbeats 4000000 in
theorem t_X8_spans_b0 (G : wd_G) (d : Nat) (hd : 2 ≤ d) {out : wd_Mem} (μ : wd_Mem) (x1 : Int32)  (h : X8_spans_b0 μ x1 = some out) : wd_V G (d + 1) RX8 cX8_spans 6 none (fun r u => r = none ∧ u = out) 0 [some (.inr 31), some (.inl x1), none, none, none, none] [] μ := by
  unfold X8_spans_b0 at h
  refine wv_iconst (pc' := 1) dX8_spans_0 ic_0 rfl ?_
  refine wv_istore_n (pc' := 2) (i := 2) (L' := [some (.inr 31), some (.inl x1), some (.inl (0 : Int32)), none, none, none]) dX8_spans_1 rfl (by decide) rfl rfl ?_
  exact t_X8_spans_l2 G d hd (fun μ => X8_spans_b159 μ) x1  (fun μ h => t_X8_spans_b159 G d hd μ  h) wd_big (0 : Int32) μ h
set_option maxRecDepth 100000 in
set_option maxHeartbeats 4000000 in
theorem c_X8_spans (G : wd_G) (d : Nat) (hd : 3 ≤ d) {μ : wd_Mem} {x1 : Int32} {out : wd_Mem}  (h : X8_spans μ x1 = some out) : wd_C G d yX8_spans [.inr 31, .inl x1] μ (fun r u => r = none ∧ u = out) := by
  obtain ⟨d, rfl⟩ : ∃ e, d = e + 1 := ⟨d - 1, by omega⟩
  refine wd_enter mc_X8_spans (by decide) (by decide +kernel) rfl (Nat.le_of_ble_eq_true rfl) (L0 := [some (.inr 31), some (.inl x1), none, none, none, none]) rfl ?_
  exact t_X8_spans_b0 G d (by omega) μ x1 h
set_option maxRecDepth 100000 in
set_option maxHeartbeats 4000000 in
theorem t_X8_passes_b73 (G : wd_G) (d : Nat) (hd : 3 ≤ d) {out : wd_Mem} (rec : Int32 → wd_Mem → Option (wd_Mem)) (k : wd_Mem → Option (wd_Mem)) (μ : wd_Mem) (x1 x2 x3 s1 s2 : Int32) (hrec : ∀ (x3 : Int32) (μ : wd_Mem), rec x3 μ = some out → wd_V G (d + 1) RX8 cX8_passes 5 none (fun r u => r = none ∧ u = out) 2 [some (.inr 31), some (.inl x1), some (.inl x2), some (.inl x3), none] [] μ) (hk : ∀  (μ : wd_Mem), k μ = some out → wd_V G (d + 1) RX8 cX8_passes 5 none (fun r u => r = none ∧ u = out) 80 [some (.inr 31), some (.inl x1), some (.inl x2), none, none] [] μ) (h : X8_passes_b73 rec k μ x1 x2 x3 s1 s2 = some out) : wd_V G (d + 1) RX8 cX8_passes 5 none (fun r u => r = none ∧ u = out) 73 [some (.inr 31), some (.inl x1), some (.inl x2), some (.inl x3), none] [.inl s2, .inl s1, .inr 41] μ := by
  unfold X8_passes_b73 at h
  obtain ⟨g7, h⟩ := wd_chk_some h
  refine wv_iast (pc' := 74) sa_41 (wd_in_vp g7) dX8_passes_73 rfl ?_
  refine wv_inc (pc' := 77) (x := x3) (L' := [some (.inr 31), some (.inl x1), some (.inl x2), some (.inl (x3 + (1 : Int32))), none]) dX8_passes_74 ic_1 rfl (by decide) rfl rfl ?_
  refine wv_goto (pc' := 2) dX8_passes_77 (by decide) ?_
  exact hrec _ _ h
set_option maxRecDepth 100000 in
set_option maxHeartbeats 4000000 in
theorem t_X8_passes_b41 (G : wd_G) (d : Nat) (hd : 3 ≤ d) {out : wd_Mem} (rec : Int32 → wd_Mem → Option (wd_Mem)) (k : wd_Mem → Option (wd_Mem)) (μ : wd_Mem) (x1 x2 x3 s1 s2 : Int32) (hrec : ∀ (x3 : Int32) (μ : wd_Mem), rec x3 μ = some out → wd_V G (d + 1) RX8 cX8_passes 5 none (fun r u => r = none ∧ u = out) 2 [some (.inr 31), some (.inl x1), some (.inl x2), some (.inl x3), none] [] μ) (hk : ∀  (μ : wd_Mem), k μ = some out → wd_V G (d + 1) RX8 cX8_passes 5 none (fun r u => r = none ∧ u = out) 80 [some (.inr 31), some (.inl x1), some (.inl x2), none, none] [] μ) (h : X8_passes_b41 rec k μ x1 x2 x3 s1 s2 = some out) : wd_V G (d + 1) RX8 cX8_passes 5 none (fun r u => r = none ∧ u = out) 41 [some (.inr 31), some (.inl x1), some (.inl x2), some (.inl x3), none] [.inl s2, .inl s1, .inr 40] μ := by
  unfold X8_passes_b41 at h
  obtain ⟨g4, h⟩ := wd_chk_some h
  refine wv_iast (pc' := 42) sa_40 (wd_in_vp g4) dX8_passes_41 rfl ?_
  refine wv_aload_n (pc' := 43) (i := 0) (v := 31) dX8_passes_42 rfl rfl rfl ?_
  refine wv_gr (pc' := 46) g_X8_38_31 dX8_passes_43 rfl ?_
  refine wv_iload_n (pc' := 47) (i := 3) (v := x3) dX8_passes_46 rfl rfl rfl ?_
  refine wv_iload_n (pc' := 48) (i := 2) (v := x2) dX8_passes_47 rfl rfl rfl ?_
  refine wv_if_ne (pc' := 51) (tgt := 62) dX8_passes_48 (by decide) rfl (fun c5 => ?_) (fun c5 => ?_)
  · have h := (if_neg c5).symm.trans h
    refine wv_bipush (pc' := 64) dX8_passes_62 bp_16 rfl ?_
    refine wv_aload_n (pc' := 65) (i := 0) (v := 31) dX8_passes_64 rfl rfl rfl ?_
    refine wv_gr (pc' := 68) g_X8_16_31 dX8_passes_65 rfl ?_
    refine wv_iconst (pc' := 69) dX8_passes_68 ic_0 rfl ?_
    refine wv_iload_n (pc' := 70) (i := 3) (v := x3) dX8_passes_69 rfl rfl rfl ?_
    refine wv_iadd (pc' := 71) dX8_passes_70 rfl ?_
    obtain ⟨g6, h⟩ := wd_chk_some h
    refine wv_ialdE (pc' := 72) (v := (μ 34 (Int32.toNatClampNeg ((0 : Int32) + x3)))) sa_34 (wd_in_vp g6) dX8_passes_71 rfl rfl ?_
    refine wv_isub (pc' := 73) dX8_passes_72 rfl ?_
    exact t_X8_passes_b73 G d hd rec k (mset μ 40 (Int32.toNatClampNeg s1) s2) x1 x2 x3 x3 ((16 : Int32) - (μ 34 (Int32.toNatClampNeg ((0 : Int32) + x3)))) hrec hk h
  · have h := (if_pos c5).symm.trans h
    refine wv_aload_n (pc' := 52) (i := 0) (v := 31) dX8_passes_51 rfl rfl rfl ?_
    refine wv_gr (pc' := 55) g_X8_16_31 dX8_passes_52 rfl ?_
    refine wv_iconst (pc' := 56) dX8_passes_55 ic_5 rfl ?_
    refine wv_iload_n (pc' := 57) (i := 3) (v := x3) dX8_passes_56 rfl rfl rfl ?_
    refine wv_iadd (pc' := 58) dX8_passes_57 rfl ?_
    obtain ⟨g8, h⟩ := wd_chk_some h
    refine wv_ialdE (pc' := 59) (v := (μ 34 (Int32.toNatClampNeg ((5 : Int32) + x3)))) sa_34 (wd_in_vp g8) dX8_passes_58 rfl rfl ?_
    refine wv_goto (pc' := 73) dX8_passes_59 (by decide) ?_
    exact t_X8_passes_b73 G d hd rec k (mset μ 40 (Int32.toNatClampNeg s1) s2) x1 x2 x3 x3 (μ 34 (Int32.toNatClampNeg ((5 : Int32) + x3))) hrec hk h
set_option maxRecDepth 100000 in
set_option maxHeartbeats 4000000 in
theorem t_X8_passes_c2 (G : wd_G) (d : Nat) (hd : 3 ≤ d) {out : wd_Mem} (rec : Int32 → wd_Mem → Option (wd_Mem)) (k : wd_Mem → Option (wd_Mem)) (μ : wd_Mem) (x1 x2 x3 : Int32) (hrec : ∀ (x3 : Int32) (μ : wd_Mem), rec x3 μ = some out → wd_V G (d + 1) RX8 cX8_passes 5 none (fun r u => r = none ∧ u = out) 2 [some (.inr 31), some (.inl x1), some (.inl x2), some (.inl x3), none] [] μ) (hk : ∀  (μ : wd_Mem), k μ = some out → wd_V G (d + 1) RX8 cX8_passes 5 none (fun r u => r = none ∧ u = out) 80 [some (.inr 31), some (.inl x1), some (.inl x2), none, none] [] μ) (h : X8_passes_c2 rec k μ x1 x2 x3 = some out) : wd_V G (d + 1) RX8 cX8_passes 5 none (fun r u => r = none ∧ u = out) 2 [some (.inr 31), some (.inl x1), some (.inl x2), some (.inl x3), none] [] μ := by
  unfold X8_passes_c2 at h
  refine wv_iload_n (pc' := 3) (i := 3) (v := x3) dX8_passes_2 rfl rfl rfl ?_
  refine wv_aload_n (pc' := 4) (i := 0) (v := 31) dX8_passes_3 rfl rfl rfl ?_
  refine wv_gi (pc' := 7) g_X8_118_31 dX8_passes_4 rfl ?_
  refine wv_icmp_ge (pc' := 10) (tgt := 80) dX8_passes_7 (by decide) rfl (fun c1 => ?_) (fun c1 => ?_)
  · have h := (if_pos c1).symm.trans h
    refine wv_weak (L' := [some (.inr 31), some (.inl x1), some (.inl x2), none, none]) ⟨rfl, rfl, rfl, trivial⟩ ?_
    exact hk _ h
  · have h := (if_neg c1).symm.trans h
    refine wv_aload_n (pc' := 11) (i := 0) (v := 31) dX8_passes_10 rfl rfl rfl ?_
    refine wv_gr (pc' := 14) g_X8_35_31 dX8_passes_11 rfl ?_
    refine wv_iload_n (pc' := 15) (i := 3) (v := x3) dX8_passes_14 rfl rfl rfl ?_
    refine wv_iload_n (pc' := 16) (i := 2) (v := x2) dX8_passes_15 rfl rfl rfl ?_
    refine wv_if_ne (pc' := 19) (tgt := 30) dX8_passes_16 (by decide) rfl (fun c2 => ?_) (fun c2 => ?_)
    · have h := (if_neg c2).symm.trans h
      refine wv_bipush (pc' := 32) dX8_passes_30 bp_16 rfl ?_
      refine wv_aload_n (pc' := 33) (i := 0) (v := 31) dX8_passes_32 rfl rfl rfl ?_
      refine wv_gr (pc' := 36) g_X8_16_31 dX8_passes_33 rfl ?_
      refine wv_iconst (pc' := 37) dX8_passes_36 ic_5 rfl ?_
      refine wv_iload_n (pc' := 38) (i := 3) (v := x3) dX8_passes_37 rfl rfl rfl ?_
      refine wv_iadd (pc' := 39) dX8_passes_38 rfl ?_
      obtain ⟨g3, h⟩ := wd_chk_some h
      refine wv_iald (pc' := 40) sa_34 (wd_in_vp g3) dX8_passes_39 rfl ?_
      refine wv_isub (pc' := 41) dX8_passes_40 rfl ?_
      exact t_X8_passes_b41 G d hd rec k μ x1 x2 x3 x3 ((16 : Int32) - (μ 34 (Int32.toNatClampNeg ((5 : Int32) + x3)))) hrec hk h
    · have h := (if_pos c2).symm.trans h
      refine wv_aload_n (pc' := 20) (i := 0) (v := 31) dX8_passes_19 rfl rfl rfl ?_
      refine wv_gr (pc' := 23) g_X8_16_31 dX8_passes_20 rfl ?_
      refine wv_iconst (pc' := 24) dX8_passes_23 ic_0 rfl ?_
      refine wv_iload_n (pc' := 25) (i := 3) (v := x3) dX8_passes_24 rfl rfl rfl ?_
      refine wv_iadd (pc' := 26) dX8_passes_25 rfl ?_
      obtain ⟨g9, h⟩ := wd_chk_some h
      refine wv_iald (pc' := 27) sa_34 (wd_in_vp g9) dX8_passes_26 rfl ?_
      refine wv_goto (pc' := 41) dX8_passes_27 (by decide) ?_
      exact t_X8_passes_b41 G d hd rec k μ x1 x2 x3 x3 (μ 34 (Int32.toNatClampNeg ((0 : Int32) + x3))) hrec hk h
set_option maxRecDepth 100000 in
set_option maxHeartbeats 4000000 in
theorem t_X8_passes_l2 (G : wd_G) (d : Nat) (hd : 3 ≤ d) {out : wd_Mem} (k : wd_Mem → Option (wd_Mem)) (x1 x2 : Int32) (hk : ∀  (μ : wd_Mem), k μ = some out → wd_V G (d + 1) RX8 cX8_passes 5 none (fun r u => r = none ∧ u = out) 80 [some (.inr 31), some (.inl x1), some (.inl x2), none, none] [] μ) : ∀ (n : Nat) (x3 : Int32) (μ : wd_Mem), X8_passes_l2 k x1 x2 n x3 μ = some out → wd_V G (d + 1) RX8 cX8_passes 5 none (fun r u => r = none ∧ u = out) 2 [some (.inr 31), some (.inl x1), some (.inl x2), some (.inl x3), none] [] μ := by
  intro n
  induction n with
  | zero => intro x3 μ h; exact absurd h (by unfold X8_passes_l2; simp)
  | succ n ih =>
    intro x3 μ h
    exact t_X8_passes_c2 G d hd (X8_passes_l2 k x1 x2 n) k μ x1 x2 x3  (fun x3 μ h => ih x3 μ h) hk h
set_option maxRecDepth 100000 in
set_option maxHeartbeats 4000000 in
theorem t_X8_passes_b157 (G : wd_G) (d : Nat) (hd : 3 ≤ d) {out : wd_Mem} (rec : Int32 → wd_Mem → Option (wd_Mem)) (k : wd_Mem → Option (wd_Mem)) (μ : wd_Mem) (x1 x2 x3 : Int32) (hrec : ∀ (x3 : Int32) (μ : wd_Mem), rec x3 μ = some out → wd_V G (d + 1) RX8 cX8_passes 5 none (fun r u => r = none ∧ u = out) 82 [some (.inr 31), some (.inl x1), some (.inl x2), some (.inl x3), none] [] μ) (hk : ∀  (μ : wd_Mem), k μ = some out → wd_V G (d + 1) RX8 cX8_passes 5 none (fun r u => r = none ∧ u = out) 163 [some (.inr 31), some (.inl x1), some (.inl x2), none, none] [] μ) (h : X8_passes_b157 rec k μ x1 x2 x3 = some out) : wd_V G (d + 1) RX8 cX8_passes 5 none (fun r u => r = none ∧ u = out) 157 [some (.inr 31), some (.inl x1), some (.inl x2), some (.inl x3), none] [] μ := by
  unfold X8_passes_b157 at h
  refine wv_inc (pc' := 160) (x := x3) (L' := [some (.inr 31), some (.inl x1), some (.inl x2), some (.inl (x3 + (1 : Int32))), none]) dX8_passes_157 ic_1 rfl (by decide) rfl rfl ?_
  refine wv_goto (pc' := 82) dX8_passes_160 (by decide) ?_
  exact hrec _ _ h
set_option maxRecDepth 100000 in
set_option maxHeartbeats 4000000 in
theorem t_X8_passes_c82 (G : wd_G) (d : Nat) (hd : 3 ≤ d) {out : wd_Mem} (rec : Int32 → wd_Mem → Option (wd_Mem)) (k : wd_Mem → Option (wd_Mem)) (μ : wd_Mem) (x1 x2 x3 : Int32) (hrec : ∀ (x3 : Int32) (μ : wd_Mem), rec x3 μ = some out → wd_V G (d + 1) RX8 cX8_passes 5 none (fun r u => r = none ∧ u = out) 82 [some (.inr 31), some (.inl x1), some (.inl x2), some (.inl x3), none] [] μ) (hk : ∀  (μ : wd_Mem), k μ = some out → wd_V G (d + 1) RX8 cX8_passes 5 none (fun r u => r = none ∧ u = out) 163 [some (.inr 31), some (.inl x1), some (.inl x2), none, none] [] μ) (h : X8_passes_c82 rec k μ x1 x2 x3 = some out) : wd_V G (d + 1) RX8 cX8_passes 5 none (fun r u => r = none ∧ u = out) 82 [some (.inr 31), some (.inl x1), some (.inl x2), some (.inl x3), none] [] μ := by
  unfold X8_passes_c82 at h
  refine wv_iload_n (pc' := 83) (i := 3) (v := x3) dX8_passes_82 rfl rfl rfl ?_
  refine wv_aload_n (pc' := 84) (i := 0) (v := 31) dX8_passes_83 rfl rfl rfl ?_
  refine wv_gi (pc' := 87) g_X8_118_31 dX8_passes_84 rfl ?_
  refine wv_icmp_ge (pc' := 90) (tgt := 163) dX8_passes_87 (by decide) rfl (fun c10 => ?_) (fun c10 => ?_)
  · have h := (if_pos c10).symm.trans h
    refine wv_weak (L' := [some (.inr 31), some (.inl x1), some (.inl x2), none, none]) ⟨rfl, rfl, rfl, trivial⟩ ?_
    exact hk _ h
  · have h := (if_neg c10).symm.trans h
    refine wv_aload_n (pc' := 91) (i := 0) (v := 31) dX8_passes_90 rfl rfl rfl ?_
    refine wv_gr (pc' := 94) g_X8_41_31 dX8_passes_91 rfl ?_
    refine wv_iload_n (pc' := 95) (i := 3) (v := x3) dX8_passes_94 rfl rfl rfl ?_
    refine wv_aload_n (pc' := 96) (i := 0) (v := 31) dX8_passes_95 rfl rfl rfl ?_
    refine wv_gr (pc' := 99) g_X8_35_31 dX8_passes_96 rfl ?_
    refine wv_iload_n (pc' := 100) (i := 3) (v := x3) dX8_passes_99 rfl rfl rfl ?_
    obtain ⟨g11, h⟩ := wd_chk_some h
    refine wv_iald (pc' := 101) sa_40 (wd_in_vp g11) dX8_passes_100 rfl ?_
    refine wv_iast (pc' := 102) sa_42 (wd_in_vp g11) dX8_passes_101 rfl ?_
    refine wv_iload_n (pc' := 103) (i := 1) (v := x1) dX8_passes_102 rfl rfl rfl ?_
    by_cases n103_0 : x1 = nI 0
    · have h := (if_pos n103_0).symm.trans h
      refine wv_case (i := 0) (tgt := 128) dX8_passes_103 n103_0 (by decide) (by decide) rfl (by decide) ?_
      refine wv_aload_n (pc' := 129) (i := 0) (v := 31) dX8_passes_128 rfl rfl rfl ?_
      refine wv_iload_n (pc' := 130) (i := 3) (v := x3) dX8_passes_129 rfl rfl rfl ?_
      obtain ⟨r12, er12, h⟩ := wd_bind_some h
      refine wv_callVv (pc' := 133) (ν := r12) [.inl x3] ml_X8_165 rc_31 rfl (Nat.le_of_ble_eq_true rfl) dX8_passes_130 rfl (c_X8_musts G d (Nat.le_trans (Nat.le_of_ble_eq_true rfl) hd)  er12) ?_
      refine wv_goto (pc' := 157) dX8_passes_133 (by decide) ?_
      exact t_X8_passes_b157 G d hd rec k r12 x1 x2 x3 hrec hk h
    · have h := (if_neg n103_0).symm.trans h
      by_cases n103_1 : x1 = nI 1
      · have h := (if_pos n103_1).symm.trans h
        refine wv_case (i := 1) (tgt := 136) dX8_passes_103 n103_1 (by decide) (by decide) rfl (by decide) ?_
        refine wv_aload_n (pc' := 137) (i := 0) (v := 31) dX8_passes_136 rfl rfl rfl ?_
        refine wv_iload_n (pc' := 138) (i := 3) (v := x3) dX8_passes_137 rfl rfl rfl ?_
        obtain ⟨r13, er13, h⟩ := wd_bind_some h
        refine wv_callVv (pc' := 141) (ν := r13) [.inl x3] ml_X8_169 rc_31 rfl (Nat.le_of_ble_eq_true rfl) dX8_passes_138 rfl (c_X8_edges G d (Nat.le_trans (Nat.le_of_ble_eq_true rfl) hd)  er13) ?_
        refine wv_goto (pc' := 157) dX8_passes_141 (by decide) ?_
        exact t_X8_passes_b157 G d hd rec k r13 x1 x2 x3 hrec hk h
      · have h := (if_neg n103_1).symm.trans h
        by_cases n103_2 : x1 = nI 2
        · have h := (if_pos n103_2).symm.trans h
          refine wv_case (i := 2) (tgt := 144) dX8_passes_103 n103_2 (by decide) (by decide) rfl (by decide) ?_
          refine wv_aload_n (pc' := 145) (i := 0) (v := 31) dX8_passes_144 rfl rfl rfl ?_
          refine wv_iload_n (pc' := 146) (i := 3) (v := x3) dX8_passes_145 rfl rfl rfl ?_
          obtain ⟨r14, er14, h⟩ := wd_bind_some h
          refine wv_callVv (pc' := 149) (ν := r14) [.inl x3] ml_X8_172 rc_31 rfl (Nat.le_of_ble_eq_true rfl) dX8_passes_146 rfl (c_X8_firsts G d (Nat.le_trans (Nat.le_of_ble_eq_true rfl) hd)  er14) ?_
          refine wv_goto (pc' := 157) dX8_passes_149 (by decide) ?_
          exact t_X8_passes_b157 G d hd rec k r14 x1 x2 x3 hrec hk h
        · have h := (if_neg n103_2).symm.trans h
          refine wv_dflt (N := 3) (tgt := 152) dX8_passes_103 (by decide) (fun i hi => by
            rcases (show i = 0 ∨ i = 1 ∨ i = 2 by omega) with rfl|rfl|rfl
            · exact n103_0
            · exact n103_1
            · exact n103_2) (by decide) ?_
          refine wv_aload_n (pc' := 153) (i := 0) (v := 31) dX8_passes_152 rfl rfl rfl ?_
          refine wv_iload_n (pc' := 154) (i := 3) (v := x3) dX8_passes_153 rfl rfl rfl ?_
          obtain ⟨r15, er15, h⟩ := wd_bind_some h
          refine wv_callVv (pc' := 157) (ν := r15) [.inl x3] ml_X8_175 rc_31 rfl (Nat.le_of_ble_eq_true rfl) dX8_passes_154 rfl (c_X8_spans G d (Nat.le_trans (Nat.le_of_ble_eq_true rfl) hd)  er15) ?_
          exact t_X8_passes_b157 G d hd rec k r15 x1 x2 x3 hrec hk h
set_option maxRecDepth 100000 in
set_option maxHeartbeats 4000000 in
theorem t_X8_passes_l82 (G : wd_G) (d : Nat) (hd : 3 ≤ d) {out : wd_Mem} (k : wd_Mem → Option (wd_Mem)) (x1 x2 : Int32) (hk : ∀  (μ : wd_Mem), k μ = some out → wd_V G (d + 1) RX8 cX8_passes 5 none (fun r u => r = none ∧ u = out) 163 [some (.inr 31), some (.inl x1), some (.inl x2), none, none] [] μ) : ∀ (n : Nat) (x3 : Int32) (μ : wd_Mem), X8_passes_l82 k x1 x2 n x3 μ = some out → wd_V G (d + 1) RX8 cX8_passes 5 none (fun r u => r = none ∧ u = out) 82 [some (.inr 31), some (.inl x1), some (.inl x2), some (.inl x3), none] [] μ := by
  intro n
  induction n with
  | zero => intro x3 μ h; exact absurd h (by unfold X8_passes_l82; simp)
  | succ n ih =>
    intro x3 μ h
    exact t_X8_passes_c82 G d hd (X8_passes_l82 k x1 x2 n) k μ x1 x2 x3  (fun x3 μ h => ih x3 μ h) hk h
set_option maxRecDepth 100000 in
set_option maxHeartbeats 4000000 in
theorem t_X8_passes_b285 (G : wd_G) (d : Nat) (hd : 3 ≤ d) {out : wd_Mem} (rec : Int32 → wd_Mem → Option (wd_Mem)) (k : wd_Mem → Option (wd_Mem)) (μ : wd_Mem) (x1 x2 x3 : Int32) (hrec : ∀ (x3 : Int32) (μ : wd_Mem), rec x3 μ = some out → wd_V G (d + 1) RX8 cX8_passes 5 none (fun r u => r = none ∧ u = out) 165 [some (.inr 31), some (.inl x1), some (.inl x2), some (.inl x3), none] [] μ) (hk : ∀  (μ : wd_Mem), k μ = some out → wd_V G (d + 1) RX8 cX8_passes 5 none (fun r u => r = none ∧ u = out) 291 [some (.inr 31), none, none, none, none] [] μ) (h : X8_passes_b285 rec k μ x1 x2 x3 = some out) : wd_V G (d + 1) RX8 cX8_passes 5 none (fun r u => r = none ∧ u = out) 285 [some (.inr 31), some (.inl x1), some (.inl x2), some (.inl x3), none] [] μ := by
  unfold X8_passes_b285 at h
  refine wv_inc (pc' := 288) (x := x3) (L' := [some (.inr 31), some (.inl x1), some (.inl x2), some (.inl (x3 + (1 : Int32))), none]) dX8_passes_285 ic_1 rfl (by decide) rfl rfl ?_
  refine wv_goto (pc' := 165) dX8_passes_288 (by decide) ?_
  exact hrec _ _ h
set_option maxRecDepth 100000 in
set_option maxHeartbeats 4000000 in
theorem t_X8_passes_b251 (G : wd_G) (d : Nat) (hd : 3 ≤ d) {out : wd_Mem} (rec : Int32 → wd_Mem → Option (wd_Mem)) (k : wd_Mem → Option (wd_Mem)) (μ : wd_Mem) (x1 x2 x3 s1 s2 : Int32) (hrec : ∀ (x3 : Int32) (μ : wd_Mem), rec x3 μ = some out → wd_V G (d + 1) RX8 cX8_passes 5 none (fun r u => r = none ∧ u = out) 165 [some (.inr 31), some (.inl x1), some (.inl x2), some (.inl x3), none] [] μ) (hk : ∀  (μ : wd_Mem), k μ = some out → wd_V G (d + 1) RX8 cX8_passes 5 none (fun r u => r = none ∧ u = out) 291 [some (.inr 31), none, none, none, none] [] μ) (h : X8_passes_b251 rec k μ x1 x2 x3 s1 s2 = some out) : wd_V G (d + 1) RX8 cX8_passes 5 none (fun r u => r = none ∧ u = out) 251 [some (.inr 31), some (.inl x1), some (.inl x2), some (.inl x3), none] [.inl s2, .inl s1, .inr 34] μ := by
  unfold X8_passes_b251 at h
  obtain ⟨g23, h⟩ := wd_chk_some h
  refine wv_iast (pc' := 252) sa_34 (wd_in_vp g23) dX8_passes_251 rfl ?_
  refine wv_aload_n (pc' := 253) (i := 0) (v := 31) dX8_passes_252 rfl rfl rfl ?_
  refine wv_gr (pc' := 256) g_X8_16_31 dX8_passes_253 rfl ?_
  refine wv_bipush (pc' := 258) dX8_passes_256 bp_10 rfl ?_
  refine wv_iconst (pc' := 259) dX8_passes_258 ic_5 rfl ?_
  refine wv_iload_n (pc' := 260) (i := 2) (v := x2) dX8_passes_259 rfl rfl rfl ?_
  refine wv_imul (pc' := 261) dX8_passes_260 rfl ?_
  refine wv_iadd (pc' := 262) dX8_passes_261 rfl ?_
  refine wv_iload_n (pc' := 263) (i := 3) (v := x3) dX8_passes_262 rfl rfl rfl ?_
  refine wv_iadd (pc' := 264) dX8_passes_263 rfl ?_
  refine wv_iload_n (pc' := 265) (i := 1) (v := x1) dX8_passes_264 rfl rfl rfl ?_
  obtain ⟨g24, h⟩ := wd_chk_some h
  refine wv_iast (pc' := 266) sa_34 (wd_in_vp g24) dX8_passes_265 rfl ?_
  refine wv_aload_n (pc' := 267) (i := 0) (v := 31) dX8_passes_266 rfl rfl rfl ?_
  refine wv_gr (pc' := 270) g_X8_16_31 dX8_passes_267 rfl ?_
  refine wv_bipush (pc' := 272) dX8_passes_270 bp_20 rfl ?_
  refine wv_iconst (pc' := 273) dX8_passes_272 ic_5 rfl ?_
  refine wv_iload_n (pc' := 274) (i := 2) (v := x2) dX8_passes_273 rfl rfl rfl ?_
  refine wv_imul (pc' := 275) dX8_passes_274 rfl ?_
  refine wv_iadd (pc' := 276) dX8_passes_275 rfl ?_
  refine wv_iload_n (pc' := 277) (i := 3) (v := x3) dX8_passes_276 rfl rfl rfl ?_
  refine wv_iadd (pc' := 278) dX8_passes_277 rfl ?_
  refine wv_aload_n (pc' := 279) (i := 0) (v := 31) dX8_passes_278 rfl rfl rfl ?_
  refine wv_gr (pc' := 282) g_X8_44_31 dX8_passes_279 rfl ?_
  refine wv_iload_n (pc' := 283) (i := 3) (v := x3) dX8_passes_282 rfl rfl rfl ?_
  obtain ⟨g25, h⟩ := wd_chk_some h
  refine wv_ialdE (pc' := 284) (v := (μ 43 (Int32.toNatClampNeg x3))) sa_43 (wd_in_vp g25) dX8_passes_283 rfl rfl ?_
  obtain ⟨g26, h⟩ := wd_chk_some h
  refine wv_iast (pc' := 285) sa_34 (wd_in_vp g26) dX8_passes_284 rfl ?_
  exact t_X8_passes_b285 G d hd rec k (mset (mset (mset μ 34 (Int32.toNatClampNeg s1) s2) 34 (Int32.toNatClampNeg (((10 : Int32) + ((5 : Int32) * x2)) + x3)) x1) 34 (Int32.toNatClampNeg (((20 : Int32) + ((5 : Int32) * x2)) + x3)) (μ 43 (Int32.toNatClampNeg x3))) x1 x2 x3 hrec hk h
set_option maxRecDepth 100000 in
set_option maxHeartbeats 4000000 in
theorem t_X8_passes_b237 (G : wd_G) (d : Nat) (hd : 3 ≤ d) {out : wd_Mem} (rec : Int32 → wd_Mem → Option (wd_Mem)) (k : wd_Mem → Option (wd_Mem)) (μ : wd_Mem) (x1 x2 x3 x4 s1 : Int32) (hrec : ∀ (x3 : Int32) (μ : wd_Mem), rec x3 μ = some out → wd_V G (d + 1) RX8 cX8_passes 5 none (fun r u => r = none ∧ u = out) 165 [some (.inr 31), some (.inl x1), some (.inl x2), some (.inl x3), none] [] μ) (hk : ∀  (μ : wd_Mem), k μ = some out → wd_V G (d + 1) RX8 cX8_passes 5 none (fun r u => r = none ∧ u = out) 291 [some (.inr 31), none, none, none, none] [] μ) (h : X8_passes_b237 rec k μ x1 x2 x3 x4 s1 = some out) : wd_V G (d + 1) RX8 cX8_passes 5 none (fun r u => r = none ∧ u = out) 237 [some (.inr 31), some (.inl x1), some (.inl x2), some (.inl x3), some (.inl x4)] [.inl s1, .inr 34] μ := by
  unfold X8_passes_b237 at h
  refine wv_iload_n (pc' := 238) (i := 2) (v := x2) dX8_passes_237 rfl rfl rfl ?_
  refine wv_if_ne (pc' := 241) (tgt := 246) dX8_passes_238 (by decide) rfl (fun c22 => ?_) (fun c22 => ?_)
  · have h := (if_neg c22).symm.trans h
    refine wv_bipush (pc' := 248) dX8_passes_246 bp_16 rfl ?_
    refine wv_iload (pc' := 250) (v := x4) dX8_passes_248 rfl rfl ?_
    refine wv_isub (pc' := 251) dX8_passes_250 rfl ?_
    refine wv_weak (L' := [some (.inr 31), some (.inl x1), some (.inl x2), some (.inl x3), none]) ⟨rfl, rfl, rfl, rfl, trivial⟩ ?_
    exact t_X8_passes_b251 G d hd rec k μ x1 x2 x3 s1 ((16 : Int32) - x4) hrec hk h
  · have h := (if_pos c22).symm.trans h
    refine wv_iload (pc' := 243) (v := x4) dX8_passes_241 rfl rfl ?_
    refine wv_goto (pc' := 251) dX8_passes_243 (by decide) ?_
    refine wv_weak (L' := [some (.inr 31), some (.inl x1), some (.inl x2), some (.inl x3), none]) ⟨rfl, rfl, rfl, rfl, trivial⟩ ?_
    exact t_X8_passes_b251 G d hd rec k μ x1 x2 x3 s1 x4 hrec hk h
set_option maxRecDepth 100000 in
set_option maxHeartbeats 4000000 in
theorem t_X8_passes_b218 (G : wd_G) (d : Nat) (hd : 3 ≤ d) {out : wd_Mem} (rec : Int32 → wd_Mem → Option (wd_Mem)) (k : wd_Mem → Option (wd_Mem)) (μ : wd_Mem) (x1 x2 x3 s0 : Int32) (hrec : ∀ (x3 : Int32) (μ : wd_Mem), rec x3 μ = some out → wd_V G (d + 1) RX8 cX8_passes 5 none (fun r u => r = none ∧ u = out) 165 [some (.inr 31), some (.inl x1), some (.inl x2), some (.inl x3), none] [] μ) (hk : ∀  (μ : wd_Mem), k μ = some out → wd_V G (d + 1) RX8 cX8_passes 5 none (fun r u => r = none ∧ u = out) 291 [some (.inr 31), none, none, none, none] [] μ) (h : X8_passes_b218 rec k μ x1 x2 x3 s0 = some out) : wd_V G (d + 1) RX8 cX8_passes 5 none (fun r u => r = none ∧ u = out) 218 [some (.inr 31), some (.inl x1), some (.inl x2), some (.inl x3), none] [.inl s0] μ := by
  unfold X8_passes_b218 at h
  refine wv_istore (pc' := 220) (L' := [some (.inr 31), some (.inl x1), some (.inl x2), some (.inl x3), some (.inl s0)]) dX8_passes_218 (by decide) rfl rfl ?_
  refine wv_aload_n (pc' := 221) (i := 0) (v := 31) dX8_passes_220 rfl rfl rfl ?_
  refine wv_gr (pc' := 224) g_X8_16_31 dX8_passes_221 rfl ?_
  refine wv_iload_n (pc' := 225) (i := 2) (v := x2) dX8_passes_224 rfl rfl rfl ?_
  refine wv_if_ne (pc' := 228) (tgt := 234) dX8_passes_225 (by decide) rfl (fun c21 => ?_) (fun c21 => ?_)
  · have h := (if_neg c21).symm.trans h
    refine wv_iconst (pc' := 235) dX8_passes_234 ic_5 rfl ?_
    refine wv_iload_n (pc' := 236) (i := 3) (v := x3) dX8_passes_235 rfl rfl rfl ?_
    refine wv_iadd (pc' := 237) dX8_passes_236 rfl ?_
    exact t_X8_passes_b237 G d hd rec k μ x1 x2 x3 s0 ((5 : Int32) + x3) hrec hk h
  · have h := (if_pos c21).symm.trans h
    refine wv_iconst (pc' := 229) dX8_passes_228 ic_0 rfl ?_
    refine wv_iload_n (pc' := 230) (i := 3) (v := x3) dX8_passes_229 rfl rfl rfl ?_
    refine wv_iadd (pc' := 231) dX8_passes_230 rfl ?_
    refine wv_goto (pc' := 237) dX8_passes_231 (by decide) ?_
    exact t_X8_passes_b237 G d hd rec k μ x1 x2 x3 s0 ((0 : Int32) + x3) hrec hk h
set_option maxRecDepth 100000 in
set_option maxHeartbeats 4000000 in
theorem t_X8_passes_c165 (G : wd_G) (d : Nat) (hd : 3 ≤ d) {out : wd_Mem} (rec : Int32 → wd_Mem → Option (wd_Mem)) (k : wd_Mem → Option (wd_Mem)) (μ : wd_Mem) (x1 x2 x3 : Int32) (hrec : ∀ (x3 : Int32) (μ : wd_Mem), rec x3 μ = some out → wd_V G (d + 1) RX8 cX8_passes 5 none (fun r u => r = none ∧ u = out) 165 [some (.inr 31), some (.inl x1), some (.inl x2), some (.inl x3), none] [] μ) (hk : ∀  (μ : wd_Mem), k μ = some out → wd_V G (d + 1) RX8 cX8_passes 5 none (fun r u => r = none ∧ u = out) 291 [some (.inr 31), none, none, none, none] [] μ) (h : X8_passes_c165 rec k μ x1 x2 x3 = some out) : wd_V G (d + 1) RX8 cX8_passes 5 none (fun r u => r = none ∧ u = out) 165 [some (.inr 31), some (.inl x1), some (.inl x2), some (.inl x3), none] [] μ := by
  unfold X8_passes_c165 at h
  refine wv_iload_n (pc' := 166) (i := 3) (v := x3) dX8_passes_165 rfl rfl rfl ?_
  refine wv_aload_n (pc' := 167) (i := 0) (v := 31) dX8_passes_166 rfl rfl rfl ?_
  refine wv_gi (pc' := 170) g_X8_118_31 dX8_passes_167 rfl ?_
  refine wv_icmp_ge (pc' := 173) (tgt := 291) dX8_passes_170 (by decide) rfl (fun c16 => ?_) (fun c16 => ?_)
  · have h := (if_pos c16).symm.trans h
    refine wv_weak (L' := [some (.inr 31), none, none, none, none]) ⟨rfl, trivial⟩ ?_
    exact hk _ h
  · have h := (if_neg c16).symm.trans h
    refine wv_aload_n (pc' := 174) (i := 0) (v := 31) dX8_passes_173 rfl rfl rfl ?_
    refine wv_gr (pc' := 177) g_X8_41_31 dX8_passes_174 rfl ?_
    refine wv_iload_n (pc' := 178) (i := 3) (v := x3) dX8_passes_177 rfl rfl rfl ?_
    obtain ⟨g17, h⟩ := wd_chk_some h
    refine wv_iald (pc' := 179) sa_42 (wd_in_vp g17) dX8_passes_178 rfl ?_
    refine wv_aload_n (pc' := 180) (i := 0) (v := 31) dX8_passes_179 rfl rfl rfl ?_
    refine wv_gr (pc' := 183) g_X8_35_31 dX8_passes_180 rfl ?_
    refine wv_iload_n (pc' := 184) (i := 3) (v := x3) dX8_passes_183 rfl rfl rfl ?_
    refine wv_iald (pc' := 185) sa_40 (wd_in_vp g17) dX8_passes_184 rfl ?_
    refine wv_icmp_le (pc' := 188) (tgt := 285) dX8_passes_185 (by decide) rfl (fun c18 => ?_) (fun c18 => ?_)
    · have h := (if_pos c18).symm.trans h
      exact t_X8_passes_b285 G d hd rec k μ x1 x2 x3 hrec hk h
    · have h := (if_neg c18).symm.trans h
      refine wv_aload_n (pc' := 189) (i := 0) (v := 31) dX8_passes_188 rfl rfl rfl ?_
      refine wv_gr (pc' := 192) g_X8_41_31 dX8_passes_189 rfl ?_
      refine wv_iload_n (pc' := 193) (i := 3) (v := x3) dX8_passes_192 rfl rfl rfl ?_
      refine wv_iald (pc' := 194) sa_42 (wd_in_vp g17) dX8_passes_193 rfl ?_
      refine wv_aload_n (pc' := 195) (i := 0) (v := 31) dX8_passes_194 rfl rfl rfl ?_
      refine wv_iload_n (pc' := 196) (i := 3) (v := x3) dX8_passes_195 rfl rfl rfl ?_
      obtain ⟨r19, er19, h⟩ := wd_bind_some h
      refine wv_callVi (pc' := 199) (x := r19) (ν := μ) [.inl x3] ml_X8_131 rc_31 rfl (Nat.le_of_ble_eq_true rfl) dX8_passes_196 rfl (c_X8_start G d (Nat.le_trans (Nat.le_of_ble_eq_true rfl) hd)  er19) ?_
      refine wv_icmp_le (pc' := 202) (tgt := 212) dX8_passes_199 (by decide) rfl (fun c20 => ?_) (fun c20 => ?_)
      · have h := (if_pos c20).symm.trans h
        refine wv_aload_n (pc' := 213) (i := 0) (v := 31) dX8_passes_212 rfl rfl rfl ?_
        refine wv_gr (pc' := 216) g_X8_41_31 dX8_passes_213 rfl ?_
        refine wv_iload_n (pc' := 217) (i := 3) (v := x3) dX8_passes_216 rfl rfl rfl ?_
        refine wv_iald (pc' := 218) sa_42 (wd_in_vp g17) dX8_passes_217 rfl ?_
        exact t_X8_passes_b218 G d hd rec k μ x1 x2 x3 (μ 42 (Int32.toNatClampNeg x3)) hrec hk h
      · have h := (if_neg c20).symm.trans h
        refine wv_aload_n (pc' := 203) (i := 0) (v := 31) dX8_passes_202 rfl rfl rfl ?_
        refine wv_iload_n (pc' := 204) (i := 3) (v := x3) dX8_passes_203 rfl rfl rfl ?_
        obtain ⟨r27, er27, h⟩ := wd_bind_some h
        refine wv_callVi (pc' := 207) (x := r27) (ν := μ) [.inl x3] ml_X8_131 rc_31 rfl (Nat.le_of_ble_eq_true rfl) dX8_passes_204 rfl (c_X8_start G d (Nat.le_trans (Nat.le_of_ble_eq_true rfl) hd)  er27) ?_
        refine wv_iconst (pc' := 208) dX8_passes_207 ic_1 rfl ?_
        refine wv_iadd (pc' := 209) dX8_passes_208 rfl ?_
        refine wv_goto (pc' := 218) dX8_passes_209 (by decide) ?_
        exact t_X8_passes_b218 G d hd rec k μ x1 x2 x3 (r27 + (1 : Int32)) hrec hk h
set_option maxRecDepth 100000 in
set_option maxHeartbeats 4000000 in
theorem t_X8_passes_l165 (G : wd_G) (d : Nat) (hd : 3 ≤ d) {out : wd_Mem} (k : wd_Mem → Option (wd_Mem)) (x1 x2 : Int32) (hk : ∀  (μ : wd_Mem), k μ = some out → wd_V G (d + 1) RX8 cX8_passes 5 none (fun r u => r = none ∧ u = out) 291 [some (.inr 31), none, none, none, none] [] μ) : ∀ (n : Nat) (x3 : Int32) (μ : wd_Mem), X8_passes_l165 k x1 x2 n x3 μ = some out → wd_V G (d + 1) RX8 cX8_passes 5 none (fun r u => r = none ∧ u = out) 165 [some (.inr 31), some (.inl x1), some (.inl x2), some (.inl x3), none] [] μ := by
  intro n
  induction n with
  | zero => intro x3 μ h; exact absurd h (by unfold X8_passes_l165; simp)
  | succ n ih =>
    intro x3 μ h
    exact t_X8_passes_c165 G d hd (X8_passes_l165 k x1 x2 n) k μ x1 x2 x3  (fun x3 μ h => ih x3 μ h) hk h
set_option maxRecDepth 100000 in
set_option maxHeartbeats 4000000 in
theorem t_X8_passes_b291 (G : wd_G) (d : Nat) (hd : 3 ≤ d) {out : wd_Mem} (μ : wd_Mem)  (h : X8_passes_b291 μ = some out) : wd_V G (d + 1) RX8 cX8_passes 5 none (fun r u => r = none ∧ u = out) 291 [some (.inr 31), none, none, none, none] [] μ := by
  unfold X8_passes_b291 at h
  exact wv_return rfl dX8_passes_291 (wd_lv h)
set_option maxRecDepth 100000 in
set_option maxHeartbeats 4000000 in
theorem t_X8_passes_b163 (G : wd_G) (d : Nat) (hd : 3 ≤ d) {out : wd_Mem} (μ : wd_Mem) (x1 x2 : Int32)  (h : X8_passes_b163 μ x1 x2 = some out) : wd_V G (d + 1) RX8 cX8_passes 5 none (fun r u => r = none ∧ u = out) 163 [some (.inr 31), some (.inl x1), some (.inl x2), none, none] [] μ := by
  unfold X8_passes_b163 at h
  refine wv_iconst (pc' := 164) dX8_passes_163 ic_0 rfl ?_
  refine wv_istore_n (pc' := 165) (i := 3) (L' := [some (.inr 31), some (.inl x1), some (.inl x2), some (.inl (0 : Int32)), none]) dX8_passes_164 rfl (by decide) rfl rfl ?_
  exact t_X8_passes_l165 G d hd (fun μ => X8_passes_b291 μ) x1 x2  (fun μ h => t_X8_passes_b291 G d hd μ  h) wd_big (0 : Int32) μ h
set_option maxRecDepth 100000 in
set_option maxHeartbeats 4000000 in
theorem t_X8_passes_b80 (G : wd_G) (d : Nat) (hd : 3 ≤ d) {out : wd_Mem} (μ : wd_Mem) (x1 x2 : Int32)  (h : X8_passes_b80 μ x1 x2 = some out) : wd_V G (d + 1) RX8 cX8_passes 5 none (fun r u => r = none ∧ u = out) 80 [some (.inr 31), some (.inl x1), some (.inl x2), none, none] [] μ := by
  unfold X8_passes_b80 at h
  refine wv_iconst (pc' := 81) dX8_passes_80 ic_0 rfl ?_
  refine wv_istore_n (pc' := 82) (i := 3) (L' := [some (.inr 31), some (.inl x1), some (.inl x2), some (.inl (0 : Int32)), none]) dX8_passes_81 rfl (by decide) rfl rfl ?_
  exact t_X8_passes_l82 G d hd (fun μ => X8_passes_b163 μ x1 x2) x1 x2  (fun μ h => t_X8_passes_b163 G d hd μ x1 x2  h) wd_big (0 : Int32) μ h
set_option maxRecDepth 100000 in
set_option maxHeartbeats 4000000 in
theorem t_X8_passes_b0 (G : wd_G) (d : Nat) (hd : 3 ≤ d) {out : wd_Mem} (μ : wd_Mem) (x1 x2 : Int32)  (h : X8_passes_b0 μ x1 x2 = some out) : wd_V G (d + 1) RX8 cX8_passes 5 none (fun r u => r = none ∧ u = out) 0 [some (.inr 31), some (.inl x1), some (.inl x2), none, none] [] μ := by
  unfold X8_passes_b0 at h
  refine wv_iconst (pc' := 1) dX8_passes_0 ic_0 rfl ?_
  refine wv_istore_n (pc' := 2) (i := 3) (L' := [some (.inr 31), some (.inl x1), some (.inl x2), some (.inl (0 : Int32)), none]) dX8_passes_1 rfl (by decide) rfl rfl ?_
  exact t_X8_passes_l2 G d hd (fun μ => X8_passes_b80 μ x1 x2) x1 x2  (fun μ h => t_X8_passes_b80 G d hd μ x1 x2  h) wd_big (0 : Int32) μ h
set_option maxRecDepth 100000 in
set_option maxHeartbeats 4000000 in
theorem c_X8_passes (G : wd_G) (d : Nat) (hd : 4 ≤ d) {μ : wd_Mem} {x1 x2 : Int32} {out : wd_Mem}  (h : X8_passes μ x1 x2 = some out) : wd_C G d yX8_passes [.inr 31, .inl x1, .inl x2] μ (fun r u => r = none ∧ u = out) := by
  obtain ⟨d, rfl⟩ : ∃ e, d = e + 1 := ⟨d - 1, by omega⟩
  refine wd_enter mc_X8_passes (by decide) (by decide +kernel) rfl (Nat.le_of_ble_eq_true rfl) (L0 := [some (.inr 31), some (.inl x1), some (.inl x2), none, none]) rfl ?_
  exact t_X8_passes_b0 G d (by omega) μ x1 x2 h
set_option maxRecDepth 100000 in
set_option maxHeartbeats 4000000 in
theorem t_X8_rules_b0 (G : wd_G) (d : Nat) (hd : 4 ≤ d) {out : wd_Mem} (μ : wd_Mem) (x1 : Int32)  (h : X8_rules_b0 μ x1 = some out) : wd_V G (d + 1) RX8 cX8_rules 2 none (fun r u => r = none ∧ u = out) 0 [some (.inr 31), some (.inl x1)] [] μ := by
  unfold X8_rules_b0 at h
  refine wv_aload_n (pc' := 1) (i := 0) (v := 31) dX8_rules_0 rfl rfl rfl ?_
  refine wv_iload_n (pc' := 2) (i := 1) (v := x1) dX8_rules_1 rfl rfl rfl ?_
  refine wv_iconst (pc' := 3) dX8_rules_2 ic_0 rfl ?_
  obtain ⟨r1, er1, h⟩ := wd_bind_some h
  refine wv_callVv (pc' := 6) (ν := r1) [.inl x1, .inl (0 : Int32)] ml_X8_178 rc_31 rfl (Nat.le_of_ble_eq_true rfl) dX8_rules_3 rfl (c_X8_passes G d (Nat.le_trans (Nat.le_of_ble_eq_true rfl) hd)  er1) ?_
  refine wv_aload_n (pc' := 7) (i := 0) (v := 31) dX8_rules_6 rfl rfl rfl ?_
  obtain ⟨r2, er2, h⟩ := wd_bind_some h
  refine wv_callVi (pc' := 10) (x := r2) (ν := r1) [] ml_X8_182 rc_31 rfl (Nat.le_of_ble_eq_true rfl) dX8_rules_7 rfl (c_X8_isBroken G d (Nat.le_trans (Nat.le_of_ble_eq_true rfl) hd)  er2) ?_
  refine wv_if_ne (pc' := 13) (tgt := 19) dX8_rules_10 (by decide) rfl (fun c3 => ?_) (fun c3 => ?_)
  · have h := (if_neg c3).symm.trans h
    exact wv_return rfl dX8_rules_19 (wd_lv h)
  · have h := (if_pos c3).symm.trans h
    refine wv_aload_n (pc' := 14) (i := 0) (v := 31) dX8_rules_13 rfl rfl rfl ?_
    refine wv_iload_n (pc' := 15) (i := 1) (v := x1) dX8_rules_14 rfl rfl rfl ?_
    refine wv_iconst (pc' := 16) dX8_rules_15 ic_1 rfl ?_
    obtain ⟨r4, er4, h⟩ := wd_bind_some h
    refine wv_callVv (pc' := 19) (ν := r4) [.inl x1, .inl (1 : Int32)] ml_X8_178 rc_31 rfl (Nat.le_of_ble_eq_true rfl) dX8_rules_16 rfl (c_X8_passes G d (Nat.le_trans (Nat.le_of_ble_eq_true rfl) hd)  er4) ?_
    exact wv_return rfl dX8_rules_19 (wd_lv h)
set_option maxRecDepth 100000 in
set_option maxHeartbeats 4000000 in
theorem c_X8_rules (G : wd_G) (d : Nat) (hd : 5 ≤ d) {μ : wd_Mem} {x1 : Int32} {out : wd_Mem}  (h : X8_rules μ x1 = some out) : wd_C G d yX8_rules [.inr 31, .inl x1] μ (fun r u => r = none ∧ u = out) := by
  obtain ⟨d, rfl⟩ : ∃ e, d = e + 1 := ⟨d - 1, by omega⟩
  refine wd_enter mc_X8_rules (by decide) (by decide +kernel) rfl (Nat.le_of_ble_eq_true rfl) (L0 := [some (.inr 31), some (.inl x1)]) rfl ?_
  exact t_X8_rules_b0 G d (by omega) μ x1 h
set_option maxRecDepth 100000 in
set_option maxHeartbeats 4000000 in
theorem t_X8_unlike_b31 (G : wd_G) (d : Nat) (hd : 0 ≤ d) {out : Int32} (rec : Int32 → Int32 → Option (Int32)) (k : Int32 → Option (Int32)) (μ : wd_Mem) (x2 s0 s1 : Int32) (hrec : ∀ (x1 x2 : Int32), rec x1 x2 = some out → wd_V G (d + 1) RX8 cX8_unlike 3 (some .int) (fun r u => r = some (.inl out) ∧ u = μ) 4 [some (.inr 31), some (.inl x1), some (.inl x2)] [] μ) (hk : ∀ (x1 : Int32), k x1 = some out → wd_V G (d + 1) RX8 cX8_unlike 3 (some .int) (fun r u => r = some (.inl out) ∧ u = μ) 39 [some (.inr 31), some (.inl x1), none] [] μ) (h : X8_unlike_b31 rec k μ x2 s0 s1 = some out) : wd_V G (d + 1) RX8 cX8_unlike 3 (some .int) (fun r u => r = some (.inl out) ∧ u = μ) 31 [some (.inr 31), none, some (.inl x2)] [.inl s1, .inl s0] μ := by
  unfold X8_unlike_b31 at h
  refine wv_iadd (pc' := 32) dX8_unlike_31 rfl ?_
  refine wv_istore_n (pc' := 33) (i := 1) (L' := [some (.inr 31), some (.inl (s0 + s1)), some (.inl x2)]) dX8_unlike_32 rfl (by decide) rfl rfl ?_
  refine wv_inc (pc' := 36) (x := x2) (L' := [some (.inr 31), some (.inl (s0 + s1)), some (.inl (x2 + (1 : Int32)))]) dX8_unlike_33 ic_1 rfl (by decide) rfl rfl ?_
  refine wv_goto (pc' := 4) dX8_unlike_36 (by decide) ?_
  exact hrec _ _ h
set_option maxRecDepth 100000 in
set_option maxHeartbeats 4000000 in
theorem t_X8_unlike_c4 (G : wd_G) (d : Nat) (hd : 0 ≤ d) {out : Int32} (rec : Int32 → Int32 → Option (Int32)) (k : Int32 → Option (Int32)) (μ : wd_Mem) (x1 x2 : Int32) (hrec : ∀ (x1 x2 : Int32), rec x1 x2 = some out → wd_V G (d + 1) RX8 cX8_unlike 3 (some .int) (fun r u => r = some (.inl out) ∧ u = μ) 4 [some (.inr 31), some (.inl x1), some (.inl x2)] [] μ) (hk : ∀ (x1 : Int32), k x1 = some out → wd_V G (d + 1) RX8 cX8_unlike 3 (some .int) (fun r u => r = some (.inl out) ∧ u = μ) 39 [some (.inr 31), some (.inl x1), none] [] μ) (h : X8_unlike_c4 rec k μ x1 x2 = some out) : wd_V G (d + 1) RX8 cX8_unlike 3 (some .int) (fun r u => r = some (.inl out) ∧ u = μ) 4 [some (.inr 31), some (.inl x1), some (.inl x2)] [] μ := by
  unfold X8_unlike_c4 at h
  refine wv_iload_n (pc' := 5) (i := 2) (v := x2) dX8_unlike_4 rfl rfl rfl ?_
  refine wv_bipush (pc' := 7) dX8_unlike_5 bp_10 rfl ?_
  refine wv_icmp_ge (pc' := 10) (tgt := 39) dX8_unlike_7 (by decide) rfl (fun c1 => ?_) (fun c1 => ?_)
  · have h := (if_pos c1).symm.trans h
    refine wv_weak (L' := [some (.inr 31), some (.inl x1), none]) ⟨rfl, rfl, trivial⟩ ?_
    exact hk _ h
  · have h := (if_neg c1).symm.trans h
    refine wv_iload_n (pc' := 11) (i := 1) (v := x1) dX8_unlike_10 rfl rfl rfl ?_
    refine wv_aload_n (pc' := 12) (i := 0) (v := 31) dX8_unlike_11 rfl rfl rfl ?_
    refine wv_gr (pc' := 15) g_X8_16_31 dX8_unlike_12 rfl ?_
    refine wv_iload_n (pc' := 16) (i := 2) (v := x2) dX8_unlike_15 rfl rfl rfl ?_
    obtain ⟨g2, h⟩ := wd_chk_some h
    refine wv_iald (pc' := 17) sa_34 (wd_in_vp g2) dX8_unlike_16 rfl ?_
    refine wv_aload_n (pc' := 18) (i := 0) (v := 31) dX8_unlike_17 rfl rfl rfl ?_
    refine wv_gr (pc' := 21) g_X8_47_31 dX8_unlike_18 rfl ?_
    refine wv_iload_n (pc' := 22) (i := 2) (v := x2) dX8_unlike_21 rfl rfl rfl ?_
    refine wv_iald (pc' := 23) sa_44 (wd_in_vp g2) dX8_unlike_22 rfl ?_
    refine wv_icmp_eq (pc' := 26) (tgt := 30) dX8_unlike_23 (by decide) rfl (fun c3 => ?_) (fun c3 => ?_)
    · have h := (if_pos c3).symm.trans h
      refine wv_iconst (pc' := 31) dX8_unlike_30 ic_0 rfl ?_
      refine wv_weak (L' := [some (.inr 31), none, some (.inl x2)]) ⟨rfl, rfl, trivial⟩ ?_
      exact t_X8_unlike_b31 G d hd rec k μ x2 x1 (0 : Int32) hrec hk h
    · have h := (if_neg c3).symm.trans h
      refine wv_iconst (pc' := 27) dX8_unlike_26 ic_1 rfl ?_
      refine wv_goto (pc' := 31) dX8_unlike_27 (by decide) ?_
      refine wv_weak (L' := [some (.inr 31), none, some (.inl x2)]) ⟨rfl, rfl, trivial⟩ ?_
      exact t_X8_unlike_b31 G d hd rec k μ x2 x1 (1 : Int32) hrec hk h
set_option maxRecDepth 100000 in
set_option maxHeartbeats 4000000 in
theorem t_X8_unlike_l4 (G : wd_G) (d : Nat) (hd : 0 ≤ d) {out : Int32} (k : Int32 → Option (Int32)) (μ : wd_Mem) (hk : ∀ (x1 : Int32), k x1 = some out → wd_V G (d + 1) RX8 cX8_unlike 3 (some .int) (fun r u => r = some (.inl out) ∧ u = μ) 39 [some (.inr 31), some (.inl x1), none] [] μ) : ∀ (n : Nat) (x1 x2 : Int32), X8_unlike_l4 k μ n x1 x2 = some out → wd_V G (d + 1) RX8 cX8_unlike 3 (some .int) (fun r u => r = some (.inl out) ∧ u = μ) 4 [some (.inr 31), some (.inl x1), some (.inl x2)] [] μ := by
  intro n
  induction n with
  | zero => intro x1 x2 h; exact absurd h (by unfold X8_unlike_l4; simp)
  | succ n ih =>
    intro x1 x2 h
    exact t_X8_unlike_c4 G d hd (X8_unlike_l4 k μ n) k μ x1 x2  (fun x1 x2 h => ih x1 x2 h) hk h
set_option maxRecDepth 100000 in
set_option maxHeartbeats 4000000 in
theorem t_X8_unlike_b39 (G : wd_G) (d : Nat) (hd : 0 ≤ d) {out : Int32} (μ : wd_Mem) (x1 : Int32)  (h : X8_unlike_b39 μ x1 = some out) : wd_V G (d + 1) RX8 cX8_unlike 3 (some .int) (fun r u => r = some (.inl out) ∧ u = μ) 39 [some (.inr 31), some (.inl x1), none] [] μ := by
  unfold X8_unlike_b39 at h
  refine wv_iload_n (pc' := 40) (i := 1) (v := x1) dX8_unlike_39 rfl rfl rfl ?_
  exact wv_ireturn rfl dX8_unlike_40 (wd_li h)
set_option maxRecDepth 100000 in
set_option maxHeartbeats 4000000 in
theorem t_X8_unlike_b0 (G : wd_G) (d : Nat) (hd : 0 ≤ d) {out : Int32} (μ : wd_Mem)  (h : X8_unlike_b0 μ = some out) : wd_V G (d + 1) RX8 cX8_unlike 3 (some .int) (fun r u => r = some (.inl out) ∧ u = μ) 0 [some (.inr 31), none, none] [] μ := by
  unfold X8_unlike_b0 at h
  refine wv_iconst (pc' := 1) dX8_unlike_0 ic_0 rfl ?_
  refine wv_istore_n (pc' := 2) (i := 1) (L' := [some (.inr 31), some (.inl (0 : Int32)), none]) dX8_unlike_1 rfl (by decide) rfl rfl ?_
  refine wv_iconst (pc' := 3) dX8_unlike_2 ic_0 rfl ?_
  refine wv_istore_n (pc' := 4) (i := 2) (L' := [some (.inr 31), some (.inl (0 : Int32)), some (.inl (0 : Int32))]) dX8_unlike_3 rfl (by decide) rfl rfl ?_
  exact t_X8_unlike_l4 G d hd (fun x1 => X8_unlike_b39 μ x1) μ  (fun x1 h => t_X8_unlike_b39 G d hd μ x1  h) wd_big (0 : Int32) (0 : Int32) h
set_option maxRecDepth 100000 in
set_option maxHeartbeats 4000000 in
theorem c_X8_unlike (G : wd_G) (d : Nat) (hd : 1 ≤ d) {μ : wd_Mem} {out : Int32}  (h : X8_unlike μ = some out) : wd_C G d yX8_unlike [.inr 31] μ (fun r u => r = some (.inl out) ∧ u = μ) := by
  obtain ⟨d, rfl⟩ : ∃ e, d = e + 1 := ⟨d - 1, by omega⟩
  refine wd_enter mc_X8_unlike (by decide) (by decide +kernel) rfl (Nat.le_of_ble_eq_true rfl) (L0 := [some (.inr 31), none, none]) rfl ?_
  exact t_X8_unlike_b0 G d (by omega) μ  h
set_option maxRecDepth 100000 in
set_option maxHeartbeats 4000000 in
theorem t_X8_windows_c4 (G : wd_G) (d : Nat) (hd : 0 ≤ d) {out : Int32} (rec : Int32 → Int32 → Option (Int32)) (k : Int32 → Option (Int32)) (μ : wd_Mem) (x1 x2 : Int32) (hrec : ∀ (x1 x2 : Int32), rec x1 x2 = some out → wd_V G (d + 1) RX8 cX8_windows 3 (some .int) (fun r u => r = some (.inl out) ∧ u = μ) 4 [some (.inr 31), some (.inl x1), some (.inl x2)] [] μ) (hk : ∀ (x1 : Int32), k x1 = some out → wd_V G (d + 1) RX8 cX8_windows 3 (some .int) (fun r u => r = some (.inl out) ∧ u = μ) 38 [some (.inr 31), some (.inl x1), none] [] μ) (h : X8_windows_c4 rec k μ x1 x2 = some out) : wd_V G (d + 1) RX8 cX8_windows 3 (some .int) (fun r u => r = some (.inl out) ∧ u = μ) 4 [some (.inr 31), some (.inl x1), some (.inl x2)] [] μ := by
  unfold X8_windows_c4 at h
  refine wv_iload_n (pc' := 5) (i := 2) (v := x2) dX8_windows_4 rfl rfl rfl ?_
  refine wv_aload_n (pc' := 6) (i := 0) (v := 31) dX8_windows_5 rfl rfl rfl ?_
  refine wv_gi (pc' := 9) g_X8_118_31 dX8_windows_6 rfl ?_
  refine wv_icmp_ge (pc' := 12) (tgt := 38) dX8_windows_9 (by decide) rfl (fun c1 => ?_) (fun c1 => ?_)
  · have h := (if_pos c1).symm.trans h
    refine wv_weak (L' := [some (.inr 31), some (.inl x1), none]) ⟨rfl, rfl, trivial⟩ ?_
    exact hk _ h
  · have h := (if_neg c1).symm.trans h
    refine wv_iload_n (pc' := 13) (i := 1) (v := x1) dX8_windows_12 rfl rfl rfl ?_
    refine wv_aload_n (pc' := 14) (i := 0) (v := 31) dX8_windows_13 rfl rfl rfl ?_
    refine wv_gr (pc' := 17) g_X8_16_31 dX8_windows_14 rfl ?_
    refine wv_iconst (pc' := 18) dX8_windows_17 ic_5 rfl ?_
    refine wv_iload_n (pc' := 19) (i := 2) (v := x2) dX8_windows_18 rfl rfl rfl ?_
    refine wv_iadd (pc' := 20) dX8_windows_19 rfl ?_
    obtain ⟨g2, h⟩ := wd_chk_some h
    refine wv_iald (pc' := 21) sa_34 (wd_in_vp g2) dX8_windows_20 rfl ?_
    refine wv_aload_n (pc' := 22) (i := 0) (v := 31) dX8_windows_21 rfl rfl rfl ?_
    refine wv_gr (pc' := 25) g_X8_16_31 dX8_windows_22 rfl ?_
    refine wv_iconst (pc' := 26) dX8_windows_25 ic_0 rfl ?_
    refine wv_iload_n (pc' := 27) (i := 2) (v := x2) dX8_windows_26 rfl rfl rfl ?_
    refine wv_iadd (pc' := 28) dX8_windows_27 rfl ?_
    obtain ⟨g3, h⟩ := wd_chk_some h
    refine wv_iald (pc' := 29) sa_34 (wd_in_vp g3) dX8_windows_28 rfl ?_
    refine wv_isub (pc' := 30) dX8_windows_29 rfl ?_
    refine wv_iadd (pc' := 31) dX8_windows_30 rfl ?_
    refine wv_istore_n (pc' := 32) (i := 1) (L' := [some (.inr 31), some (.inl (x1 + ((μ 34 (Int32.toNatClampNeg ((5 : Int32) + x2))) - (μ 34 (Int32.toNatClampNeg ((0 : Int32) + x2)))))), some (.inl x2)]) dX8_windows_31 rfl (by decide) rfl rfl ?_
    refine wv_inc (pc' := 35) (x := x2) (L' := [some (.inr 31), some (.inl (x1 + ((μ 34 (Int32.toNatClampNeg ((5 : Int32) + x2))) - (μ 34 (Int32.toNatClampNeg ((0 : Int32) + x2)))))), some (.inl (x2 + (1 : Int32)))]) dX8_windows_32 ic_1 rfl (by decide) rfl rfl ?_
    refine wv_goto (pc' := 4) dX8_windows_35 (by decide) ?_
    exact hrec _ _ h
set_option maxRecDepth 100000 in
set_option maxHeartbeats 4000000 in
theorem t_X8_windows_l4 (G : wd_G) (d : Nat) (hd : 0 ≤ d) {out : Int32} (k : Int32 → Option (Int32)) (μ : wd_Mem) (hk : ∀ (x1 : Int32), k x1 = some out → wd_V G (d + 1) RX8 cX8_windows 3 (some .int) (fun r u => r = some (.inl out) ∧ u = μ) 38 [some (.inr 31), some (.inl x1), none] [] μ) : ∀ (n : Nat) (x1 x2 : Int32), X8_windows_l4 k μ n x1 x2 = some out → wd_V G (d + 1) RX8 cX8_windows 3 (some .int) (fun r u => r = some (.inl out) ∧ u = μ) 4 [some (.inr 31), some (.inl x1), some (.inl x2)] [] μ := by
  intro n
  induction n with
  | zero => intro x1 x2 h; exact absurd h (by unfold X8_windows_l4; simp)
  | succ n ih =>
    intro x1 x2 h
    exact t_X8_windows_c4 G d hd (X8_windows_l4 k μ n) k μ x1 x2  (fun x1 x2 h => ih x1 x2 h) hk h
set_option maxRecDepth 100000 in
set_option maxHeartbeats 4000000 in
theorem t_X8_windows_b38 (G : wd_G) (d : Nat) (hd : 0 ≤ d) {out : Int32} (μ : wd_Mem) (x1 : Int32)  (h : X8_windows_b38 μ x1 = some out) : wd_V G (d + 1) RX8 cX8_windows 3 (some .int) (fun r u => r = some (.inl out) ∧ u = μ) 38 [some (.inr 31), some (.inl x1), none] [] μ := by
  unfold X8_windows_b38 at h
  refine wv_iload_n (pc' := 39) (i := 1) (v := x1) dX8_windows_38 rfl rfl rfl ?_
  exact wv_ireturn rfl dX8_windows_39 (wd_li h)
set_option maxRecDepth 100000 in
set_option maxHeartbeats 4000000 in
theorem t_X8_windows_b0 (G : wd_G) (d : Nat) (hd : 0 ≤ d) {out : Int32} (μ : wd_Mem)  (h : X8_windows_b0 μ = some out) : wd_V G (d + 1) RX8 cX8_windows 3 (some .int) (fun r u => r = some (.inl out) ∧ u = μ) 0 [some (.inr 31), none, none] [] μ := by
  unfold X8_windows_b0 at h
  refine wv_iconst (pc' := 1) dX8_windows_0 ic_0 rfl ?_
  refine wv_istore_n (pc' := 2) (i := 1) (L' := [some (.inr 31), some (.inl (0 : Int32)), none]) dX8_windows_1 rfl (by decide) rfl rfl ?_
  refine wv_iconst (pc' := 3) dX8_windows_2 ic_0 rfl ?_
  refine wv_istore_n (pc' := 4) (i := 2) (L' := [some (.inr 31), some (.inl (0 : Int32)), some (.inl (0 : Int32))]) dX8_windows_3 rfl (by decide) rfl rfl ?_
  exact t_X8_windows_l4 G d hd (fun x1 => X8_windows_b38 μ x1) μ  (fun x1 h => t_X8_windows_b38 G d hd μ x1  h) wd_big (0 : Int32) (0 : Int32) h
set_option maxRecDepth 100000 in
set_option maxHeartbeats 4000000 in
theorem c_X8_windows (G : wd_G) (d : Nat) (hd : 1 ≤ d) {μ : wd_Mem} {out : Int32}  (h : X8_windows μ = some out) : wd_C G d yX8_windows [.inr 31] μ (fun r u => r = some (.inl out) ∧ u = μ) := by
  obtain ⟨d, rfl⟩ : ∃ e, d = e + 1 := ⟨d - 1, by omega⟩
  refine wd_enter mc_X8_windows (by decide) (by decide +kernel) rfl (Nat.le_of_ble_eq_true rfl) (L0 := [some (.inr 31), none, none]) rfl ?_
  exact t_X8_windows_b0 G d (by omega) μ  h
set_option maxRecDepth 100000 in
set_option maxHeartbeats 4000000 in
theorem t_X8_tightens_c27 (G : wd_G) (d : Nat) (hd : 5 ≤ d) {out : Int32 × wd_Mem} (rec : Int32 → wd_Mem → Option (Int32 × wd_Mem)) (k : wd_Mem → Option (Int32 × wd_Mem)) (μ : wd_Mem) (x1 x2 : Int32) (hrec : ∀ (x2 : Int32) (μ : wd_Mem), rec x2 μ = some out → wd_V G (d + 1) RX8 cX8_tightens 4 (some .int) (fun r u => r = some (.inl out.1) ∧ u = out.2) 27 [some (.inr 31), some (.inl x1), some (.inl x2), none] [] μ) (hk : ∀  (μ : wd_Mem), k μ = some out → wd_V G (d + 1) RX8 cX8_tightens 4 (some .int) (fun r u => r = some (.inl out.1) ∧ u = out.2) 51 [some (.inr 31), some (.inl x1), none, none] [] μ) (h : X8_tightens_c27 rec k μ x1 x2 = some out) : wd_V G (d + 1) RX8 cX8_tightens 4 (some .int) (fun r u => r = some (.inl out.1) ∧ u = out.2) 27 [some (.inr 31), some (.inl x1), some (.inl x2), none] [] μ := by
  unfold X8_tightens_c27 at h
  refine wv_iload_n (pc' := 28) (i := 2) (v := x2) dX8_tightens_27 rfl rfl rfl ?_
  refine wv_bipush (pc' := 30) dX8_tightens_28 bp_30 rfl ?_
  refine wv_icmp_ge (pc' := 33) (tgt := 51) dX8_tightens_30 (by decide) rfl (fun c5 => ?_) (fun c5 => ?_)
  · have h := (if_pos c5).symm.trans h
    refine wv_weak (L' := [some (.inr 31), some (.inl x1), none, none]) ⟨rfl, rfl, trivial⟩ ?_
    exact hk _ h
  · have h := (if_neg c5).symm.trans h
    refine wv_aload_n (pc' := 34) (i := 0) (v := 31) dX8_tightens_33 rfl rfl rfl ?_
    refine wv_gr (pc' := 37) g_X8_47_31 dX8_tightens_34 rfl ?_
    refine wv_iload_n (pc' := 38) (i := 2) (v := x2) dX8_tightens_37 rfl rfl rfl ?_
    refine wv_aload_n (pc' := 39) (i := 0) (v := 31) dX8_tightens_38 rfl rfl rfl ?_
    refine wv_gr (pc' := 42) g_X8_16_31 dX8_tightens_39 rfl ?_
    refine wv_iload_n (pc' := 43) (i := 2) (v := x2) dX8_tightens_42 rfl rfl rfl ?_
    obtain ⟨g6, h⟩ := wd_chk_some h
    refine wv_iald (pc' := 44) sa_34 (wd_in_vp g6) dX8_tightens_43 rfl ?_
    refine wv_iast (pc' := 45) sa_44 (wd_in_vp g6) dX8_tightens_44 rfl ?_
    refine wv_inc (pc' := 48) (x := x2) (L' := [some (.inr 31), some (.inl x1), some (.inl (x2 + (1 : Int32))), none]) dX8_tightens_45 ic_1 rfl (by decide) rfl rfl ?_
    refine wv_goto (pc' := 27) dX8_tightens_48 (by decide) ?_
    exact hrec _ _ h
set_option maxRecDepth 100000 in
set_option maxHeartbeats 4000000 in
theorem t_X8_tightens_l27 (G : wd_G) (d : Nat) (hd : 5 ≤ d) {out : Int32 × wd_Mem} (k : wd_Mem → Option (Int32 × wd_Mem)) (x1 : Int32) (hk : ∀  (μ : wd_Mem), k μ = some out → wd_V G (d + 1) RX8 cX8_tightens 4 (some .int) (fun r u => r = some (.inl out.1) ∧ u = out.2) 51 [some (.inr 31), some (.inl x1), none, none] [] μ) : ∀ (n : Nat) (x2 : Int32) (μ : wd_Mem), X8_tightens_l27 k x1 n x2 μ = some out → wd_V G (d + 1) RX8 cX8_tightens 4 (some .int) (fun r u => r = some (.inl out.1) ∧ u = out.2) 27 [some (.inr 31), some (.inl x1), some (.inl x2), none] [] μ := by
  intro n
  induction n with
  | zero => intro x2 μ h; exact absurd h (by unfold X8_tightens_l27; simp)
  | succ n ih =>
    intro x2 μ h
    exact t_X8_tightens_c27 G d hd (X8_tightens_l27 k x1 n) k μ x1 x2  (fun x2 μ h => ih x2 μ h) hk h
set_option maxRecDepth 100000 in
set_option maxHeartbeats 4000000 in
theorem t_X8_tightens_c91 (G : wd_G) (d : Nat) (hd : 5 ≤ d) {out : Int32 × wd_Mem} (rec : Int32 → wd_Mem → Option (Int32 × wd_Mem)) (k : wd_Mem → Option (Int32 × wd_Mem)) (μ : wd_Mem) (x2 x3 : Int32) (hrec : ∀ (x3 : Int32) (μ : wd_Mem), rec x3 μ = some out → wd_V G (d + 1) RX8 cX8_tightens 4 (some .int) (fun r u => r = some (.inl out.1) ∧ u = out.2) 91 [some (.inr 31), none, some (.inl x2), some (.inl x3)] [] μ) (hk : ∀  (μ : wd_Mem), k μ = some out → wd_V G (d + 1) RX8 cX8_tightens 4 (some .int) (fun r u => r = some (.inl out.1) ∧ u = out.2) 114 [some (.inr 31), none, some (.inl x2), none] [] μ) (h : X8_tightens_c91 rec k μ x2 x3 = some out) : wd_V G (d + 1) RX8 cX8_tightens 4 (some .int) (fun r u => r = some (.inl out.1) ∧ u = out.2) 91 [some (.inr 31), none, some (.inl x2), some (.inl x3)] [] μ := by
  unfold X8_tightens_c91 at h
  refine wv_iload_n (pc' := 92) (i := 3) (v := x3) dX8_tightens_91 rfl rfl rfl ?_
  refine wv_iconst (pc' := 93) dX8_tightens_92 ic_4 rfl ?_
  refine wv_icmp_ge (pc' := 96) (tgt := 114) dX8_tightens_93 (by decide) rfl (fun c13 => ?_) (fun c13 => ?_)
  · have h := (if_pos c13).symm.trans h
    refine wv_weak (L' := [some (.inr 31), none, some (.inl x2), none]) ⟨rfl, rfl, trivial⟩ ?_
    exact hk _ h
  · have h := (if_neg c13).symm.trans h
    refine wv_aload_n (pc' := 97) (i := 0) (v := 31) dX8_tightens_96 rfl rfl rfl ?_
    obtain ⟨r14, er14, h⟩ := wd_bind_some h
    refine wv_callVi (pc' := 100) (x := r14) (ν := μ) [] ml_X8_182 rc_31 rfl (Nat.le_of_ble_eq_true rfl) dX8_tightens_97 rfl (c_X8_isBroken G d (Nat.le_trans (Nat.le_of_ble_eq_true rfl) hd)  er14) ?_
    refine wv_if_ne (pc' := 103) (tgt := 114) dX8_tightens_100 (by decide) rfl (fun c15 => ?_) (fun c15 => ?_)
    · have h := (if_neg c15).symm.trans h
      refine wv_weak (L' := [some (.inr 31), none, some (.inl x2), none]) ⟨rfl, rfl, trivial⟩ ?_
      exact hk _ h
    · have h := (if_pos c15).symm.trans h
      refine wv_aload_n (pc' := 104) (i := 0) (v := 31) dX8_tightens_103 rfl rfl rfl ?_
      refine wv_iload_n (pc' := 105) (i := 3) (v := x3) dX8_tightens_104 rfl rfl rfl ?_
      obtain ⟨r16, er16, h⟩ := wd_bind_some h
      refine wv_callVv (pc' := 108) (ν := r16) [.inl x3] ml_X8_191 rc_31 rfl (Nat.le_of_ble_eq_true rfl) dX8_tightens_105 rfl (c_X8_rules G d (Nat.le_trans (Nat.le_of_ble_eq_true rfl) hd)  er16) ?_
      refine wv_inc (pc' := 111) (x := x3) (L' := [some (.inr 31), none, some (.inl x2), some (.inl (x3 + (1 : Int32)))]) dX8_tightens_108 ic_1 rfl (by decide) rfl rfl ?_
      refine wv_goto (pc' := 91) dX8_tightens_111 (by decide) ?_
      exact hrec _ _ h
set_option maxRecDepth 100000 in
set_option maxHeartbeats 4000000 in
theorem t_X8_tightens_l91 (G : wd_G) (d : Nat) (hd : 5 ≤ d) {out : Int32 × wd_Mem} (k : wd_Mem → Option (Int32 × wd_Mem)) (x2 : Int32) (hk : ∀  (μ : wd_Mem), k μ = some out → wd_V G (d + 1) RX8 cX8_tightens 4 (some .int) (fun r u => r = some (.inl out.1) ∧ u = out.2) 114 [some (.inr 31), none, some (.inl x2), none] [] μ) : ∀ (n : Nat) (x3 : Int32) (μ : wd_Mem), X8_tightens_l91 k x2 n x3 μ = some out → wd_V G (d + 1) RX8 cX8_tightens 4 (some .int) (fun r u => r = some (.inl out.1) ∧ u = out.2) 91 [some (.inr 31), none, some (.inl x2), some (.inl x3)] [] μ := by
  intro n
  induction n with
  | zero => intro x3 μ h; exact absurd h (by unfold X8_tightens_l91; simp)
  | succ n ih =>
    intro x3 μ h
    exact t_X8_tightens_c91 G d hd (X8_tightens_l91 k x2 n) k μ x2 x3  (fun x3 μ h => ih x3 μ h) hk h
set_option maxRecDepth 100000 in
set_option maxHeartbeats 4000000 in
theorem t_X8_tightens_b114 (G : wd_G) (d : Nat) (hd : 5 ≤ d) {out : Int32 × wd_Mem} (rec : Int32 → wd_Mem → Option (Int32 × wd_Mem)) (k : wd_Mem → Option (Int32 × wd_Mem)) (μ : wd_Mem) (x2 : Int32) (hrec : ∀ (x2 : Int32) (μ : wd_Mem), rec x2 μ = some out → wd_V G (d + 1) RX8 cX8_tightens 4 (some .int) (fun r u => r = some (.inl out.1) ∧ u = out.2) 69 [some (.inr 31), none, some (.inl x2), none] [] μ) (hk : ∀  (μ : wd_Mem), k μ = some out → wd_V G (d + 1) RX8 cX8_tightens 4 (some .int) (fun r u => r = some (.inl out.1) ∧ u = out.2) 117 [some (.inr 31), none, none, none] [] μ) (h : X8_tightens_b114 rec k μ x2 = some out) : wd_V G (d + 1) RX8 cX8_tightens 4 (some .int) (fun r u => r = some (.inl out.1) ∧ u = out.2) 114 [some (.inr 31), none, some (.inl x2), none] [] μ := by
  unfold X8_tightens_b114 at h
  refine wv_goto (pc' := 69) dX8_tightens_114 (by decide) ?_
  exact hrec _ _ h
set_option maxRecDepth 100000 in
set_option maxHeartbeats 4000000 in
theorem t_X8_tightens_c69 (G : wd_G) (d : Nat) (hd : 5 ≤ d) {out : Int32 × wd_Mem} (rec : Int32 → wd_Mem → Option (Int32 × wd_Mem)) (k : wd_Mem → Option (Int32 × wd_Mem)) (μ : wd_Mem) (x2 : Int32) (hrec : ∀ (x2 : Int32) (μ : wd_Mem), rec x2 μ = some out → wd_V G (d + 1) RX8 cX8_tightens 4 (some .int) (fun r u => r = some (.inl out.1) ∧ u = out.2) 69 [some (.inr 31), none, some (.inl x2), none] [] μ) (hk : ∀  (μ : wd_Mem), k μ = some out → wd_V G (d + 1) RX8 cX8_tightens 4 (some .int) (fun r u => r = some (.inl out.1) ∧ u = out.2) 117 [some (.inr 31), none, none, none] [] μ) (h : X8_tightens_c69 rec k μ x2 = some out) : wd_V G (d + 1) RX8 cX8_tightens 4 (some .int) (fun r u => r = some (.inl out.1) ∧ u = out.2) 69 [some (.inr 31), none, some (.inl x2), none] [] μ := by
  unfold X8_tightens_c69 at h
  refine wv_aload_n (pc' := 70) (i := 0) (v := 31) dX8_tightens_69 rfl rfl rfl ?_
  obtain ⟨r8, er8, h⟩ := wd_bind_some h
  refine wv_callVi (pc' := 73) (x := r8) (ν := μ) [] ml_X8_197 rc_31 rfl (Nat.le_of_ble_eq_true rfl) dX8_tightens_70 rfl (c_X8_windows G d (Nat.le_trans (Nat.le_of_ble_eq_true rfl) hd)  er8) ?_
  refine wv_iload_n (pc' := 74) (i := 2) (v := x2) dX8_tightens_73 rfl rfl rfl ?_
  refine wv_icmp_eq (pc' := 77) (tgt := 117) dX8_tightens_74 (by decide) rfl (fun c9 => ?_) (fun c9 => ?_)
  · have h := (if_pos c9).symm.trans h
    refine wv_weak (L' := [some (.inr 31), none, none, none]) ⟨rfl, trivial⟩ ?_
    exact hk _ h
  · have h := (if_neg c9).symm.trans h
    refine wv_aload_n (pc' := 78) (i := 0) (v := 31) dX8_tightens_77 rfl rfl rfl ?_
    obtain ⟨r10, er10, h⟩ := wd_bind_some h
    refine wv_callVi (pc' := 81) (x := r10) (ν := μ) [] ml_X8_182 rc_31 rfl (Nat.le_of_ble_eq_true rfl) dX8_tightens_78 rfl (c_X8_isBroken G d (Nat.le_trans (Nat.le_of_ble_eq_true rfl) hd)  er10) ?_
    refine wv_if_ne (pc' := 84) (tgt := 117) dX8_tightens_81 (by decide) rfl (fun c11 => ?_) (fun c11 => ?_)
    · have h := (if_neg c11).symm.trans h
      refine wv_weak (L' := [some (.inr 31), none, none, none]) ⟨rfl, trivial⟩ ?_
      exact hk _ h
    · have h := (if_pos c11).symm.trans h
      refine wv_aload_n (pc' := 85) (i := 0) (v := 31) dX8_tightens_84 rfl rfl rfl ?_
      obtain ⟨r12, er12, h⟩ := wd_bind_some h
      refine wv_callVi (pc' := 88) (x := r12) (ν := μ) [] ml_X8_197 rc_31 rfl (Nat.le_of_ble_eq_true rfl) dX8_tightens_85 rfl (c_X8_windows G d (Nat.le_trans (Nat.le_of_ble_eq_true rfl) hd)  er12) ?_
      refine wv_istore_n (pc' := 89) (i := 2) (L' := [some (.inr 31), none, some (.inl r12), none]) dX8_tightens_88 rfl (by decide) rfl rfl ?_
      refine wv_iconst (pc' := 90) dX8_tightens_89 ic_0 rfl ?_
      refine wv_istore_n (pc' := 91) (i := 3) (L' := [some (.inr 31), none, some (.inl r12), some (.inl (0 : Int32))]) dX8_tightens_90 rfl (by decide) rfl rfl ?_
      exact t_X8_tightens_l91 G d hd (fun μ => X8_tightens_b114 rec k μ r12) r12  (fun μ h => t_X8_tightens_b114 G d hd rec k μ r12 hrec hk h) wd_big (0 : Int32) μ h
set_option maxRecDepth 100000 in
set_option maxHeartbeats 4000000 in
theorem t_X8_tightens_l69 (G : wd_G) (d : Nat) (hd : 5 ≤ d) {out : Int32 × wd_Mem} (k : wd_Mem → Option (Int32 × wd_Mem)) (hk : ∀  (μ : wd_Mem), k μ = some out → wd_V G (d + 1) RX8 cX8_tightens 4 (some .int) (fun r u => r = some (.inl out.1) ∧ u = out.2) 117 [some (.inr 31), none, none, none] [] μ) : ∀ (n : Nat) (x2 : Int32) (μ : wd_Mem), X8_tightens_l69 k n x2 μ = some out → wd_V G (d + 1) RX8 cX8_tightens 4 (some .int) (fun r u => r = some (.inl out.1) ∧ u = out.2) 69 [some (.inr 31), none, some (.inl x2), none] [] μ := by
  intro n
  induction n with
  | zero => intro x2 μ h; exact absurd h (by unfold X8_tightens_l69; simp)
  | succ n ih =>
    intro x2 μ h
    exact t_X8_tightens_c69 G d hd (X8_tightens_l69 k n) k μ x2  (fun x2 μ h => ih x2 μ h) hk h
set_option maxRecDepth 100000 in
set_option maxHeartbeats 4000000 in
theorem t_X8_tightens_b117 (G : wd_G) (d : Nat) (hd : 5 ≤ d) {out : Int32 × wd_Mem} (μ : wd_Mem)  (h : X8_tightens_b117 μ = some out) : wd_V G (d + 1) RX8 cX8_tightens 4 (some .int) (fun r u => r = some (.inl out.1) ∧ u = out.2) 117 [some (.inr 31), none, none, none] [] μ := by
  unfold X8_tightens_b117 at h
  refine wv_aload_n (pc' := 118) (i := 0) (v := 31) dX8_tightens_117 rfl rfl rfl ?_
  obtain ⟨r17, er17, h⟩ := wd_bind_some h
  refine wv_callVi (pc' := 121) (x := r17) (ν := μ) [] ml_X8_194 rc_31 rfl (Nat.le_of_ble_eq_true rfl) dX8_tightens_118 rfl (c_X8_unlike G d (Nat.le_trans (Nat.le_of_ble_eq_true rfl) hd)  er17) ?_
  exact wv_ireturn rfl dX8_tightens_121 (wd_liv h)
set_option maxRecDepth 100000 in
set_option maxHeartbeats 4000000 in
theorem t_X8_tightens_b51 (G : wd_G) (d : Nat) (hd : 5 ≤ d) {out : Int32 × wd_Mem} (μ : wd_Mem) (x1 : Int32)  (h : X8_tightens_b51 μ x1 = some out) : wd_V G (d + 1) RX8 cX8_tightens 4 (some .int) (fun r u => r = some (.inl out.1) ∧ u = out.2) 51 [some (.inr 31), some (.inl x1), none, none] [] μ := by
  unfold X8_tightens_b51 at h
  refine wv_iload_n (pc' := 52) (i := 1) (v := x1) dX8_tightens_51 rfl rfl rfl ?_
  refine wv_iconst (pc' := 53) dX8_tightens_52 ic_4 rfl ?_
  refine wv_icmp_ge (pc' := 56) (tgt := 66) dX8_tightens_53 (by decide) rfl (fun c7 => ?_) (fun c7 => ?_)
  · have h := (if_pos c7).symm.trans h
    refine wv_bipush (pc' := 68) dX8_tightens_66 bp_m99 rfl ?_
    refine wv_istore_n (pc' := 69) (i := 2) (L' := [some (.inr 31), some (.inl x1), some (.inl (-99 : Int32)), none]) dX8_tightens_68 rfl (by decide) rfl rfl ?_
    refine wv_weak (L' := [some (.inr 31), none, some (.inl (-99 : Int32)), none]) ⟨rfl, rfl, trivial⟩ ?_
    exact t_X8_tightens_l69 G d hd (fun μ => X8_tightens_b117 μ)  (fun μ h => t_X8_tightens_b117 G d hd μ  h) wd_big (-99 : Int32) μ h
  · have h := (if_neg c7).symm.trans h
    refine wv_aload_n (pc' := 57) (i := 0) (v := 31) dX8_tightens_56 rfl rfl rfl ?_
    refine wv_iload_n (pc' := 58) (i := 1) (v := x1) dX8_tightens_57 rfl rfl rfl ?_
    obtain ⟨r18, er18, h⟩ := wd_bind_some h
    refine wv_callVv (pc' := 61) (ν := r18) [.inl x1] ml_X8_191 rc_31 rfl (Nat.le_of_ble_eq_true rfl) dX8_tightens_58 rfl (c_X8_rules G d (Nat.le_trans (Nat.le_of_ble_eq_true rfl) hd)  er18) ?_
    refine wv_aload_n (pc' := 62) (i := 0) (v := 31) dX8_tightens_61 rfl rfl rfl ?_
    obtain ⟨r19, er19, h⟩ := wd_bind_some h
    refine wv_callVi (pc' := 65) (x := r19) (ν := r18) [] ml_X8_194 rc_31 rfl (Nat.le_of_ble_eq_true rfl) dX8_tightens_62 rfl (c_X8_unlike G d (Nat.le_trans (Nat.le_of_ble_eq_true rfl) hd)  er19) ?_
    exact wv_ireturn rfl dX8_tightens_65 (wd_liv h)
set_option maxRecDepth 100000 in
set_option maxHeartbeats 4000000 in
theorem t_X8_tightens_b0 (G : wd_G) (d : Nat) (hd : 5 ≤ d) {out : Int32 × wd_Mem} (μ : wd_Mem) (x1 : Int32)  (h : X8_tightens_b0 μ x1 = some out) : wd_V G (d + 1) RX8 cX8_tightens 4 (some .int) (fun r u => r = some (.inl out.1) ∧ u = out.2) 0 [some (.inr 31), some (.inl x1), none, none] [] μ := by
  unfold X8_tightens_b0 at h
  refine wv_iload_n (pc' := 1) (i := 1) (v := x1) dX8_tightens_0 rfl rfl rfl ?_
  refine wv_iconst (pc' := 2) dX8_tightens_1 ic_0 rfl ?_
  refine wv_iconst (pc' := 3) dX8_tightens_2 ic_4 rfl ?_
  refine wv_callSi (pc' := 6) (x := (X8_in μ x1 (0 : Int32) (4 : Int32))) (ν := μ) [.inl x1, .inl (0 : Int32), .inl (4 : Int32)] ml_X8_63 rfl (Nat.le_of_ble_eq_true rfl) dX8_tightens_3 rfl (c_X8_in G d (Nat.le_trans (Nat.le_of_ble_eq_true rfl) hd)  rfl) ?_
  refine wv_if_ne (pc' := 9) (tgt := 11) dX8_tightens_6 (by decide) rfl (fun c1 => ?_) (fun c1 => ?_)
  · have h := (if_neg c1).symm.trans h
    refine wv_aload_n (pc' := 12) (i := 0) (v := 31) dX8_tightens_11 rfl rfl rfl ?_
    obtain ⟨r2, er2, h⟩ := wd_bind_some h
    refine wv_callVi (pc' := 15) (x := r2) (ν := μ) [] ml_X8_182 rc_31 rfl (Nat.le_of_ble_eq_true rfl) dX8_tightens_12 rfl (c_X8_isBroken G d (Nat.le_trans (Nat.le_of_ble_eq_true rfl) hd)  er2) ?_
    refine wv_if_eq (pc' := 18) (tgt := 21) dX8_tightens_15 (by decide) rfl (fun c3 => ?_) (fun c3 => ?_)
    · have h := (if_pos c3).symm.trans h
      refine wv_aload_n (pc' := 22) (i := 0) (v := 31) dX8_tightens_21 rfl rfl rfl ?_
      obtain ⟨r4, er4, h⟩ := wd_bind_some h
      refine wv_callVv (pc' := 25) (ν := r4) [] ml_X8_188 rc_31 rfl (Nat.le_of_ble_eq_true rfl) dX8_tightens_22 rfl (c_X8_remember G d (Nat.le_trans (Nat.le_of_ble_eq_true rfl) hd)  er4) ?_
      refine wv_iconst (pc' := 26) dX8_tightens_25 ic_0 rfl ?_
      refine wv_istore_n (pc' := 27) (i := 2) (L' := [some (.inr 31), some (.inl x1), some (.inl (0 : Int32)), none]) dX8_tightens_26 rfl (by decide) rfl rfl ?_
      exact t_X8_tightens_l27 G d hd (fun μ => X8_tightens_b51 μ x1) x1  (fun μ h => t_X8_tightens_b51 G d hd μ x1  h) wd_big (0 : Int32) r4 h
    · have h := (if_neg c3).symm.trans h
      refine wv_bipush (pc' := 20) dX8_tightens_18 bp_m2 rfl ?_
      exact wv_ireturn rfl dX8_tightens_20 (wd_liv h)
  · have h := (if_pos c1).symm.trans h
    refine wv_iconst (pc' := 10) dX8_tightens_9 ic_m1 rfl ?_
    exact wv_ireturn rfl dX8_tightens_10 (wd_liv h)
set_option maxRecDepth 100000 in
set_option maxHeartbeats 4000000 in
theorem c_X8_tightens (G : wd_G) (d : Nat) (hd : 6 ≤ d) {μ : wd_Mem} {x1 : Int32} {out : Int32 × wd_Mem}  (h : X8_tightens μ x1 = some out) : wd_C G d yX8_tightens [.inr 31, .inl x1] μ (fun r u => r = some (.inl out.1) ∧ u = out.2) := by
  obtain ⟨d, rfl⟩ : ∃ e, d = e + 1 := ⟨d - 1, by omega⟩
  refine wd_enter mc_X8_tightens (by decide) (by decide +kernel) rfl (Nat.le_of_ble_eq_true rfl) (L0 := [some (.inr 31), some (.inl x1), none, none]) rfl ?_
  exact t_X8_tightens_b0 G d (by omega) μ x1 h
set_option maxRecDepth 100000 in
set_option maxHeartbeats 4000000 in
theorem t_X8_isTask_b0 (G : wd_G) (d : Nat) (hd : 1 ≤ d) {out : Int32} (μ : wd_Mem) (x1 : Int32)  (h : X8_isTask_b0 μ x1 = some out) : wd_V G (d + 1) RX8 cX8_isTask 2 (some .boolean) (fun r u => r = some (.inl out) ∧ u = μ) 0 [some (.inr 31), some (.inl x1)] [] μ := by
  unfold X8_isTask_b0 at h
  refine wv_iload_n (pc' := 1) (i := 1) (v := x1) dX8_isTask_0 rfl rfl rfl ?_
  refine wv_iconst (pc' := 2) dX8_isTask_1 ic_0 rfl ?_
  refine wv_aload_n (pc' := 3) (i := 0) (v := 31) dX8_isTask_2 rfl rfl rfl ?_
  refine wv_gi (pc' := 6) g_X8_118_31 dX8_isTask_3 rfl ?_
  refine wv_iconst (pc' := 7) dX8_isTask_6 ic_1 rfl ?_
  refine wv_isub (pc' := 8) dX8_isTask_7 rfl ?_
  refine wv_callSi (pc' := 11) (x := (X8_in μ x1 (0 : Int32) ((μ 31 0) - (1 : Int32)))) (ν := μ) [.inl x1, .inl (0 : Int32), .inl ((μ 31 0) - (1 : Int32))] ml_X8_63 rfl (Nat.le_of_ble_eq_true rfl) dX8_isTask_8 rfl (c_X8_in G d (Nat.le_trans (Nat.le_of_ble_eq_true rfl) hd)  rfl) ?_
  obtain ⟨g1, h⟩ := wd_chk_some h
  exact wv_zreturn rfl (wd_bit_ok g1) dX8_isTask_11 (wd_li h)
set_option maxRecDepth 100000 in
set_option maxHeartbeats 4000000 in
theorem c_X8_isTask (G : wd_G) (d : Nat) (hd : 2 ≤ d) {μ : wd_Mem} {x1 : Int32} {out : Int32}  (h : X8_isTask μ x1 = some out) : wd_C G d yX8_isTask [.inr 31, .inl x1] μ (fun r u => r = some (.inl out) ∧ u = μ) := by
  obtain ⟨d, rfl⟩ : ∃ e, d = e + 1 := ⟨d - 1, by omega⟩
  refine wd_enter mc_X8_isTask (by decide) (by decide +kernel) rfl (Nat.le_of_ble_eq_true rfl) (L0 := [some (.inr 31), some (.inl x1)]) rfl ?_
  exact t_X8_isTask_b0 G d (by omega) μ x1 h
set_option maxRecDepth 100000 in
set_option maxHeartbeats 4000000 in
theorem t_X8_puts_b27 (G : wd_G) (d : Nat) (hd : 2 ≤ d) {out : Int32 × wd_Mem} (μ : wd_Mem)  (h : X8_puts_b27 μ = some out) : wd_V G (d + 1) RX8 cX8_puts 7 (some .int) (fun r u => r = some (.inl out.1) ∧ u = out.2) 27 [some (.inr 31), none, none, none, none, none, none] [] μ := by
  unfold X8_puts_b27 at h
  refine wv_iconst (pc' := 28) dX8_puts_27 ic_m1 rfl ?_
  exact wv_ireturn rfl dX8_puts_28 (wd_liv h)
set_option maxRecDepth 100000 in
set_option maxHeartbeats 4000000 in
theorem t_X8_puts_b134 (G : wd_G) (d : Nat) (hd : 2 ≤ d) {out : Int32 × wd_Mem} (μ : wd_Mem)  (h : X8_puts_b134 μ = some out) : wd_V G (d + 1) RX8 cX8_puts 7 (some .int) (fun r u => r = some (.inl out.1) ∧ u = out.2) 134 [some (.inr 31), none, none, none, none, none, none] [] μ := by
  unfold X8_puts_b134 at h
  refine wv_bipush (pc' := 136) dX8_puts_134 bp_m2 rfl ?_
  exact wv_ireturn rfl dX8_puts_136 (wd_liv h)
set_option maxRecDepth 100000 in
set_option maxHeartbeats 4000000 in
theorem t_X8_puts_b120 (G : wd_G) (d : Nat) (hd : 2 ≤ d) {out : Int32 × wd_Mem} (μ : wd_Mem) (x1 x2 x3 x4 x5 s0 : Int32)  (h : X8_puts_b120 μ x1 x2 x3 x4 x5 s0 = some out) : wd_V G (d + 1) RX8 cX8_puts 7 (some .int) (fun r u => r = some (.inl out.1) ∧ u = out.2) 120 [some (.inr 31), some (.inl x1), some (.inl x2), some (.inl x3), some (.inl x4), some (.inl x5), none] [.inl s0] μ := by
  unfold X8_puts_b120 at h
  refine wv_istore (pc' := 122) (L' := [some (.inr 31), some (.inl x1), some (.inl x2), some (.inl x3), some (.inl x4), some (.inl x5), some (.inl s0)]) dX8_puts_120 (by decide) rfl rfl ?_
  refine wv_aload_n (pc' := 123) (i := 0) (v := 31) dX8_puts_122 rfl rfl rfl ?_
  obtain ⟨r9, er9, h⟩ := wd_bind_some h
  refine wv_callVi (pc' := 126) (x := r9) (ν := μ) [] ml_X8_182 rc_31 rfl (Nat.le_of_ble_eq_true rfl) dX8_puts_123 rfl (c_X8_isBroken G d (Nat.le_trans (Nat.le_of_ble_eq_true rfl) hd)  er9) ?_
  refine wv_if_ne (pc' := 129) (tgt := 134) dX8_puts_126 (by decide) rfl (fun c10 => ?_) (fun c10 => ?_)
  · have h := (if_neg c10).symm.trans h
    refine wv_weak (L' := [some (.inr 31), none, none, none, none, none, none]) ⟨rfl, trivial⟩ ?_
    exact t_X8_puts_b134 G d hd μ  h
  · have h := (if_pos c10).symm.trans h
    refine wv_iload (pc' := 131) (v := s0) dX8_puts_129 rfl rfl ?_
    refine wv_if_ne (pc' := 134) (tgt := 137) dX8_puts_131 (by decide) rfl (fun c11 => ?_) (fun c11 => ?_)
    · have h := (if_neg c11).symm.trans h
      refine wv_aload_n (pc' := 138) (i := 0) (v := 31) dX8_puts_137 rfl rfl rfl ?_
      obtain ⟨r12, er12, h⟩ := wd_bind_some h
      refine wv_callVv (pc' := 141) (ν := r12) [] ml_X8_188 rc_31 rfl (Nat.le_of_ble_eq_true rfl) dX8_puts_138 rfl (c_X8_remember G d (Nat.le_trans (Nat.le_of_ble_eq_true rfl) hd)  er12) ?_
      refine wv_aload_n (pc' := 142) (i := 0) (v := 31) dX8_puts_141 rfl rfl rfl ?_
      refine wv_gr (pc' := 145) g_X8_16_31 dX8_puts_142 rfl ?_
      refine wv_iload (pc' := 147) (v := x4) dX8_puts_145 rfl rfl ?_
      refine wv_iload_n (pc' := 148) (i := 3) (v := x3) dX8_puts_147 rfl rfl rfl ?_
      obtain ⟨g13, h⟩ := wd_chk_some h
      refine wv_iast (pc' := 149) sa_34 (wd_in_vp g13) dX8_puts_148 rfl ?_
      refine wv_aload_n (pc' := 150) (i := 0) (v := 31) dX8_puts_149 rfl rfl rfl ?_
      refine wv_gr (pc' := 153) g_X8_16_31 dX8_puts_150 rfl ?_
      refine wv_bipush (pc' := 155) dX8_puts_153 bp_10 rfl ?_
      refine wv_iconst (pc' := 156) dX8_puts_155 ic_5 rfl ?_
      refine wv_iload_n (pc' := 157) (i := 2) (v := x2) dX8_puts_156 rfl rfl rfl ?_
      refine wv_imul (pc' := 158) dX8_puts_157 rfl ?_
      refine wv_iadd (pc' := 159) dX8_puts_158 rfl ?_
      refine wv_iload_n (pc' := 160) (i := 1) (v := x1) dX8_puts_159 rfl rfl rfl ?_
      refine wv_iadd (pc' := 161) dX8_puts_160 rfl ?_
      refine wv_bipush (pc' := 163) dX8_puts_161 bp_m9 rfl ?_
      obtain ⟨g14, h⟩ := wd_chk_some h
      refine wv_iast (pc' := 164) sa_34 (wd_in_vp g14) dX8_puts_163 rfl ?_
      refine wv_aload_n (pc' := 165) (i := 0) (v := 31) dX8_puts_164 rfl rfl rfl ?_
      refine wv_gr (pc' := 168) g_X8_16_31 dX8_puts_165 rfl ?_
      refine wv_bipush (pc' := 170) dX8_puts_168 bp_20 rfl ?_
      refine wv_iconst (pc' := 171) dX8_puts_170 ic_5 rfl ?_
      refine wv_iload_n (pc' := 172) (i := 2) (v := x2) dX8_puts_171 rfl rfl rfl ?_
      refine wv_imul (pc' := 173) dX8_puts_172 rfl ?_
      refine wv_iadd (pc' := 174) dX8_puts_173 rfl ?_
      refine wv_iload_n (pc' := 175) (i := 1) (v := x1) dX8_puts_174 rfl rfl rfl ?_
      refine wv_iadd (pc' := 176) dX8_puts_175 rfl ?_
      refine wv_bipush (pc' := 178) dX8_puts_176 bp_m9 rfl ?_
      obtain ⟨g15, h⟩ := wd_chk_some h
      refine wv_iast (pc' := 179) sa_34 (wd_in_vp g15) dX8_puts_178 rfl ?_
      refine wv_iload (pc' := 181) (v := x5) dX8_puts_179 rfl rfl ?_
      exact wv_ireturn rfl dX8_puts_181 (wd_liv h)
    · have h := (if_pos c11).symm.trans h
      refine wv_weak (L' := [some (.inr 31), none, none, none, none, none, none]) ⟨rfl, trivial⟩ ?_
      exact t_X8_puts_b134 G d hd μ  h
set_option maxRecDepth 100000 in
set_option maxHeartbeats 4000000 in
theorem t_X8_puts_b119 (G : wd_G) (d : Nat) (hd : 2 ≤ d) {out : Int32 × wd_Mem} (μ : wd_Mem) (x1 x2 x3 x4 x5 : Int32)  (h : X8_puts_b119 μ x1 x2 x3 x4 x5 = some out) : wd_V G (d + 1) RX8 cX8_puts 7 (some .int) (fun r u => r = some (.inl out.1) ∧ u = out.2) 119 [some (.inr 31), some (.inl x1), some (.inl x2), some (.inl x3), some (.inl x4), some (.inl x5), none] [] μ := by
  unfold X8_puts_b119 at h
  refine wv_iconst (pc' := 120) dX8_puts_119 ic_0 rfl ?_
  exact t_X8_puts_b120 G d hd μ x1 x2 x3 x4 x5 (0 : Int32)  h
set_option maxRecDepth 100000 in
set_option maxHeartbeats 4000000 in
theorem t_X8_puts_b86 (G : wd_G) (d : Nat) (hd : 2 ≤ d) {out : Int32 × wd_Mem} (μ : wd_Mem) (x1 x2 x3 x4 x5 : Int32)  (h : X8_puts_b86 μ x1 x2 x3 x4 x5 = some out) : wd_V G (d + 1) RX8 cX8_puts 7 (some .int) (fun r u => r = some (.inl out.1) ∧ u = out.2) 86 [some (.inr 31), some (.inl x1), some (.inl x2), some (.inl x3), some (.inl x4), some (.inl x5), none] [] μ := by
  unfold X8_puts_b86 at h
  refine wv_iconst (pc' := 87) dX8_puts_86 ic_0 rfl ?_
  refine wv_goto (pc' := 120) dX8_puts_87 (by decide) ?_
  exact t_X8_puts_b120 G d hd μ x1 x2 x3 x4 x5 (0 : Int32)  h
set_option maxRecDepth 100000 in
set_option maxHeartbeats 4000000 in
theorem t_X8_puts_b42 (G : wd_G) (d : Nat) (hd : 2 ≤ d) {out : Int32 × wd_Mem} (μ : wd_Mem) (x1 x2 x3 s0 : Int32)  (h : X8_puts_b42 μ x1 x2 x3 s0 = some out) : wd_V G (d + 1) RX8 cX8_puts 7 (some .int) (fun r u => r = some (.inl out.1) ∧ u = out.2) 42 [some (.inr 31), some (.inl x1), some (.inl x2), some (.inl x3), none, none, none] [.inl s0] μ := by
  unfold X8_puts_b42 at h
  refine wv_istore (pc' := 44) (L' := [some (.inr 31), some (.inl x1), some (.inl x2), some (.inl x3), some (.inl s0), none, none]) dX8_puts_42 (by decide) rfl rfl ?_
  refine wv_aload_n (pc' := 45) (i := 0) (v := 31) dX8_puts_44 rfl rfl rfl ?_
  refine wv_gr (pc' := 48) g_X8_16_31 dX8_puts_45 rfl ?_
  refine wv_iload (pc' := 50) (v := s0) dX8_puts_48 rfl rfl ?_
  obtain ⟨g6, h⟩ := wd_chk_some h
  refine wv_iald (pc' := 51) sa_34 (wd_in_vp g6) dX8_puts_50 rfl ?_
  refine wv_istore (pc' := 53) (L' := [some (.inr 31), some (.inl x1), some (.inl x2), some (.inl x3), some (.inl s0), some (.inl (μ 34 (Int32.toNatClampNeg s0))), none]) dX8_puts_51 (by decide) rfl rfl ?_
  refine wv_iload_n (pc' := 54) (i := 2) (v := x2) dX8_puts_53 rfl rfl rfl ?_
  refine wv_if_ne (pc' := 57) (tgt := 90) dX8_puts_54 (by decide) rfl (fun c7 => ?_) (fun c7 => ?_)
  · have h := (if_neg c7).symm.trans h
    refine wv_iload_n (pc' := 91) (i := 3) (v := x3) dX8_puts_90 rfl rfl rfl ?_
    refine wv_iload (pc' := 93) (v := (μ 34 (Int32.toNatClampNeg s0))) dX8_puts_91 rfl rfl ?_
    refine wv_icmp_ge (pc' := 96) (tgt := 119) dX8_puts_93 (by decide) rfl (fun c8 => ?_) (fun c8 => ?_)
    · have h := (if_pos c8).symm.trans h
      exact t_X8_puts_b119 G d hd μ x1 x2 x3 s0 (μ 34 (Int32.toNatClampNeg s0))  h
    · have h := (if_neg c8).symm.trans h
      refine wv_aload_n (pc' := 97) (i := 0) (v := 31) dX8_puts_96 rfl rfl rfl ?_
      refine wv_gr (pc' := 100) g_X8_16_31 dX8_puts_97 rfl ?_
      refine wv_iconst (pc' := 101) dX8_puts_100 ic_0 rfl ?_
      refine wv_iload_n (pc' := 102) (i := 1) (v := x1) dX8_puts_101 rfl rfl rfl ?_
      refine wv_iadd (pc' := 103) dX8_puts_102 rfl ?_
      obtain ⟨g16, h⟩ := wd_chk_some h
      refine wv_iald (pc' := 104) sa_34 (wd_in_vp g16) dX8_puts_103 rfl ?_
      refine wv_aload_n (pc' := 105) (i := 0) (v := 31) dX8_puts_104 rfl rfl rfl ?_
      refine wv_gr (pc' := 108) g_X8_7_31 dX8_puts_105 rfl ?_
      refine wv_iload_n (pc' := 109) (i := 1) (v := x1) dX8_puts_108 rfl rfl rfl ?_
      obtain ⟨g17, h⟩ := wd_chk_some h
      refine wv_iald (pc' := 110) sa_32 (wd_in_vp g17) dX8_puts_109 rfl ?_
      refine wv_iadd (pc' := 111) dX8_puts_110 rfl ?_
      refine wv_iload_n (pc' := 112) (i := 3) (v := x3) dX8_puts_111 rfl rfl rfl ?_
      refine wv_icmp_gt (pc' := 115) (tgt := 119) dX8_puts_112 (by decide) rfl (fun c18 => ?_) (fun c18 => ?_)
      · have h := (if_pos c18).symm.trans h
        exact t_X8_puts_b119 G d hd μ x1 x2 x3 s0 (μ 34 (Int32.toNatClampNeg s0))  h
      · have h := (if_neg c18).symm.trans h
        refine wv_iconst (pc' := 116) dX8_puts_115 ic_1 rfl ?_
        refine wv_goto (pc' := 120) dX8_puts_116 (by decide) ?_
        exact t_X8_puts_b120 G d hd μ x1 x2 x3 s0 (μ 34 (Int32.toNatClampNeg s0)) (1 : Int32)  h
  · have h := (if_pos c7).symm.trans h
    refine wv_iload_n (pc' := 58) (i := 3) (v := x3) dX8_puts_57 rfl rfl rfl ?_
    refine wv_iload (pc' := 60) (v := (μ 34 (Int32.toNatClampNeg s0))) dX8_puts_58 rfl rfl ?_
    refine wv_icmp_le (pc' := 63) (tgt := 86) dX8_puts_60 (by decide) rfl (fun c19 => ?_) (fun c19 => ?_)
    · have h := (if_pos c19).symm.trans h
      exact t_X8_puts_b86 G d hd μ x1 x2 x3 s0 (μ 34 (Int32.toNatClampNeg s0))  h
    · have h := (if_neg c19).symm.trans h
      refine wv_iload_n (pc' := 64) (i := 3) (v := x3) dX8_puts_63 rfl rfl rfl ?_
      refine wv_aload_n (pc' := 65) (i := 0) (v := 31) dX8_puts_64 rfl rfl rfl ?_
      refine wv_gr (pc' := 68) g_X8_7_31 dX8_puts_65 rfl ?_
      refine wv_iload_n (pc' := 69) (i := 1) (v := x1) dX8_puts_68 rfl rfl rfl ?_
      obtain ⟨g20, h⟩ := wd_chk_some h
      refine wv_iald (pc' := 70) sa_32 (wd_in_vp g20) dX8_puts_69 rfl ?_
      refine wv_iadd (pc' := 71) dX8_puts_70 rfl ?_
      refine wv_aload_n (pc' := 72) (i := 0) (v := 31) dX8_puts_71 rfl rfl rfl ?_
      refine wv_gr (pc' := 75) g_X8_16_31 dX8_puts_72 rfl ?_
      refine wv_iconst (pc' := 76) dX8_puts_75 ic_5 rfl ?_
      refine wv_iload_n (pc' := 77) (i := 1) (v := x1) dX8_puts_76 rfl rfl rfl ?_
      refine wv_iadd (pc' := 78) dX8_puts_77 rfl ?_
      obtain ⟨g21, h⟩ := wd_chk_some h
      refine wv_iald (pc' := 79) sa_34 (wd_in_vp g21) dX8_puts_78 rfl ?_
      refine wv_icmp_gt (pc' := 82) (tgt := 86) dX8_puts_79 (by decide) rfl (fun c22 => ?_) (fun c22 => ?_)
      · have h := (if_pos c22).symm.trans h
        exact t_X8_puts_b86 G d hd μ x1 x2 x3 s0 (μ 34 (Int32.toNatClampNeg s0))  h
      · have h := (if_neg c22).symm.trans h
        refine wv_iconst (pc' := 83) dX8_puts_82 ic_1 rfl ?_
        refine wv_goto (pc' := 120) dX8_puts_83 (by decide) ?_
        exact t_X8_puts_b120 G d hd μ x1 x2 x3 s0 (μ 34 (Int32.toNatClampNeg s0)) (1 : Int32)  h
set_option maxRecDepth 100000 in
set_option maxHeartbeats 4000000 in
theorem t_X8_puts_b0 (G : wd_G) (d : Nat) (hd : 2 ≤ d) {out : Int32 × wd_Mem} (μ : wd_Mem) (x1 x2 x3 : Int32)  (h : X8_puts_b0 μ x1 x2 x3 = some out) : wd_V G (d + 1) RX8 cX8_puts 7 (some .int) (fun r u => r = some (.inl out.1) ∧ u = out.2) 0 [some (.inr 31), some (.inl x1), some (.inl x2), some (.inl x3), none, none, none] [] μ := by
  unfold X8_puts_b0 at h
  refine wv_aload_n (pc' := 1) (i := 0) (v := 31) dX8_puts_0 rfl rfl rfl ?_
  refine wv_iload_n (pc' := 2) (i := 1) (v := x1) dX8_puts_1 rfl rfl rfl ?_
  obtain ⟨r1, er1, h⟩ := wd_bind_some h
  refine wv_callVi (pc' := 5) (x := r1) (ν := μ) [.inl x1] ml_X8_200 rc_31 rfl (Nat.le_of_ble_eq_true rfl) dX8_puts_2 rfl (c_X8_isTask G d (Nat.le_trans (Nat.le_of_ble_eq_true rfl) hd)  er1) ?_
  refine wv_if_eq (pc' := 8) (tgt := 27) dX8_puts_5 (by decide) rfl (fun c2 => ?_) (fun c2 => ?_)
  · have h := (if_pos c2).symm.trans h
    refine wv_weak (L' := [some (.inr 31), none, none, none, none, none, none]) ⟨rfl, trivial⟩ ?_
    exact t_X8_puts_b27 G d hd μ  h
  · have h := (if_neg c2).symm.trans h
    refine wv_iload_n (pc' := 9) (i := 2) (v := x2) dX8_puts_8 rfl rfl rfl ?_
    refine wv_iconst (pc' := 10) dX8_puts_9 ic_0 rfl ?_
    refine wv_iconst (pc' := 11) dX8_puts_10 ic_1 rfl ?_
    refine wv_callSi (pc' := 14) (x := (X8_in μ x2 (0 : Int32) (1 : Int32))) (ν := μ) [.inl x2, .inl (0 : Int32), .inl (1 : Int32)] ml_X8_63 rfl (Nat.le_of_ble_eq_true rfl) dX8_puts_11 rfl (c_X8_in G d (Nat.le_trans (Nat.le_of_ble_eq_true rfl) hd)  rfl) ?_
    refine wv_if_eq (pc' := 17) (tgt := 27) dX8_puts_14 (by decide) rfl (fun c3 => ?_) (fun c3 => ?_)
    · have h := (if_pos c3).symm.trans h
      refine wv_weak (L' := [some (.inr 31), none, none, none, none, none, none]) ⟨rfl, trivial⟩ ?_
      exact t_X8_puts_b27 G d hd μ  h
    · have h := (if_neg c3).symm.trans h
      refine wv_iload_n (pc' := 18) (i := 3) (v := x3) dX8_puts_17 rfl rfl rfl ?_
      refine wv_iconst (pc' := 19) dX8_puts_18 ic_0 rfl ?_
      refine wv_bipush (pc' := 21) dX8_puts_19 bp_16 rfl ?_
      refine wv_callSi (pc' := 24) (x := (X8_in μ x3 (0 : Int32) (16 : Int32))) (ν := μ) [.inl x3, .inl (0 : Int32), .inl (16 : Int32)] ml_X8_63 rfl (Nat.le_of_ble_eq_true rfl) dX8_puts_21 rfl (c_X8_in G d (Nat.le_trans (Nat.le_of_ble_eq_true rfl) hd)  rfl) ?_
      refine wv_if_ne (pc' := 27) (tgt := 29) dX8_puts_24 (by decide) rfl (fun c4 => ?_) (fun c4 => ?_)
      · have h := (if_neg c4).symm.trans h
        refine wv_iload_n (pc' := 30) (i := 2) (v := x2) dX8_puts_29 rfl rfl rfl ?_
        refine wv_if_ne (pc' := 33) (tgt := 39) dX8_puts_30 (by decide) rfl (fun c5 => ?_) (fun c5 => ?_)
        · have h := (if_neg c5).symm.trans h
          refine wv_iconst (pc' := 40) dX8_puts_39 ic_5 rfl ?_
          refine wv_iload_n (pc' := 41) (i := 1) (v := x1) dX8_puts_40 rfl rfl rfl ?_
          refine wv_iadd (pc' := 42) dX8_puts_41 rfl ?_
          exact t_X8_puts_b42 G d hd μ x1 x2 x3 ((5 : Int32) + x1)  h
        · have h := (if_pos c5).symm.trans h
          refine wv_iconst (pc' := 34) dX8_puts_33 ic_0 rfl ?_
          refine wv_iload_n (pc' := 35) (i := 1) (v := x1) dX8_puts_34 rfl rfl rfl ?_
          refine wv_iadd (pc' := 36) dX8_puts_35 rfl ?_
          refine wv_goto (pc' := 42) dX8_puts_36 (by decide) ?_
          exact t_X8_puts_b42 G d hd μ x1 x2 x3 ((0 : Int32) + x1)  h
      · have h := (if_pos c4).symm.trans h
        refine wv_weak (L' := [some (.inr 31), none, none, none, none, none, none]) ⟨rfl, trivial⟩ ?_
        exact t_X8_puts_b27 G d hd μ  h
set_option maxRecDepth 100000 in
set_option maxHeartbeats 4000000 in
theorem c_X8_puts (G : wd_G) (d : Nat) (hd : 3 ≤ d) {μ : wd_Mem} {x1 x2 x3 : Int32} {out : Int32 × wd_Mem}  (h : X8_puts μ x1 x2 x3 = some out) : wd_C G d yX8_puts [.inr 31, .inl x1, .inl x2, .inl x3] μ (fun r u => r = some (.inl out.1) ∧ u = out.2) := by
  obtain ⟨d, rfl⟩ : ∃ e, d = e + 1 := ⟨d - 1, by omega⟩
  refine wd_enter mc_X8_puts (by decide) (by decide +kernel) rfl (Nat.le_of_ble_eq_true rfl) (L0 := [some (.inr 31), some (.inl x1), some (.inl x2), some (.inl x3), none, none, none]) rfl ?_
  exact t_X8_puts_b0 G d (by omega) μ x1 x2 x3 h
set_option maxRecDepth 100000 in
set_option maxHeartbeats 4000000 in
theorem t_X8_undo_c38 (G : wd_G) (d : Nat) (hd : 0 ≤ d) {out : Int32 × wd_Mem} (rec : Int32 → wd_Mem → Option (Int32 × wd_Mem)) (k : wd_Mem → Option (Int32 × wd_Mem)) (μ : wd_Mem) (x1 : Int32) (hrec : ∀ (x1 : Int32) (μ : wd_Mem), rec x1 μ = some out → wd_V G (d + 1) RX8 cX8_undo 2 (some .int) (fun r u => r = some (.inl out.1) ∧ u = out.2) 38 [some (.inr 31), some (.inl x1)] [] μ) (hk : ∀  (μ : wd_Mem), k μ = some out → wd_V G (d + 1) RX8 cX8_undo 2 (some .int) (fun r u => r = some (.inl out.1) ∧ u = out.2) 70 [some (.inr 31), none] [] μ) (h : X8_undo_c38 rec k μ x1 = some out) : wd_V G (d + 1) RX8 cX8_undo 2 (some .int) (fun r u => r = some (.inl out.1) ∧ u = out.2) 38 [some (.inr 31), some (.inl x1)] [] μ := by
  unfold X8_undo_c38 at h
  refine wv_iload_n (pc' := 39) (i := 1) (v := x1) dX8_undo_38 rfl rfl rfl ?_
  refine wv_bipush (pc' := 41) dX8_undo_39 bp_30 rfl ?_
  refine wv_icmp_ge (pc' := 44) (tgt := 70) dX8_undo_41 (by decide) rfl (fun c3 => ?_) (fun c3 => ?_)
  · have h := (if_pos c3).symm.trans h
    refine wv_weak (L' := [some (.inr 31), none]) ⟨rfl, trivial⟩ ?_
    exact hk _ h
  · have h := (if_neg c3).symm.trans h
    refine wv_aload_n (pc' := 45) (i := 0) (v := 31) dX8_undo_44 rfl rfl rfl ?_
    refine wv_gr (pc' := 48) g_X8_16_31 dX8_undo_45 rfl ?_
    refine wv_iload_n (pc' := 49) (i := 1) (v := x1) dX8_undo_48 rfl rfl rfl ?_
    refine wv_aload_n (pc' := 50) (i := 0) (v := 31) dX8_undo_49 rfl rfl rfl ?_
    refine wv_gr (pc' := 53) g_X8_19_31 dX8_undo_50 rfl ?_
    refine wv_bipush (pc' := 55) dX8_undo_53 bp_30 rfl ?_
    refine wv_aload_n (pc' := 56) (i := 0) (v := 31) dX8_undo_55 rfl rfl rfl ?_
    refine wv_gi (pc' := 59) g_X8_185_31 dX8_undo_56 rfl ?_
    refine wv_imul (pc' := 60) dX8_undo_59 rfl ?_
    refine wv_iload_n (pc' := 61) (i := 1) (v := x1) dX8_undo_60 rfl rfl rfl ?_
    refine wv_iadd (pc' := 62) dX8_undo_61 rfl ?_
    obtain ⟨g4, h⟩ := wd_chk_some h
    refine wv_iald (pc' := 63) sa_35 (wd_in_vp g4) dX8_undo_62 rfl ?_
    obtain ⟨g5, h⟩ := wd_chk_some h
    refine wv_iast (pc' := 64) sa_34 (wd_in_vp g5) dX8_undo_63 rfl ?_
    refine wv_inc (pc' := 67) (x := x1) (L' := [some (.inr 31), some (.inl (x1 + (1 : Int32)))]) dX8_undo_64 ic_1 rfl (by decide) rfl rfl ?_
    refine wv_goto (pc' := 38) dX8_undo_67 (by decide) ?_
    exact hrec _ _ h
set_option maxRecDepth 100000 in
set_option maxHeartbeats 4000000 in
theorem t_X8_undo_l38 (G : wd_G) (d : Nat) (hd : 0 ≤ d) {out : Int32 × wd_Mem} (k : wd_Mem → Option (Int32 × wd_Mem)) (hk : ∀  (μ : wd_Mem), k μ = some out → wd_V G (d + 1) RX8 cX8_undo 2 (some .int) (fun r u => r = some (.inl out.1) ∧ u = out.2) 70 [some (.inr 31), none] [] μ) : ∀ (n : Nat) (x1 : Int32) (μ : wd_Mem), X8_undo_l38 k n x1 μ = some out → wd_V G (d + 1) RX8 cX8_undo 2 (some .int) (fun r u => r = some (.inl out.1) ∧ u = out.2) 38 [some (.inr 31), some (.inl x1)] [] μ := by
  intro n
  induction n with
  | zero => intro x1 μ h; exact absurd h (by unfold X8_undo_l38; simp)
  | succ n ih =>
    intro x1 μ h
    exact t_X8_undo_c38 G d hd (X8_undo_l38 k n) k μ x1  (fun x1 μ h => ih x1 μ h) hk h
set_option maxRecDepth 100000 in
set_option maxHeartbeats 4000000 in
theorem t_X8_undo_b70 (G : wd_G) (d : Nat) (hd : 0 ≤ d) {out : Int32 × wd_Mem} (μ : wd_Mem)  (h : X8_undo_b70 μ = some out) : wd_V G (d + 1) RX8 cX8_undo 2 (some .int) (fun r u => r = some (.inl out.1) ∧ u = out.2) 70 [some (.inr 31), none] [] μ := by
  unfold X8_undo_b70 at h
  refine wv_aload_n (pc' := 71) (i := 0) (v := 31) dX8_undo_70 rfl rfl rfl ?_
  refine wv_gi (pc' := 74) g_X8_121_31 dX8_undo_71 rfl ?_
  exact wv_ireturn rfl dX8_undo_74 (wd_liv h)
set_option maxRecDepth 100000 in
set_option maxHeartbeats 4000000 in
theorem t_X8_undo_b0 (G : wd_G) (d : Nat) (hd : 0 ≤ d) {out : Int32 × wd_Mem} (μ : wd_Mem)  (h : X8_undo_b0 μ = some out) : wd_V G (d + 1) RX8 cX8_undo 2 (some .int) (fun r u => r = some (.inl out.1) ∧ u = out.2) 0 [some (.inr 31), none] [] μ := by
  unfold X8_undo_b0 at h
  refine wv_aload_n (pc' := 1) (i := 0) (v := 31) dX8_undo_0 rfl rfl rfl ?_
  refine wv_gi (pc' := 4) g_X8_121_31 dX8_undo_1 rfl ?_
  refine wv_if_ne (pc' := 7) (tgt := 10) dX8_undo_4 (by decide) rfl (fun c1 => ?_) (fun c1 => ?_)
  · have h := (if_neg c1).symm.trans h
    refine wv_aload_n (pc' := 11) (i := 0) (v := 31) dX8_undo_10 rfl rfl rfl ?_
    refine wv_aload_n (pc' := 12) (i := 0) (v := 31) dX8_undo_11 rfl rfl rfl ?_
    refine wv_gi (pc' := 15) g_X8_185_31 dX8_undo_12 rfl ?_
    refine wv_bipush (pc' := 17) dX8_undo_15 bp_10 rfl ?_
    refine wv_iadd (pc' := 18) dX8_undo_17 rfl ?_
    refine wv_iconst (pc' := 19) dX8_undo_18 ic_1 rfl ?_
    refine wv_isub (pc' := 20) dX8_undo_19 rfl ?_
    refine wv_bipush (pc' := 22) dX8_undo_20 bp_10 rfl ?_
    obtain ⟨g2, h⟩ := wd_chk_some h
    refine wv_irem (pc' := 23) dX8_undo_22 (wd_nz_ne g2) rfl ?_
    refine wv_pi (pc' := 26) p_X8_185_31 dX8_undo_23 rfl ?_
    refine wv_aload_n (pc' := 27) (i := 0) (v := 31) dX8_undo_26 rfl rfl rfl ?_
    refine wv_dup (pc' := 28) dX8_undo_27 rfl ?_
    refine wv_giE (pc' := 31) (v := (μ 31 5)) g_X8_121_31 dX8_undo_28 rfl rfl ?_
    refine wv_iconst (pc' := 32) dX8_undo_31 ic_1 rfl ?_
    refine wv_isub (pc' := 33) dX8_undo_32 rfl ?_
    refine wv_pi (pc' := 36) p_X8_121_31 dX8_undo_33 rfl ?_
    refine wv_iconst (pc' := 37) dX8_undo_36 ic_0 rfl ?_
    refine wv_istore_n (pc' := 38) (i := 1) (L' := [some (.inr 31), some (.inl (0 : Int32))]) dX8_undo_37 rfl (by decide) rfl rfl ?_
    exact t_X8_undo_l38 G d hd (fun μ => X8_undo_b70 μ)  (fun μ h => t_X8_undo_b70 G d hd μ  h) wd_big (0 : Int32) (mset (mset μ 31 6 ((((μ 31 6) + (10 : Int32)) - (1 : Int32)) - (((μ 31 6) + (10 : Int32)) - (1 : Int32)) / (10 : Int32) * (10 : Int32))) 31 5 ((μ 31 5) - (1 : Int32))) h
  · have h := (if_pos c1).symm.trans h
    refine wv_bipush (pc' := 9) dX8_undo_7 bp_m2 rfl ?_
    exact wv_ireturn rfl dX8_undo_9 (wd_liv h)
set_option maxRecDepth 100000 in
set_option maxHeartbeats 4000000 in
theorem c_X8_undo (G : wd_G) (d : Nat) (hd : 1 ≤ d) {μ : wd_Mem} {out : Int32 × wd_Mem}  (h : X8_undo μ = some out) : wd_C G d yX8_undo [.inr 31] μ (fun r u => r = some (.inl out.1) ∧ u = out.2) := by
  obtain ⟨d, rfl⟩ : ∃ e, d = e + 1 := ⟨d - 1, by omega⟩
  refine wd_enter mc_X8_undo (by decide) (by decide +kernel) rfl (Nat.le_of_ble_eq_true rfl) (L0 := [some (.inr 31), none]) rfl ?_
  exact t_X8_undo_b0 G d (by omega) μ  h
set_option maxRecDepth 100000 in
set_option maxHeartbeats 4000000 in
theorem t_X8_plain_c2 (G : wd_G) (d : Nat) (hd : 0 ≤ d) {out : wd_Mem} (rec : Int32 → wd_Mem → Option (wd_Mem)) (k : wd_Mem → Option (wd_Mem)) (μ : wd_Mem) (x1 : Int32) (hrec : ∀ (x1 : Int32) (μ : wd_Mem), rec x1 μ = some out → wd_V G (d + 1) RX8 cX8_plain 2 none (fun r u => r = none ∧ u = out) 2 [some (.inr 31), some (.inl x1)] [] μ) (hk : ∀  (μ : wd_Mem), k μ = some out → wd_V G (d + 1) RX8 cX8_plain 2 none (fun r u => r = none ∧ u = out) 28 [some (.inr 31), none] [] μ) (h : X8_plain_c2 rec k μ x1 = some out) : wd_V G (d + 1) RX8 cX8_plain 2 none (fun r u => r = none ∧ u = out) 2 [some (.inr 31), some (.inl x1)] [] μ := by
  unfold X8_plain_c2 at h
  refine wv_iload_n (pc' := 3) (i := 1) (v := x1) dX8_plain_2 rfl rfl rfl ?_
  refine wv_aload_n (pc' := 4) (i := 0) (v := 31) dX8_plain_3 rfl rfl rfl ?_
  refine wv_gi (pc' := 7) g_X8_118_31 dX8_plain_4 rfl ?_
  refine wv_icmp_ge (pc' := 10) (tgt := 28) dX8_plain_7 (by decide) rfl (fun c1 => ?_) (fun c1 => ?_)
  · have h := (if_pos c1).symm.trans h
    refine wv_weak (L' := [some (.inr 31), none]) ⟨rfl, trivial⟩ ?_
    exact hk _ h
  · have h := (if_neg c1).symm.trans h
    refine wv_aload_n (pc' := 11) (i := 0) (v := 31) dX8_plain_10 rfl rfl rfl ?_
    refine wv_gr (pc' := 14) g_X8_56_31 dX8_plain_11 rfl ?_
    refine wv_iload_n (pc' := 15) (i := 1) (v := x1) dX8_plain_14 rfl rfl rfl ?_
    refine wv_aload_n (pc' := 16) (i := 0) (v := 31) dX8_plain_15 rfl rfl rfl ?_
    refine wv_gr (pc' := 19) g_X8_13_31 dX8_plain_16 rfl ?_
    refine wv_iload_n (pc' := 20) (i := 1) (v := x1) dX8_plain_19 rfl rfl rfl ?_
    obtain ⟨g2, h⟩ := wd_chk_some h
    refine wv_iald (pc' := 21) sa_33 (wd_in_vp g2) dX8_plain_20 rfl ?_
    refine wv_iast (pc' := 22) sa_47 (wd_in_vp g2) dX8_plain_21 rfl ?_
    refine wv_inc (pc' := 25) (x := x1) (L' := [some (.inr 31), some (.inl (x1 + (1 : Int32)))]) dX8_plain_22 ic_1 rfl (by decide) rfl rfl ?_
    refine wv_goto (pc' := 2) dX8_plain_25 (by decide) ?_
    exact hrec _ _ h
set_option maxRecDepth 100000 in
set_option maxHeartbeats 4000000 in
theorem t_X8_plain_l2 (G : wd_G) (d : Nat) (hd : 0 ≤ d) {out : wd_Mem} (k : wd_Mem → Option (wd_Mem)) (hk : ∀  (μ : wd_Mem), k μ = some out → wd_V G (d + 1) RX8 cX8_plain 2 none (fun r u => r = none ∧ u = out) 28 [some (.inr 31), none] [] μ) : ∀ (n : Nat) (x1 : Int32) (μ : wd_Mem), X8_plain_l2 k n x1 μ = some out → wd_V G (d + 1) RX8 cX8_plain 2 none (fun r u => r = none ∧ u = out) 2 [some (.inr 31), some (.inl x1)] [] μ := by
  intro n
  induction n with
  | zero => intro x1 μ h; exact absurd h (by unfold X8_plain_l2; simp)
  | succ n ih =>
    intro x1 μ h
    exact t_X8_plain_c2 G d hd (X8_plain_l2 k n) k μ x1  (fun x1 μ h => ih x1 μ h) hk h
set_option maxRecDepth 100000 in
set_option maxHeartbeats 4000000 in
theorem t_X8_plain_b28 (G : wd_G) (d : Nat) (hd : 0 ≤ d) {out : wd_Mem} (μ : wd_Mem)  (h : X8_plain_b28 μ = some out) : wd_V G (d + 1) RX8 cX8_plain 2 none (fun r u => r = none ∧ u = out) 28 [some (.inr 31), none] [] μ := by
  unfold X8_plain_b28 at h
  exact wv_return rfl dX8_plain_28 (wd_lv h)
set_option maxRecDepth 100000 in
set_option maxHeartbeats 4000000 in
theorem t_X8_plain_b0 (G : wd_G) (d : Nat) (hd : 0 ≤ d) {out : wd_Mem} (μ : wd_Mem)  (h : X8_plain_b0 μ = some out) : wd_V G (d + 1) RX8 cX8_plain 2 none (fun r u => r = none ∧ u = out) 0 [some (.inr 31), none] [] μ := by
  unfold X8_plain_b0 at h
  refine wv_iconst (pc' := 1) dX8_plain_0 ic_0 rfl ?_
  refine wv_istore_n (pc' := 2) (i := 1) (L' := [some (.inr 31), some (.inl (0 : Int32))]) dX8_plain_1 rfl (by decide) rfl rfl ?_
  exact t_X8_plain_l2 G d hd (fun μ => X8_plain_b28 μ)  (fun μ h => t_X8_plain_b28 G d hd μ  h) wd_big (0 : Int32) μ h
set_option maxRecDepth 100000 in
set_option maxHeartbeats 4000000 in
theorem c_X8_plain (G : wd_G) (d : Nat) (hd : 1 ≤ d) {μ : wd_Mem} {out : wd_Mem}  (h : X8_plain μ = some out) : wd_C G d yX8_plain [.inr 31] μ (fun r u => r = none ∧ u = out) := by
  obtain ⟨d, rfl⟩ : ∃ e, d = e + 1 := ⟨d - 1, by omega⟩
  refine wd_enter mc_X8_plain (by decide) (by decide +kernel) rfl (Nat.le_of_ble_eq_true rfl) (L0 := [some (.inr 31), none]) rfl ?_
  exact t_X8_plain_b0 G d (by omega) μ  h
set_option maxRecDepth 100000 in
set_option maxHeartbeats 4000000 in
theorem t_X8_runs_c7 (G : wd_G) (d : Nat) (hd : 0 ≤ d) {out : wd_Mem} (rec : Int32 → wd_Mem → Option (wd_Mem)) (k : wd_Mem → Option (wd_Mem)) (μ : wd_Mem) (x1 x2 x3 : Int32) (hrec : ∀ (x3 : Int32) (μ : wd_Mem), rec x3 μ = some out → wd_V G (d + 1) RX8 cX8_runs 4 none (fun r u => r = none ∧ u = out) 7 [some (.inr 31), some (.inl x1), some (.inl x2), some (.inl x3)] [] μ) (hk : ∀  (μ : wd_Mem), k μ = some out → wd_V G (d + 1) RX8 cX8_runs 4 none (fun r u => r = none ∧ u = out) 47 [some (.inr 31), none, none, none] [] μ) (h : X8_runs_c7 rec k μ x1 x2 x3 = some out) : wd_V G (d + 1) RX8 cX8_runs 4 none (fun r u => r = none ∧ u = out) 7 [some (.inr 31), some (.inl x1), some (.inl x2), some (.inl x3)] [] μ := by
  unfold X8_runs_c7 at h
  refine wv_iload_n (pc' := 8) (i := 3) (v := x3) dX8_runs_7 rfl rfl rfl ?_
  refine wv_aload_n (pc' := 9) (i := 0) (v := 31) dX8_runs_8 rfl rfl rfl ?_
  refine wv_gr (pc' := 12) g_X8_50_31 dX8_runs_9 rfl ?_
  refine wv_iload_n (pc' := 13) (i := 1) (v := x1) dX8_runs_12 rfl rfl rfl ?_
  obtain ⟨g2, h⟩ := wd_chk_some h
  refine wv_iald (pc' := 14) sa_45 (wd_in_vp g2) dX8_runs_13 rfl ?_
  refine wv_aload_n (pc' := 15) (i := 0) (v := 31) dX8_runs_14 rfl rfl rfl ?_
  refine wv_gr (pc' := 18) g_X8_7_31 dX8_runs_15 rfl ?_
  refine wv_iload_n (pc' := 19) (i := 1) (v := x1) dX8_runs_18 rfl rfl rfl ?_
  refine wv_iald (pc' := 20) sa_32 (wd_in_vp g2) dX8_runs_19 rfl ?_
  refine wv_iadd (pc' := 21) dX8_runs_20 rfl ?_
  refine wv_icmp_ge (pc' := 24) (tgt := 47) dX8_runs_21 (by decide) rfl (fun c3 => ?_) (fun c3 => ?_)
  · have h := (if_pos c3).symm.trans h
    refine wv_weak (L' := [some (.inr 31), none, none, none]) ⟨rfl, trivial⟩ ?_
    exact hk _ h
  · have h := (if_neg c3).symm.trans h
    refine wv_aload_n (pc' := 25) (i := 0) (v := 31) dX8_runs_24 rfl rfl rfl ?_
    refine wv_gr (pc' := 28) g_X8_53_31 dX8_runs_25 rfl ?_
    refine wv_iload_n (pc' := 29) (i := 3) (v := x3) dX8_runs_28 rfl rfl rfl ?_
    refine wv_dup2 (pc' := 30) dX8_runs_29 rfl ?_
    obtain ⟨g4, h⟩ := wd_chk_some h
    refine wv_iald (pc' := 31) sa_46 (wd_in_vp g4) dX8_runs_30 rfl ?_
    refine wv_iload_n (pc' := 32) (i := 2) (v := x2) dX8_runs_31 rfl rfl rfl ?_
    refine wv_aload_n (pc' := 33) (i := 0) (v := 31) dX8_runs_32 rfl rfl rfl ?_
    refine wv_gr (pc' := 36) g_X8_56_31 dX8_runs_33 rfl ?_
    refine wv_iload_n (pc' := 37) (i := 1) (v := x1) dX8_runs_36 rfl rfl rfl ?_
    refine wv_iald (pc' := 38) sa_47 (wd_in_vp g2) dX8_runs_37 rfl ?_
    refine wv_imul (pc' := 39) dX8_runs_38 rfl ?_
    refine wv_iadd (pc' := 40) dX8_runs_39 rfl ?_
    refine wv_iast (pc' := 41) sa_46 (wd_in_vp g4) dX8_runs_40 rfl ?_
    refine wv_inc (pc' := 44) (x := x3) (L' := [some (.inr 31), some (.inl x1), some (.inl x2), some (.inl (x3 + (1 : Int32)))]) dX8_runs_41 ic_1 rfl (by decide) rfl rfl ?_
    refine wv_goto (pc' := 7) dX8_runs_44 (by decide) ?_
    exact hrec _ _ h
set_option maxRecDepth 100000 in
set_option maxHeartbeats 4000000 in
theorem t_X8_runs_l7 (G : wd_G) (d : Nat) (hd : 0 ≤ d) {out : wd_Mem} (k : wd_Mem → Option (wd_Mem)) (x1 x2 : Int32) (hk : ∀  (μ : wd_Mem), k μ = some out → wd_V G (d + 1) RX8 cX8_runs 4 none (fun r u => r = none ∧ u = out) 47 [some (.inr 31), none, none, none] [] μ) : ∀ (n : Nat) (x3 : Int32) (μ : wd_Mem), X8_runs_l7 k x1 x2 n x3 μ = some out → wd_V G (d + 1) RX8 cX8_runs 4 none (fun r u => r = none ∧ u = out) 7 [some (.inr 31), some (.inl x1), some (.inl x2), some (.inl x3)] [] μ := by
  intro n
  induction n with
  | zero => intro x3 μ h; exact absurd h (by unfold X8_runs_l7; simp)
  | succ n ih =>
    intro x3 μ h
    exact t_X8_runs_c7 G d hd (X8_runs_l7 k x1 x2 n) k μ x1 x2 x3  (fun x3 μ h => ih x3 μ h) hk h
set_option maxRecDepth 100000 in
set_option maxHeartbeats 4000000 in
theorem t_X8_runs_b47 (G : wd_G) (d : Nat) (hd : 0 ≤ d) {out : wd_Mem} (μ : wd_Mem)  (h : X8_runs_b47 μ = some out) : wd_V G (d + 1) RX8 cX8_runs 4 none (fun r u => r = none ∧ u = out) 47 [some (.inr 31), none, none, none] [] μ := by
  unfold X8_runs_b47 at h
  exact wv_return rfl dX8_runs_47 (wd_lv h)
set_option maxRecDepth 100000 in
set_option maxHeartbeats 4000000 in
theorem t_X8_runs_b0 (G : wd_G) (d : Nat) (hd : 0 ≤ d) {out : wd_Mem} (μ : wd_Mem) (x1 x2 : Int32)  (h : X8_runs_b0 μ x1 x2 = some out) : wd_V G (d + 1) RX8 cX8_runs 4 none (fun r u => r = none ∧ u = out) 0 [some (.inr 31), some (.inl x1), some (.inl x2), none] [] μ := by
  unfold X8_runs_b0 at h
  refine wv_aload_n (pc' := 1) (i := 0) (v := 31) dX8_runs_0 rfl rfl rfl ?_
  refine wv_gr (pc' := 4) g_X8_50_31 dX8_runs_1 rfl ?_
  refine wv_iload_n (pc' := 5) (i := 1) (v := x1) dX8_runs_4 rfl rfl rfl ?_
  obtain ⟨g1, h⟩ := wd_chk_some h
  refine wv_iald (pc' := 6) sa_45 (wd_in_vp g1) dX8_runs_5 rfl ?_
  refine wv_istore_n (pc' := 7) (i := 3) (L' := [some (.inr 31), some (.inl x1), some (.inl x2), some (.inl (μ 45 (Int32.toNatClampNeg x1)))]) dX8_runs_6 rfl (by decide) rfl rfl ?_
  exact t_X8_runs_l7 G d hd (fun μ => X8_runs_b47 μ) x1 x2  (fun μ h => t_X8_runs_b47 G d hd μ  h) wd_big (μ 45 (Int32.toNatClampNeg x1)) μ h
set_option maxRecDepth 100000 in
set_option maxHeartbeats 4000000 in
theorem c_X8_runs (G : wd_G) (d : Nat) (hd : 1 ≤ d) {μ : wd_Mem} {x1 x2 : Int32} {out : wd_Mem}  (h : X8_runs μ x1 x2 = some out) : wd_C G d yX8_runs [.inr 31, .inl x1, .inl x2] μ (fun r u => r = none ∧ u = out) := by
  obtain ⟨d, rfl⟩ : ∃ e, d = e + 1 := ⟨d - 1, by omega⟩
  refine wd_enter mc_X8_runs (by decide) (by decide +kernel) rfl (Nat.le_of_ble_eq_true rfl) (L0 := [some (.inr 31), some (.inl x1), some (.inl x2), none]) rfl ?_
  exact t_X8_runs_b0 G d (by omega) μ x1 x2 h
set_option maxRecDepth 100000 in
set_option maxHeartbeats 4000000 in
theorem t_X8_isRoom_b55 (G : wd_G) (d : Nat) (hd : 0 ≤ d) {out : Int32} (rec : Int32 → Int32 → Option (Int32)) (k : Int32 → Option (Int32)) (μ : wd_Mem) (x1 x3 s0 : Int32) (hrec : ∀ (x2 x3 : Int32), rec x2 x3 = some out → wd_V G (d + 1) RX8 cX8_isRoom 4 (some .boolean) (fun r u => r = some (.inl out) ∧ u = μ) 9 [some (.inr 31), some (.inl x1), some (.inl x2), some (.inl x3)] [] μ) (hk : ∀ (x2 : Int32), k x2 = some out → wd_V G (d + 1) RX8 cX8_isRoom 4 (some .boolean) (fun r u => r = some (.inl out) ∧ u = μ) 62 [some (.inr 31), none, some (.inl x2), none] [] μ) (h : X8_isRoom_b55 rec k μ x1 x3 s0 = some out) : wd_V G (d + 1) RX8 cX8_isRoom 4 (some .boolean) (fun r u => r = some (.inl out) ∧ u = μ) 55 [some (.inr 31), some (.inl x1), none, some (.inl x3)] [.inl s0] μ := by
  unfold X8_isRoom_b55 at h
  refine wv_istore_n (pc' := 56) (i := 2) (L' := [some (.inr 31), some (.inl x1), some (.inl s0), some (.inl x3)]) dX8_isRoom_55 rfl (by decide) rfl rfl ?_
  refine wv_inc (pc' := 59) (x := x3) (L' := [some (.inr 31), some (.inl x1), some (.inl s0), some (.inl (x3 + (1 : Int32)))]) dX8_isRoom_56 ic_1 rfl (by decide) rfl rfl ?_
  refine wv_goto (pc' := 9) dX8_isRoom_59 (by decide) ?_
  exact hrec _ _ h
set_option maxRecDepth 100000 in
set_option maxHeartbeats 4000000 in
theorem t_X8_isRoom_b54 (G : wd_G) (d : Nat) (hd : 0 ≤ d) {out : Int32} (rec : Int32 → Int32 → Option (Int32)) (k : Int32 → Option (Int32)) (μ : wd_Mem) (x1 x3 : Int32) (hrec : ∀ (x2 x3 : Int32), rec x2 x3 = some out → wd_V G (d + 1) RX8 cX8_isRoom 4 (some .boolean) (fun r u => r = some (.inl out) ∧ u = μ) 9 [some (.inr 31), some (.inl x1), some (.inl x2), some (.inl x3)] [] μ) (hk : ∀ (x2 : Int32), k x2 = some out → wd_V G (d + 1) RX8 cX8_isRoom 4 (some .boolean) (fun r u => r = some (.inl out) ∧ u = μ) 62 [some (.inr 31), none, some (.inl x2), none] [] μ) (h : X8_isRoom_b54 rec k μ x1 x3 = some out) : wd_V G (d + 1) RX8 cX8_isRoom 4 (some .boolean) (fun r u => r = some (.inl out) ∧ u = μ) 54 [some (.inr 31), some (.inl x1), none, some (.inl x3)] [] μ := by
  unfold X8_isRoom_b54 at h
  refine wv_iconst (pc' := 55) dX8_isRoom_54 ic_0 rfl ?_
  exact t_X8_isRoom_b55 G d hd rec k μ x1 x3 (0 : Int32) hrec hk h
set_option maxRecDepth 100000 in
set_option maxHeartbeats 4000000 in
theorem t_X8_isRoom_c9 (G : wd_G) (d : Nat) (hd : 0 ≤ d) {out : Int32} (rec : Int32 → Int32 → Option (Int32)) (k : Int32 → Option (Int32)) (μ : wd_Mem) (x1 x2 x3 : Int32) (hrec : ∀ (x2 x3 : Int32), rec x2 x3 = some out → wd_V G (d + 1) RX8 cX8_isRoom 4 (some .boolean) (fun r u => r = some (.inl out) ∧ u = μ) 9 [some (.inr 31), some (.inl x1), some (.inl x2), some (.inl x3)] [] μ) (hk : ∀ (x2 : Int32), k x2 = some out → wd_V G (d + 1) RX8 cX8_isRoom 4 (some .boolean) (fun r u => r = some (.inl out) ∧ u = μ) 62 [some (.inr 31), none, some (.inl x2), none] [] μ) (h : X8_isRoom_c9 rec k μ x1 x2 x3 = some out) : wd_V G (d + 1) RX8 cX8_isRoom 4 (some .boolean) (fun r u => r = some (.inl out) ∧ u = μ) 9 [some (.inr 31), some (.inl x1), some (.inl x2), some (.inl x3)] [] μ := by
  unfold X8_isRoom_c9 at h
  refine wv_iload_n (pc' := 10) (i := 3) (v := x3) dX8_isRoom_9 rfl rfl rfl ?_
  refine wv_aload_n (pc' := 11) (i := 0) (v := 31) dX8_isRoom_10 rfl rfl rfl ?_
  refine wv_gr (pc' := 14) g_X8_50_31 dX8_isRoom_11 rfl ?_
  refine wv_iload_n (pc' := 15) (i := 1) (v := x1) dX8_isRoom_14 rfl rfl rfl ?_
  obtain ⟨g2, h⟩ := wd_chk_some h
  refine wv_iald (pc' := 16) sa_45 (wd_in_vp g2) dX8_isRoom_15 rfl ?_
  refine wv_aload_n (pc' := 17) (i := 0) (v := 31) dX8_isRoom_16 rfl rfl rfl ?_
  refine wv_gr (pc' := 20) g_X8_7_31 dX8_isRoom_17 rfl ?_
  refine wv_iload_n (pc' := 21) (i := 1) (v := x1) dX8_isRoom_20 rfl rfl rfl ?_
  refine wv_iald (pc' := 22) sa_32 (wd_in_vp g2) dX8_isRoom_21 rfl ?_
  refine wv_iadd (pc' := 23) dX8_isRoom_22 rfl ?_
  refine wv_icmp_ge (pc' := 26) (tgt := 62) dX8_isRoom_23 (by decide) rfl (fun c3 => ?_) (fun c3 => ?_)
  · have h := (if_pos c3).symm.trans h
    refine wv_weak (L' := [some (.inr 31), none, some (.inl x2), none]) ⟨rfl, rfl, trivial⟩ ?_
    exact hk _ h
  · have h := (if_neg c3).symm.trans h
    refine wv_iload_n (pc' := 27) (i := 2) (v := x2) dX8_isRoom_26 rfl rfl rfl ?_
    refine wv_if_eq (pc' := 30) (tgt := 54) dX8_isRoom_27 (by decide) rfl (fun c4 => ?_) (fun c4 => ?_)
    · have h := (if_pos c4).symm.trans h
      refine wv_weak (L' := [some (.inr 31), some (.inl x1), none, some (.inl x3)]) ⟨rfl, rfl, rfl, trivial⟩ ?_
      exact t_X8_isRoom_b54 G d hd rec k μ x1 x3 hrec hk h
    · have h := (if_neg c4).symm.trans h
      refine wv_aload_n (pc' := 31) (i := 0) (v := 31) dX8_isRoom_30 rfl rfl rfl ?_
      refine wv_gr (pc' := 34) g_X8_53_31 dX8_isRoom_31 rfl ?_
      refine wv_iload_n (pc' := 35) (i := 3) (v := x3) dX8_isRoom_34 rfl rfl rfl ?_
      obtain ⟨g5, h⟩ := wd_chk_some h
      refine wv_iald (pc' := 36) sa_46 (wd_in_vp g5) dX8_isRoom_35 rfl ?_
      refine wv_aload_n (pc' := 37) (i := 0) (v := 31) dX8_isRoom_36 rfl rfl rfl ?_
      refine wv_gr (pc' := 40) g_X8_56_31 dX8_isRoom_37 rfl ?_
      refine wv_iload_n (pc' := 41) (i := 1) (v := x1) dX8_isRoom_40 rfl rfl rfl ?_
      refine wv_iald (pc' := 42) sa_47 (wd_in_vp g2) dX8_isRoom_41 rfl ?_
      refine wv_iadd (pc' := 43) dX8_isRoom_42 rfl ?_
      refine wv_aload_n (pc' := 44) (i := 0) (v := 31) dX8_isRoom_43 rfl rfl rfl ?_
      refine wv_gi (pc' := 47) g_X8_59_31 dX8_isRoom_44 rfl ?_
      refine wv_icmp_gt (pc' := 50) (tgt := 54) dX8_isRoom_47 (by decide) rfl (fun c6 => ?_) (fun c6 => ?_)
      · have h := (if_pos c6).symm.trans h
        refine wv_weak (L' := [some (.inr 31), some (.inl x1), none, some (.inl x3)]) ⟨rfl, rfl, rfl, trivial⟩ ?_
        exact t_X8_isRoom_b54 G d hd rec k μ x1 x3 hrec hk h
      · have h := (if_neg c6).symm.trans h
        refine wv_iconst (pc' := 51) dX8_isRoom_50 ic_1 rfl ?_
        refine wv_goto (pc' := 55) dX8_isRoom_51 (by decide) ?_
        refine wv_weak (L' := [some (.inr 31), some (.inl x1), none, some (.inl x3)]) ⟨rfl, rfl, rfl, trivial⟩ ?_
        exact t_X8_isRoom_b55 G d hd rec k μ x1 x3 (1 : Int32) hrec hk h
set_option maxRecDepth 100000 in
set_option maxHeartbeats 4000000 in
theorem t_X8_isRoom_l9 (G : wd_G) (d : Nat) (hd : 0 ≤ d) {out : Int32} (k : Int32 → Option (Int32)) (μ : wd_Mem) (x1 : Int32) (hk : ∀ (x2 : Int32), k x2 = some out → wd_V G (d + 1) RX8 cX8_isRoom 4 (some .boolean) (fun r u => r = some (.inl out) ∧ u = μ) 62 [some (.inr 31), none, some (.inl x2), none] [] μ) : ∀ (n : Nat) (x2 x3 : Int32), X8_isRoom_l9 k μ x1 n x2 x3 = some out → wd_V G (d + 1) RX8 cX8_isRoom 4 (some .boolean) (fun r u => r = some (.inl out) ∧ u = μ) 9 [some (.inr 31), some (.inl x1), some (.inl x2), some (.inl x3)] [] μ := by
  intro n
  induction n with
  | zero => intro x2 x3 h; exact absurd h (by unfold X8_isRoom_l9; simp)
  | succ n ih =>
    intro x2 x3 h
    exact t_X8_isRoom_c9 G d hd (X8_isRoom_l9 k μ x1 n) k μ x1 x2 x3  (fun x2 x3 h => ih x2 x3 h) hk h
set_option maxRecDepth 100000 in
set_option maxHeartbeats 4000000 in
theorem t_X8_isRoom_b62 (G : wd_G) (d : Nat) (hd : 0 ≤ d) {out : Int32} (μ : wd_Mem) (x2 : Int32)  (h : X8_isRoom_b62 μ x2 = some out) : wd_V G (d + 1) RX8 cX8_isRoom 4 (some .boolean) (fun r u => r = some (.inl out) ∧ u = μ) 62 [some (.inr 31), none, some (.inl x2), none] [] μ := by
  unfold X8_isRoom_b62 at h
  refine wv_iload_n (pc' := 63) (i := 2) (v := x2) dX8_isRoom_62 rfl rfl rfl ?_
  obtain ⟨g7, h⟩ := wd_chk_some h
  exact wv_zreturn rfl (wd_bit_ok g7) dX8_isRoom_63 (wd_li h)
set_option maxRecDepth 100000 in
set_option maxHeartbeats 4000000 in
theorem t_X8_isRoom_b0 (G : wd_G) (d : Nat) (hd : 0 ≤ d) {out : Int32} (μ : wd_Mem) (x1 : Int32)  (h : X8_isRoom_b0 μ x1 = some out) : wd_V G (d + 1) RX8 cX8_isRoom 4 (some .boolean) (fun r u => r = some (.inl out) ∧ u = μ) 0 [some (.inr 31), some (.inl x1), none, none] [] μ := by
  unfold X8_isRoom_b0 at h
  refine wv_iconst (pc' := 1) dX8_isRoom_0 ic_1 rfl ?_
  refine wv_istore_n (pc' := 2) (i := 2) (L' := [some (.inr 31), some (.inl x1), some (.inl (1 : Int32)), none]) dX8_isRoom_1 rfl (by decide) rfl rfl ?_
  refine wv_aload_n (pc' := 3) (i := 0) (v := 31) dX8_isRoom_2 rfl rfl rfl ?_
  refine wv_gr (pc' := 6) g_X8_50_31 dX8_isRoom_3 rfl ?_
  refine wv_iload_n (pc' := 7) (i := 1) (v := x1) dX8_isRoom_6 rfl rfl rfl ?_
  obtain ⟨g1, h⟩ := wd_chk_some h
  refine wv_iald (pc' := 8) sa_45 (wd_in_vp g1) dX8_isRoom_7 rfl ?_
  refine wv_istore_n (pc' := 9) (i := 3) (L' := [some (.inr 31), some (.inl x1), some (.inl (1 : Int32)), some (.inl (μ 45 (Int32.toNatClampNeg x1)))]) dX8_isRoom_8 rfl (by decide) rfl rfl ?_
  exact t_X8_isRoom_l9 G d hd (fun x2 => X8_isRoom_b62 μ x2) μ x1  (fun x2 h => t_X8_isRoom_b62 G d hd μ x2  h) wd_big (1 : Int32) (μ 45 (Int32.toNatClampNeg x1)) h
set_option maxRecDepth 100000 in
set_option maxHeartbeats 4000000 in
theorem c_X8_isRoom (G : wd_G) (d : Nat) (hd : 1 ≤ d) {μ : wd_Mem} {x1 : Int32} {out : Int32}  (h : X8_isRoom μ x1 = some out) : wd_C G d yX8_isRoom [.inr 31, .inl x1] μ (fun r u => r = some (.inl out) ∧ u = μ) := by
  obtain ⟨d, rfl⟩ : ∃ e, d = e + 1 := ⟨d - 1, by omega⟩
  refine wd_enter mc_X8_isRoom (by decide) (by decide +kernel) rfl (Nat.le_of_ble_eq_true rfl) (L0 := [some (.inr 31), some (.inl x1), none, none]) rfl ?_
  exact t_X8_isRoom_b0 G d (by omega) μ x1 h
set_option maxRecDepth 100000 in
set_option maxHeartbeats 4000000 in
theorem t_X8_schedules_c3 (G : wd_G) (d : Nat) (hd : 1 ≤ d) {out : Int32 × wd_Mem} (rec : Int32 → wd_Mem → Option (Int32 × wd_Mem)) (k : wd_Mem → Option (Int32 × wd_Mem)) (μ : wd_Mem) (x1 x2 x3 x4 x5 : Int32) (hrec : ∀ (x5 : Int32) (μ : wd_Mem), rec x5 μ = some out → wd_V G (d + 1) RX8 cX8_schedules 8 (some .int) (fun r u => r = some (.inl out.1) ∧ u = out.2) 3 [some (.inr 31), some (.inl x1), some (.inl x2), some (.inl x3), some (.inl x4), some (.inl x5), none, none] [] μ) (hk : ∀  (μ : wd_Mem), k μ = some out → wd_V G (d + 1) RX8 cX8_schedules 8 (some .int) (fun r u => r = some (.inl out.1) ∧ u = out.2) 24 [some (.inr 31), some (.inl x1), some (.inl x2), some (.inl x3), some (.inl x4), none, none, none] [] μ) (h : X8_schedules_c3 rec k μ x1 x2 x3 x4 x5 = some out) : wd_V G (d + 1) RX8 cX8_schedules 8 (some .int) (fun r u => r = some (.inl out.1) ∧ u = out.2) 3 [some (.inr 31), some (.inl x1), some (.inl x2), some (.inl x3), some (.inl x4), some (.inl x5), none, none] [] μ := by
  unfold X8_schedules_c3 at h
  refine wv_iload (pc' := 5) (v := x5) dX8_schedules_3 rfl rfl ?_
  refine wv_bipush (pc' := 7) dX8_schedules_5 bp_16 rfl ?_
  refine wv_icmp_ge (pc' := 10) (tgt := 24) dX8_schedules_7 (by decide) rfl (fun c1 => ?_) (fun c1 => ?_)
  · have h := (if_pos c1).symm.trans h
    refine wv_weak (L' := [some (.inr 31), some (.inl x1), some (.inl x2), some (.inl x3), some (.inl x4), none, none, none]) ⟨rfl, rfl, rfl, rfl, rfl, trivial⟩ ?_
    exact hk _ h
  · have h := (if_neg c1).symm.trans h
    refine wv_aload_n (pc' := 11) (i := 0) (v := 31) dX8_schedules_10 rfl rfl rfl ?_
    refine wv_gr (pc' := 14) g_X8_53_31 dX8_schedules_11 rfl ?_
    refine wv_iload (pc' := 16) (v := x5) dX8_schedules_14 rfl rfl ?_
    refine wv_iconst (pc' := 17) dX8_schedules_16 ic_0 rfl ?_
    obtain ⟨g2, h⟩ := wd_chk_some h
    refine wv_iast (pc' := 18) sa_46 (wd_in_vp g2) dX8_schedules_17 rfl ?_
    refine wv_inc (pc' := 21) (x := x5) (L' := [some (.inr 31), some (.inl x1), some (.inl x2), some (.inl x3), some (.inl x4), some (.inl (x5 + (1 : Int32))), none, none]) dX8_schedules_18 ic_1 rfl (by decide) rfl rfl ?_
    refine wv_goto (pc' := 3) dX8_schedules_21 (by decide) ?_
    exact hrec _ _ h
set_option maxRecDepth 100000 in
set_option maxHeartbeats 4000000 in
theorem t_X8_schedules_l3 (G : wd_G) (d : Nat) (hd : 1 ≤ d) {out : Int32 × wd_Mem} (k : wd_Mem → Option (Int32 × wd_Mem)) (x1 x2 x3 x4 : Int32) (hk : ∀  (μ : wd_Mem), k μ = some out → wd_V G (d + 1) RX8 cX8_schedules 8 (some .int) (fun r u => r = some (.inl out.1) ∧ u = out.2) 24 [some (.inr 31), some (.inl x1), some (.inl x2), some (.inl x3), some (.inl x4), none, none, none] [] μ) : ∀ (n : Nat) (x5 : Int32) (μ : wd_Mem), X8_schedules_l3 k x1 x2 x3 x4 n x5 μ = some out → wd_V G (d + 1) RX8 cX8_schedules 8 (some .int) (fun r u => r = some (.inl out.1) ∧ u = out.2) 3 [some (.inr 31), some (.inl x1), some (.inl x2), some (.inl x3), some (.inl x4), some (.inl x5), none, none] [] μ := by
  intro n
  induction n with
  | zero => intro x5 μ h; exact absurd h (by unfold X8_schedules_l3; simp)
  | succ n ih =>
    intro x5 μ h
    exact t_X8_schedules_c3 G d hd (X8_schedules_l3 k x1 x2 x3 x4 n) k μ x1 x2 x3 x4 x5  (fun x5 μ h => ih x5 μ h) hk h
set_option maxRecDepth 100000 in
set_option maxHeartbeats 4000000 in
theorem t_X8_schedules_b213 (G : wd_G) (d : Nat) (hd : 1 ≤ d) {out : Int32 × wd_Mem} (rec : Int32 → Int32 → wd_Mem → Option (Int32 × wd_Mem)) (k : Int32 → wd_Mem → Option (Int32 × wd_Mem)) (μ : wd_Mem) (x1 x2 x3 x4 x5 x6 : Int32) (hrec : ∀ (x5 x6 : Int32) (μ : wd_Mem), rec x5 x6 μ = some out → wd_V G (d + 1) RX8 cX8_schedules 8 (some .int) (fun r u => r = some (.inl out.1) ∧ u = out.2) 53 [some (.inr 31), some (.inl x1), some (.inl x2), some (.inl x3), some (.inl x4), some (.inl x5), some (.inl x6), none] [] μ) (hk : ∀ (x5 : Int32) (μ : wd_Mem), k x5 μ = some out → wd_V G (d + 1) RX8 cX8_schedules 8 (some .int) (fun r u => r = some (.inl out.1) ∧ u = out.2) 216 [some (.inr 31), none, none, none, none, some (.inl x5), none, none] [] μ) (h : X8_schedules_b213 rec k μ x1 x2 x3 x4 x5 x6 = some out) : wd_V G (d + 1) RX8 cX8_schedules 8 (some .int) (fun r u => r = some (.inl out.1) ∧ u = out.2) 213 [some (.inr 31), some (.inl x1), some (.inl x2), some (.inl x3), some (.inl x4), some (.inl x5), some (.inl x6), none] [] μ := by
  unfold X8_schedules_b213 at h
  refine wv_goto (pc' := 53) dX8_schedules_213 (by decide) ?_
  exact hrec _ _ _ h
set_option maxRecDepth 100000 in
set_option maxHeartbeats 4000000 in
theorem t_X8_schedules_b153 (G : wd_G) (d : Nat) (hd : 1 ≤ d) {out : Int32 × wd_Mem} (rec : Int32 → Int32 → wd_Mem → Option (Int32 × wd_Mem)) (k : Int32 → wd_Mem → Option (Int32 × wd_Mem)) (μ : wd_Mem) (x1 x2 x3 x4 x5 x6 : Int32) (hrec : ∀ (x5 x6 : Int32) (μ : wd_Mem), rec x5 x6 μ = some out → wd_V G (d + 1) RX8 cX8_schedules 8 (some .int) (fun r u => r = some (.inl out.1) ∧ u = out.2) 53 [some (.inr 31), some (.inl x1), some (.inl x2), some (.inl x3), some (.inl x4), some (.inl x5), some (.inl x6), none] [] μ) (hk : ∀ (x5 : Int32) (μ : wd_Mem), k x5 μ = some out → wd_V G (d + 1) RX8 cX8_schedules 8 (some .int) (fun r u => r = some (.inl out.1) ∧ u = out.2) 216 [some (.inr 31), none, none, none, none, some (.inl x5), none, none] [] μ) (h : X8_schedules_b153 rec k μ x1 x2 x3 x4 x5 x6 = some out) : wd_V G (d + 1) RX8 cX8_schedules 8 (some .int) (fun r u => r = some (.inl out.1) ∧ u = out.2) 153 [some (.inr 31), some (.inl x1), some (.inl x2), some (.inl x3), some (.inl x4), some (.inl x5), some (.inl x6), none] [] μ := by
  unfold X8_schedules_b153 at h
  refine wv_aload_n (pc' := 154) (i := 0) (v := 31) dX8_schedules_153 rfl rfl rfl ?_
  refine wv_iload (pc' := 156) (v := x6) dX8_schedules_154 rfl rfl ?_
  obtain ⟨r13, er13, h⟩ := wd_bind_some h
  refine wv_callVi (pc' := 159) (x := r13) (ν := μ) [.inl x6] ml_X8_207 rc_31 rfl (Nat.le_of_ble_eq_true rfl) dX8_schedules_156 rfl (c_X8_isRoom G d (Nat.le_trans (Nat.le_of_ble_eq_true rfl) hd)  er13) ?_
  refine wv_if_eq (pc' := 162) (tgt := 213) dX8_schedules_159 (by decide) rfl (fun c14 => ?_) (fun c14 => ?_)
  · have h := (if_pos c14).symm.trans h
    exact t_X8_schedules_b213 G d hd rec k μ x1 x2 x3 x4 x5 x6 hrec hk h
  · have h := (if_neg c14).symm.trans h
    refine wv_iload (pc' := 164) (v := x6) dX8_schedules_162 rfl rfl ?_
    refine wv_aload_n (pc' := 165) (i := 0) (v := 31) dX8_schedules_164 rfl rfl rfl ?_
    refine wv_gi (pc' := 168) g_X8_118_31 dX8_schedules_165 rfl ?_
    refine wv_iconst (pc' := 169) dX8_schedules_168 ic_1 rfl ?_
    refine wv_isub (pc' := 170) dX8_schedules_169 rfl ?_
    refine wv_icmp_ne (pc' := 173) (tgt := 185) dX8_schedules_170 (by decide) rfl (fun c15 => ?_) (fun c15 => ?_)
    · have h := (if_neg c15).symm.trans h
      refine wv_aload_n (pc' := 186) (i := 0) (v := 31) dX8_schedules_185 rfl rfl rfl ?_
      refine wv_iload (pc' := 188) (v := x6) dX8_schedules_186 rfl rfl ?_
      refine wv_iconst (pc' := 189) dX8_schedules_188 ic_1 rfl ?_
      obtain ⟨r16, er16, h⟩ := wd_bind_some h
      refine wv_callVv (pc' := 192) (ν := r16) [.inl x6, .inl (1 : Int32)] ml_X8_204 rc_31 rfl (Nat.le_of_ble_eq_true rfl) dX8_schedules_189 rfl (c_X8_runs G d (Nat.le_trans (Nat.le_of_ble_eq_true rfl) hd)  er16) ?_
      refine wv_inc (pc' := 195) (x := x6) (L' := [some (.inr 31), some (.inl x1), some (.inl x2), some (.inl x3), some (.inl x4), some (.inl x5), some (.inl (x6 + (1 : Int32))), none]) dX8_schedules_192 ic_1 rfl (by decide) rfl rfl ?_
      refine wv_aload_n (pc' := 196) (i := 0) (v := 31) dX8_schedules_195 rfl rfl rfl ?_
      refine wv_gr (pc' := 199) g_X8_50_31 dX8_schedules_196 rfl ?_
      refine wv_iload (pc' := 201) (v := (x6 + (1 : Int32))) dX8_schedules_199 rfl rfl ?_
      refine wv_aload_n (pc' := 202) (i := 0) (v := 31) dX8_schedules_201 rfl rfl rfl ?_
      refine wv_gr (pc' := 205) g_X8_16_31 dX8_schedules_202 rfl ?_
      refine wv_iconst (pc' := 206) dX8_schedules_205 ic_0 rfl ?_
      refine wv_iload (pc' := 208) (v := (x6 + (1 : Int32))) dX8_schedules_206 rfl rfl ?_
      refine wv_iadd (pc' := 209) dX8_schedules_208 rfl ?_
      obtain ⟨g17, h⟩ := wd_chk_some h
      refine wv_iald (pc' := 210) sa_34 (wd_in_vp g17) dX8_schedules_209 rfl ?_
      refine wv_iconst (pc' := 211) dX8_schedules_210 ic_1 rfl ?_
      refine wv_isub (pc' := 212) dX8_schedules_211 rfl ?_
      obtain ⟨g18, h⟩ := wd_chk_some h
      refine wv_iast (pc' := 213) sa_45 (wd_in_vp g18) dX8_schedules_212 rfl ?_
      exact t_X8_schedules_b213 G d hd rec k (mset r16 45 (Int32.toNatClampNeg (x6 + (1 : Int32))) ((r16 34 (Int32.toNatClampNeg ((0 : Int32) + (x6 + (1 : Int32))))) - (1 : Int32))) x1 x2 x3 x4 x5 (x6 + (1 : Int32)) hrec hk h
    · have h := (if_pos c15).symm.trans h
      refine wv_inc (pc' := 176) (x := x5) (L' := [some (.inr 31), some (.inl x1), some (.inl x2), some (.inl x3), some (.inl x4), some (.inl (x5 + (1 : Int32))), some (.inl x6), none]) dX8_schedules_173 ic_1 rfl (by decide) rfl rfl ?_
      refine wv_iload (pc' := 178) (v := (x5 + (1 : Int32))) dX8_schedules_176 rfl rfl ?_
      refine wv_iload_n (pc' := 179) (i := 1) (v := x1) dX8_schedules_178 rfl rfl rfl ?_
      refine wv_icmp_ne (pc' := 182) (tgt := 213) dX8_schedules_179 (by decide) rfl (fun c19 => ?_) (fun c19 => ?_)
      · have h := (if_neg c19).symm.trans h
        exact t_X8_schedules_b213 G d hd rec k μ x1 x2 x3 x4 (x5 + (1 : Int32)) x6 hrec hk h
      · have h := (if_pos c19).symm.trans h
        refine wv_iload (pc' := 184) (v := (x5 + (1 : Int32))) dX8_schedules_182 rfl rfl ?_
        exact wv_ireturn rfl dX8_schedules_184 (wd_liv h)
set_option maxRecDepth 100000 in
set_option maxHeartbeats 4000000 in
theorem t_X8_schedules_b95 (G : wd_G) (d : Nat) (hd : 1 ≤ d) {out : Int32 × wd_Mem} (rec : Int32 → Int32 → wd_Mem → Option (Int32 × wd_Mem)) (k : Int32 → wd_Mem → Option (Int32 × wd_Mem)) (μ : wd_Mem) (x1 x2 x3 x4 x5 x6 s0 : Int32) (hrec : ∀ (x5 x6 : Int32) (μ : wd_Mem), rec x5 x6 μ = some out → wd_V G (d + 1) RX8 cX8_schedules 8 (some .int) (fun r u => r = some (.inl out.1) ∧ u = out.2) 53 [some (.inr 31), some (.inl x1), some (.inl x2), some (.inl x3), some (.inl x4), some (.inl x5), some (.inl x6), none] [] μ) (hk : ∀ (x5 : Int32) (μ : wd_Mem), k x5 μ = some out → wd_V G (d + 1) RX8 cX8_schedules 8 (some .int) (fun r u => r = some (.inl out.1) ∧ u = out.2) 216 [some (.inr 31), none, none, none, none, some (.inl x5), none, none] [] μ) (h : X8_schedules_b95 rec k μ x1 x2 x3 x4 x5 x6 s0 = some out) : wd_V G (d + 1) RX8 cX8_schedules 8 (some .int) (fun r u => r = some (.inl out.1) ∧ u = out.2) 95 [some (.inr 31), some (.inl x1), some (.inl x2), some (.inl x3), some (.inl x4), some (.inl x5), some (.inl x6), none] [.inl s0] μ := by
  unfold X8_schedules_b95 at h
  refine wv_istore (pc' := 97) (L' := [some (.inr 31), some (.inl x1), some (.inl x2), some (.inl x3), some (.inl x4), some (.inl x5), some (.inl x6), some (.inl s0)]) dX8_schedules_95 (by decide) rfl rfl ?_
  refine wv_aload_n (pc' := 98) (i := 0) (v := 31) dX8_schedules_97 rfl rfl rfl ?_
  refine wv_gr (pc' := 101) g_X8_50_31 dX8_schedules_98 rfl ?_
  refine wv_iload (pc' := 103) (v := x6) dX8_schedules_101 rfl rfl ?_
  obtain ⟨g10, h⟩ := wd_chk_some h
  refine wv_iald (pc' := 104) sa_45 (wd_in_vp g10) dX8_schedules_103 rfl ?_
  refine wv_aload_n (pc' := 105) (i := 0) (v := 31) dX8_schedules_104 rfl rfl rfl ?_
  refine wv_gr (pc' := 108) g_X8_7_31 dX8_schedules_105 rfl ?_
  refine wv_iload (pc' := 110) (v := x6) dX8_schedules_108 rfl rfl ?_
  refine wv_iald (pc' := 111) sa_32 (wd_in_vp g10) dX8_schedules_110 rfl ?_
  refine wv_iadd (pc' := 112) dX8_schedules_111 rfl ?_
  refine wv_iload (pc' := 114) (v := s0) dX8_schedules_112 rfl rfl ?_
  refine wv_icmp_le (pc' := 117) (tgt := 135) dX8_schedules_114 (by decide) rfl (fun c11 => ?_) (fun c11 => ?_)
  · have h := (if_pos c11).symm.trans h
    refine wv_iload (pc' := 137) (v := x6) dX8_schedules_135 rfl rfl ?_
    refine wv_iload_n (pc' := 138) (i := 3) (v := x3) dX8_schedules_137 rfl rfl rfl ?_
    refine wv_icmp_ne (pc' := 141) (tgt := 153) dX8_schedules_138 (by decide) rfl (fun c12 => ?_) (fun c12 => ?_)
    · have h := (if_neg c12).symm.trans h
      refine wv_weak (L' := [some (.inr 31), some (.inl x1), some (.inl x2), some (.inl x3), some (.inl x4), some (.inl x5), some (.inl x6), none]) ⟨rfl, rfl, rfl, rfl, rfl, rfl, rfl, trivial⟩ ?_
      exact t_X8_schedules_b153 G d hd rec k μ x1 x2 x3 x4 x5 x6 hrec hk h
    · have h := (if_pos c12).symm.trans h
      refine wv_aload_n (pc' := 142) (i := 0) (v := 31) dX8_schedules_141 rfl rfl rfl ?_
      refine wv_gr (pc' := 145) g_X8_50_31 dX8_schedules_142 rfl ?_
      refine wv_iload (pc' := 147) (v := x6) dX8_schedules_145 rfl rfl ?_
      refine wv_iald (pc' := 148) sa_45 (wd_in_vp g10) dX8_schedules_147 rfl ?_
      refine wv_iload (pc' := 150) (v := x4) dX8_schedules_148 rfl rfl ?_
      refine wv_icmp_ne (pc' := 153) (tgt := 213) dX8_schedules_150 (by decide) rfl (fun c20 => ?_) (fun c20 => ?_)
      · have h := (if_neg c20).symm.trans h
        refine wv_weak (L' := [some (.inr 31), some (.inl x1), some (.inl x2), some (.inl x3), some (.inl x4), some (.inl x5), some (.inl x6), none]) ⟨rfl, rfl, rfl, rfl, rfl, rfl, rfl, trivial⟩ ?_
        exact t_X8_schedules_b213 G d hd rec k μ x1 x2 x3 x4 x5 x6 hrec hk h
      · have h := (if_pos c20).symm.trans h
        refine wv_weak (L' := [some (.inr 31), some (.inl x1), some (.inl x2), some (.inl x3), some (.inl x4), some (.inl x5), some (.inl x6), none]) ⟨rfl, rfl, rfl, rfl, rfl, rfl, rfl, trivial⟩ ?_
        exact t_X8_schedules_b153 G d hd rec k μ x1 x2 x3 x4 x5 x6 hrec hk h
  · have h := (if_neg c11).symm.trans h
    refine wv_inc (pc' := 120) (x := x6) (L' := [some (.inr 31), some (.inl x1), some (.inl x2), some (.inl x3), some (.inl x4), some (.inl x5), some (.inl (x6 + (-1 : Int32))), some (.inl s0)]) dX8_schedules_117 ic_m1 rfl (by decide) rfl rfl ?_
    refine wv_iload (pc' := 122) (v := (x6 + (-1 : Int32))) dX8_schedules_120 rfl rfl ?_
    refine wv_if_lt (pc' := 125) (tgt := 213) dX8_schedules_122 (by decide) rfl (fun c21 => ?_) (fun c21 => ?_)
    · have h := (if_pos c21).symm.trans h
      refine wv_weak (L' := [some (.inr 31), some (.inl x1), some (.inl x2), some (.inl x3), some (.inl x4), some (.inl x5), some (.inl (x6 + (-1 : Int32))), none]) ⟨rfl, rfl, rfl, rfl, rfl, rfl, rfl, trivial⟩ ?_
      exact t_X8_schedules_b213 G d hd rec k μ x1 x2 x3 x4 x5 (x6 + (-1 : Int32)) hrec hk h
    · have h := (if_neg c21).symm.trans h
      refine wv_aload_n (pc' := 126) (i := 0) (v := 31) dX8_schedules_125 rfl rfl rfl ?_
      refine wv_iload (pc' := 128) (v := (x6 + (-1 : Int32))) dX8_schedules_126 rfl rfl ?_
      refine wv_iconst (pc' := 129) dX8_schedules_128 ic_m1 rfl ?_
      obtain ⟨r22, er22, h⟩ := wd_bind_some h
      refine wv_callVv (pc' := 132) (ν := r22) [.inl (x6 + (-1 : Int32)), .inl (-1 : Int32)] ml_X8_204 rc_31 rfl (Nat.le_of_ble_eq_true rfl) dX8_schedules_129 rfl (c_X8_runs G d (Nat.le_trans (Nat.le_of_ble_eq_true rfl) hd)  er22) ?_
      refine wv_goto (pc' := 213) dX8_schedules_132 (by decide) ?_
      refine wv_weak (L' := [some (.inr 31), some (.inl x1), some (.inl x2), some (.inl x3), some (.inl x4), some (.inl x5), some (.inl (x6 + (-1 : Int32))), none]) ⟨rfl, rfl, rfl, rfl, rfl, rfl, rfl, trivial⟩ ?_
      exact t_X8_schedules_b213 G d hd rec k r22 x1 x2 x3 x4 x5 (x6 + (-1 : Int32)) hrec hk h
set_option maxRecDepth 100000 in
set_option maxHeartbeats 4000000 in
theorem t_X8_schedules_c53 (G : wd_G) (d : Nat) (hd : 1 ≤ d) {out : Int32 × wd_Mem} (rec : Int32 → Int32 → wd_Mem → Option (Int32 × wd_Mem)) (k : Int32 → wd_Mem → Option (Int32 × wd_Mem)) (μ : wd_Mem) (x1 x2 x3 x4 x5 x6 : Int32) (hrec : ∀ (x5 x6 : Int32) (μ : wd_Mem), rec x5 x6 μ = some out → wd_V G (d + 1) RX8 cX8_schedules 8 (some .int) (fun r u => r = some (.inl out.1) ∧ u = out.2) 53 [some (.inr 31), some (.inl x1), some (.inl x2), some (.inl x3), some (.inl x4), some (.inl x5), some (.inl x6), none] [] μ) (hk : ∀ (x5 : Int32) (μ : wd_Mem), k x5 μ = some out → wd_V G (d + 1) RX8 cX8_schedules 8 (some .int) (fun r u => r = some (.inl out.1) ∧ u = out.2) 216 [some (.inr 31), none, none, none, none, some (.inl x5), none, none] [] μ) (h : X8_schedules_c53 rec k μ x1 x2 x3 x4 x5 x6 = some out) : wd_V G (d + 1) RX8 cX8_schedules 8 (some .int) (fun r u => r = some (.inl out.1) ∧ u = out.2) 53 [some (.inr 31), some (.inl x1), some (.inl x2), some (.inl x3), some (.inl x4), some (.inl x5), some (.inl x6), none] [] μ := by
  unfold X8_schedules_c53 at h
  refine wv_iload (pc' := 55) (v := x6) dX8_schedules_53 rfl rfl ?_
  refine wv_if_lt (pc' := 58) (tgt := 216) dX8_schedules_55 (by decide) rfl (fun c6 => ?_) (fun c6 => ?_)
  · have h := (if_pos c6).symm.trans h
    refine wv_weak (L' := [some (.inr 31), none, none, none, none, some (.inl x5), none, none]) ⟨rfl, rfl, trivial⟩ ?_
    exact hk _ _ h
  · have h := (if_neg c6).symm.trans h
    refine wv_aload_n (pc' := 59) (i := 0) (v := 31) dX8_schedules_58 rfl rfl rfl ?_
    refine wv_gr (pc' := 62) g_X8_50_31 dX8_schedules_59 rfl ?_
    refine wv_iload (pc' := 64) (v := x6) dX8_schedules_62 rfl rfl ?_
    refine wv_dup2 (pc' := 65) dX8_schedules_64 rfl ?_
    obtain ⟨g7, h⟩ := wd_chk_some h
    refine wv_iald (pc' := 66) sa_45 (wd_in_vp g7) dX8_schedules_65 rfl ?_
    refine wv_iconst (pc' := 67) dX8_schedules_66 ic_1 rfl ?_
    refine wv_iadd (pc' := 68) dX8_schedules_67 rfl ?_
    refine wv_iast (pc' := 69) sa_45 (wd_in_vp g7) dX8_schedules_68 rfl ?_
    refine wv_aload_n (pc' := 70) (i := 0) (v := 31) dX8_schedules_69 rfl rfl rfl ?_
    refine wv_gr (pc' := 73) g_X8_16_31 dX8_schedules_70 rfl ?_
    refine wv_iconst (pc' := 74) dX8_schedules_73 ic_5 rfl ?_
    refine wv_iload (pc' := 76) (v := x6) dX8_schedules_74 rfl rfl ?_
    refine wv_iadd (pc' := 77) dX8_schedules_76 rfl ?_
    obtain ⟨g8, h⟩ := wd_chk_some h
    refine wv_ialdE (pc' := 78) (v := (μ 34 (Int32.toNatClampNeg ((5 : Int32) + x6)))) sa_34 (wd_in_vp g8) dX8_schedules_77 rfl rfl ?_
    refine wv_iload_n (pc' := 79) (i := 2) (v := x2) dX8_schedules_78 rfl rfl rfl ?_
    refine wv_icmp_ge (pc' := 82) (tgt := 94) dX8_schedules_79 (by decide) rfl (fun c9 => ?_) (fun c9 => ?_)
    · have h := (if_pos c9).symm.trans h
      refine wv_iload_n (pc' := 95) (i := 2) (v := x2) dX8_schedules_94 rfl rfl rfl ?_
      exact t_X8_schedules_b95 G d hd rec k (mset μ 45 (Int32.toNatClampNeg x6) ((μ 45 (Int32.toNatClampNeg x6)) + (1 : Int32))) x1 x2 x3 x4 x5 x6 x2 hrec hk h
    · have h := (if_neg c9).symm.trans h
      refine wv_aload_n (pc' := 83) (i := 0) (v := 31) dX8_schedules_82 rfl rfl rfl ?_
      refine wv_gr (pc' := 86) g_X8_16_31 dX8_schedules_83 rfl ?_
      refine wv_iconst (pc' := 87) dX8_schedules_86 ic_5 rfl ?_
      refine wv_iload (pc' := 89) (v := x6) dX8_schedules_87 rfl rfl ?_
      refine wv_iadd (pc' := 90) dX8_schedules_89 rfl ?_
      refine wv_ialdE (pc' := 91) (v := (μ 34 (Int32.toNatClampNeg ((5 : Int32) + x6)))) sa_34 (wd_in_vp g8) dX8_schedules_90 rfl rfl ?_
      refine wv_goto (pc' := 95) dX8_schedules_91 (by decide) ?_
      exact t_X8_schedules_b95 G d hd rec k (mset μ 45 (Int32.toNatClampNeg x6) ((μ 45 (Int32.toNatClampNeg x6)) + (1 : Int32))) x1 x2 x3 x4 x5 x6 (μ 34 (Int32.toNatClampNeg ((5 : Int32) + x6))) hrec hk h
set_option maxRecDepth 100000 in
set_option maxHeartbeats 4000000 in
theorem t_X8_schedules_l53 (G : wd_G) (d : Nat) (hd : 1 ≤ d) {out : Int32 × wd_Mem} (k : Int32 → wd_Mem → Option (Int32 × wd_Mem)) (x1 x2 x3 x4 : Int32) (hk : ∀ (x5 : Int32) (μ : wd_Mem), k x5 μ = some out → wd_V G (d + 1) RX8 cX8_schedules 8 (some .int) (fun r u => r = some (.inl out.1) ∧ u = out.2) 216 [some (.inr 31), none, none, none, none, some (.inl x5), none, none] [] μ) : ∀ (n : Nat) (x5 x6 : Int32) (μ : wd_Mem), X8_schedules_l53 k x1 x2 x3 x4 n x5 x6 μ = some out → wd_V G (d + 1) RX8 cX8_schedules 8 (some .int) (fun r u => r = some (.inl out.1) ∧ u = out.2) 53 [some (.inr 31), some (.inl x1), some (.inl x2), some (.inl x3), some (.inl x4), some (.inl x5), some (.inl x6), none] [] μ := by
  intro n
  induction n with
  | zero => intro x5 x6 μ h; exact absurd h (by unfold X8_schedules_l53; simp)
  | succ n ih =>
    intro x5 x6 μ h
    exact t_X8_schedules_c53 G d hd (X8_schedules_l53 k x1 x2 x3 x4 n) k μ x1 x2 x3 x4 x5 x6  (fun x5 x6 μ h => ih x5 x6 μ h) hk h
set_option maxRecDepth 100000 in
set_option maxHeartbeats 4000000 in
theorem t_X8_schedules_b216 (G : wd_G) (d : Nat) (hd : 1 ≤ d) {out : Int32 × wd_Mem} (μ : wd_Mem) (x5 : Int32)  (h : X8_schedules_b216 μ x5 = some out) : wd_V G (d + 1) RX8 cX8_schedules 8 (some .int) (fun r u => r = some (.inl out.1) ∧ u = out.2) 216 [some (.inr 31), none, none, none, none, some (.inl x5), none, none] [] μ := by
  unfold X8_schedules_b216 at h
  refine wv_iload (pc' := 218) (v := x5) dX8_schedules_216 rfl rfl ?_
  exact wv_ireturn rfl dX8_schedules_218 (wd_liv h)
set_option maxRecDepth 100000 in
set_option maxHeartbeats 4000000 in
theorem t_X8_schedules_b24 (G : wd_G) (d : Nat) (hd : 1 ≤ d) {out : Int32 × wd_Mem} (μ : wd_Mem) (x1 x2 x3 x4 : Int32)  (h : X8_schedules_b24 μ x1 x2 x3 x4 = some out) : wd_V G (d + 1) RX8 cX8_schedules 8 (some .int) (fun r u => r = some (.inl out.1) ∧ u = out.2) 24 [some (.inr 31), some (.inl x1), some (.inl x2), some (.inl x3), some (.inl x4), none, none, none] [] μ := by
  unfold X8_schedules_b24 at h
  refine wv_aload_n (pc' := 25) (i := 0) (v := 31) dX8_schedules_24 rfl rfl rfl ?_
  refine wv_gi (pc' := 28) g_X8_118_31 dX8_schedules_25 rfl ?_
  refine wv_if_ne (pc' := 31) (tgt := 33) dX8_schedules_28 (by decide) rfl (fun c3 => ?_) (fun c3 => ?_)
  · have h := (if_neg c3).symm.trans h
    refine wv_iconst (pc' := 34) dX8_schedules_33 ic_0 rfl ?_
    refine wv_istore (pc' := 36) (L' := [some (.inr 31), some (.inl x1), some (.inl x2), some (.inl x3), some (.inl x4), some (.inl (0 : Int32)), none, none]) dX8_schedules_34 (by decide) rfl rfl ?_
    refine wv_iconst (pc' := 37) dX8_schedules_36 ic_0 rfl ?_
    refine wv_istore (pc' := 39) (L' := [some (.inr 31), some (.inl x1), some (.inl x2), some (.inl x3), some (.inl x4), some (.inl (0 : Int32)), some (.inl (0 : Int32)), none]) dX8_schedules_37 (by decide) rfl rfl ?_
    refine wv_aload_n (pc' := 40) (i := 0) (v := 31) dX8_schedules_39 rfl rfl rfl ?_
    refine wv_gr (pc' := 43) g_X8_50_31 dX8_schedules_40 rfl ?_
    refine wv_iconst (pc' := 44) dX8_schedules_43 ic_0 rfl ?_
    refine wv_aload_n (pc' := 45) (i := 0) (v := 31) dX8_schedules_44 rfl rfl rfl ?_
    refine wv_gr (pc' := 48) g_X8_16_31 dX8_schedules_45 rfl ?_
    refine wv_iconst (pc' := 49) dX8_schedules_48 ic_0 rfl ?_
    obtain ⟨g4, h⟩ := wd_chk_some h
    refine wv_iald (pc' := 50) sa_34 (wd_in_vp g4) dX8_schedules_49 rfl ?_
    refine wv_iconst (pc' := 51) dX8_schedules_50 ic_1 rfl ?_
    refine wv_isub (pc' := 52) dX8_schedules_51 rfl ?_
    obtain ⟨g5, h⟩ := wd_chk_some h
    refine wv_iast (pc' := 53) sa_45 (wd_in_vp g5) dX8_schedules_52 rfl ?_
    exact t_X8_schedules_l53 G d hd (fun x5 μ => X8_schedules_b216 μ x5) x1 x2 x3 x4  (fun x5 μ h => t_X8_schedules_b216 G d hd μ x5  h) wd_big (0 : Int32) (0 : Int32) (mset μ 45 (Int32.toNatClampNeg (0 : Int32)) ((μ 34 (Int32.toNatClampNeg (0 : Int32))) - (1 : Int32))) h
  · have h := (if_pos c3).symm.trans h
    refine wv_iconst (pc' := 32) dX8_schedules_31 ic_1 rfl ?_
    exact wv_ireturn rfl dX8_schedules_32 (wd_liv h)
set_option maxRecDepth 100000 in
set_option maxHeartbeats 4000000 in
theorem t_X8_schedules_b0 (G : wd_G) (d : Nat) (hd : 1 ≤ d) {out : Int32 × wd_Mem} (μ : wd_Mem) (x1 x2 x3 x4 : Int32)  (h : X8_schedules_b0 μ x1 x2 x3 x4 = some out) : wd_V G (d + 1) RX8 cX8_schedules 8 (some .int) (fun r u => r = some (.inl out.1) ∧ u = out.2) 0 [some (.inr 31), some (.inl x1), some (.inl x2), some (.inl x3), some (.inl x4), none, none, none] [] μ := by
  unfold X8_schedules_b0 at h
  refine wv_iconst (pc' := 1) dX8_schedules_0 ic_0 rfl ?_
  refine wv_istore (pc' := 3) (L' := [some (.inr 31), some (.inl x1), some (.inl x2), some (.inl x3), some (.inl x4), some (.inl (0 : Int32)), none, none]) dX8_schedules_1 (by decide) rfl rfl ?_
  exact t_X8_schedules_l3 G d hd (fun μ => X8_schedules_b24 μ x1 x2 x3 x4) x1 x2 x3 x4  (fun μ h => t_X8_schedules_b24 G d hd μ x1 x2 x3 x4  h) wd_big (0 : Int32) μ h
set_option maxRecDepth 100000 in
set_option maxHeartbeats 4000000 in
theorem c_X8_schedules (G : wd_G) (d : Nat) (hd : 2 ≤ d) {μ : wd_Mem} {x1 x2 x3 x4 : Int32} {out : Int32 × wd_Mem}  (h : X8_schedules μ x1 x2 x3 x4 = some out) : wd_C G d yX8_schedules [.inr 31, .inl x1, .inl x2, .inl x3, .inl x4] μ (fun r u => r = some (.inl out.1) ∧ u = out.2) := by
  obtain ⟨d, rfl⟩ : ∃ e, d = e + 1 := ⟨d - 1, by omega⟩
  refine wd_enter mc_X8_schedules (by decide) (by decide +kernel) rfl (Nat.le_of_ble_eq_true rfl) (L0 := [some (.inr 31), some (.inl x1), some (.inl x2), some (.inl x3), some (.inl x4), none, none, none]) rfl ?_
  exact t_X8_schedules_b0 G d (by omega) μ x1 x2 x3 x4 h
set_option maxRecDepth 100000 in
set_option maxHeartbeats 4000000 in
theorem t_X8_belong_b54 (G : wd_G) (d : Nat) (hd : 2 ≤ d) {out : Int32 × wd_Mem} (rec : Int32 → Int32 → wd_Mem → Option (Int32 × wd_Mem)) (k : Int32 → wd_Mem → Option (Int32 × wd_Mem)) (μ : wd_Mem) (x1 x3 s0 s1 : Int32) (hrec : ∀ (x2 x3 : Int32) (μ : wd_Mem), rec x2 x3 μ = some out → wd_V G (d + 1) RX8 cX8_belong 4 (some .int) (fun r u => r = some (.inl out.1) ∧ u = out.2) 15 [some (.inr 31), some (.inl x1), some (.inl x2), some (.inl x3)] [] μ) (hk : ∀ (x2 : Int32) (μ : wd_Mem), k x2 μ = some out → wd_V G (d + 1) RX8 cX8_belong 4 (some .int) (fun r u => r = some (.inl out.1) ∧ u = out.2) 62 [some (.inr 31), none, some (.inl x2), none] [] μ) (h : X8_belong_b54 rec k μ x1 x3 s0 s1 = some out) : wd_V G (d + 1) RX8 cX8_belong 4 (some .int) (fun r u => r = some (.inl out.1) ∧ u = out.2) 54 [some (.inr 31), some (.inl x1), none, some (.inl x3)] [.inl s1, .inl s0] μ := by
  unfold X8_belong_b54 at h
  refine wv_ior (pc' := 55) dX8_belong_54 rfl ?_
  refine wv_istore_n (pc' := 56) (i := 2) (L' := [some (.inr 31), some (.inl x1), some (.inl (s0 ||| s1)), some (.inl x3)]) dX8_belong_55 rfl (by decide) rfl rfl ?_
  refine wv_inc (pc' := 59) (x := x3) (L' := [some (.inr 31), some (.inl x1), some (.inl (s0 ||| s1)), some (.inl (x3 + (1 : Int32)))]) dX8_belong_56 ic_1 rfl (by decide) rfl rfl ?_
  refine wv_goto (pc' := 15) dX8_belong_59 (by decide) ?_
  exact hrec _ _ _ h
set_option maxRecDepth 100000 in
set_option maxHeartbeats 4000000 in
theorem t_X8_belong_c15 (G : wd_G) (d : Nat) (hd : 2 ≤ d) {out : Int32 × wd_Mem} (rec : Int32 → Int32 → wd_Mem → Option (Int32 × wd_Mem)) (k : Int32 → wd_Mem → Option (Int32 × wd_Mem)) (μ : wd_Mem) (x1 x2 x3 : Int32) (hrec : ∀ (x2 x3 : Int32) (μ : wd_Mem), rec x2 x3 μ = some out → wd_V G (d + 1) RX8 cX8_belong 4 (some .int) (fun r u => r = some (.inl out.1) ∧ u = out.2) 15 [some (.inr 31), some (.inl x1), some (.inl x2), some (.inl x3)] [] μ) (hk : ∀ (x2 : Int32) (μ : wd_Mem), k x2 μ = some out → wd_V G (d + 1) RX8 cX8_belong 4 (some .int) (fun r u => r = some (.inl out.1) ∧ u = out.2) 62 [some (.inr 31), none, some (.inl x2), none] [] μ) (h : X8_belong_c15 rec k μ x1 x2 x3 = some out) : wd_V G (d + 1) RX8 cX8_belong 4 (some .int) (fun r u => r = some (.inl out.1) ∧ u = out.2) 15 [some (.inr 31), some (.inl x1), some (.inl x2), some (.inl x3)] [] μ := by
  unfold X8_belong_c15 at h
  refine wv_iload_n (pc' := 16) (i := 3) (v := x3) dX8_belong_15 rfl rfl rfl ?_
  refine wv_aload_n (pc' := 17) (i := 0) (v := 31) dX8_belong_16 rfl rfl rfl ?_
  refine wv_gr (pc' := 20) g_X8_7_31 dX8_belong_17 rfl ?_
  refine wv_iload_n (pc' := 21) (i := 1) (v := x1) dX8_belong_20 rfl rfl rfl ?_
  obtain ⟨g3, h⟩ := wd_chk_some h
  refine wv_iald (pc' := 22) sa_32 (wd_in_vp g3) dX8_belong_21 rfl ?_
  refine wv_iadd (pc' := 23) dX8_belong_22 rfl ?_
  refine wv_aload_n (pc' := 24) (i := 0) (v := 31) dX8_belong_23 rfl rfl rfl ?_
  refine wv_gr (pc' := 27) g_X8_16_31 dX8_belong_24 rfl ?_
  refine wv_iconst (pc' := 28) dX8_belong_27 ic_5 rfl ?_
  refine wv_iload_n (pc' := 29) (i := 1) (v := x1) dX8_belong_28 rfl rfl rfl ?_
  refine wv_iadd (pc' := 30) dX8_belong_29 rfl ?_
  obtain ⟨g4, h⟩ := wd_chk_some h
  refine wv_iald (pc' := 31) sa_34 (wd_in_vp g4) dX8_belong_30 rfl ?_
  refine wv_icmp_gt (pc' := 34) (tgt := 62) dX8_belong_31 (by decide) rfl (fun c5 => ?_) (fun c5 => ?_)
  · have h := (if_pos c5).symm.trans h
    refine wv_weak (L' := [some (.inr 31), none, some (.inl x2), none]) ⟨rfl, rfl, trivial⟩ ?_
    exact hk _ _ h
  · have h := (if_neg c5).symm.trans h
    refine wv_iload_n (pc' := 35) (i := 2) (v := x2) dX8_belong_34 rfl rfl rfl ?_
    refine wv_aload_n (pc' := 36) (i := 0) (v := 31) dX8_belong_35 rfl rfl rfl ?_
    refine wv_iconst (pc' := 37) dX8_belong_36 ic_1 rfl ?_
    refine wv_bipush (pc' := 39) dX8_belong_37 bp_16 rfl ?_
    refine wv_iload_n (pc' := 40) (i := 1) (v := x1) dX8_belong_39 rfl rfl rfl ?_
    refine wv_iload_n (pc' := 41) (i := 3) (v := x3) dX8_belong_40 rfl rfl rfl ?_
    obtain ⟨r6, er6, h⟩ := wd_bind_some h
    refine wv_callVi (pc' := 44) (x := r6.1) (ν := r6.2) [.inl (1 : Int32), .inl (16 : Int32), .inl x1, .inl x3] ml_X8_213 rc_31 rfl (Nat.le_of_ble_eq_true rfl) dX8_belong_41 rfl (c_X8_schedules G d (Nat.le_trans (Nat.le_of_ble_eq_true rfl) hd)  er6) ?_
    refine wv_if_le (pc' := 47) (tgt := 53) dX8_belong_44 (by decide) rfl (fun c7 => ?_) (fun c7 => ?_)
    · have h := (if_pos c7).symm.trans h
      refine wv_iconst (pc' := 54) dX8_belong_53 ic_0 rfl ?_
      refine wv_weak (L' := [some (.inr 31), some (.inl x1), none, some (.inl x3)]) ⟨rfl, rfl, rfl, trivial⟩ ?_
      exact t_X8_belong_b54 G d hd rec k r6.2 x1 x3 x2 (0 : Int32) hrec hk h
    · have h := (if_neg c7).symm.trans h
      refine wv_iconst (pc' := 48) dX8_belong_47 ic_1 rfl ?_
      refine wv_iload_n (pc' := 49) (i := 3) (v := x3) dX8_belong_48 rfl rfl rfl ?_
      refine wv_ishl (pc' := 50) dX8_belong_49 rfl ?_
      refine wv_goto (pc' := 54) dX8_belong_50 (by decide) ?_
      refine wv_weak (L' := [some (.inr 31), some (.inl x1), none, some (.inl x3)]) ⟨rfl, rfl, rfl, trivial⟩ ?_
      exact t_X8_belong_b54 G d hd rec k r6.2 x1 x3 x2 ((1 : Int32) <<< (x3 &&& 31)) hrec hk h
set_option maxRecDepth 100000 in
set_option maxHeartbeats 4000000 in
theorem t_X8_belong_l15 (G : wd_G) (d : Nat) (hd : 2 ≤ d) {out : Int32 × wd_Mem} (k : Int32 → wd_Mem → Option (Int32 × wd_Mem)) (x1 : Int32) (hk : ∀ (x2 : Int32) (μ : wd_Mem), k x2 μ = some out → wd_V G (d + 1) RX8 cX8_belong 4 (some .int) (fun r u => r = some (.inl out.1) ∧ u = out.2) 62 [some (.inr 31), none, some (.inl x2), none] [] μ) : ∀ (n : Nat) (x2 x3 : Int32) (μ : wd_Mem), X8_belong_l15 k x1 n x2 x3 μ = some out → wd_V G (d + 1) RX8 cX8_belong 4 (some .int) (fun r u => r = some (.inl out.1) ∧ u = out.2) 15 [some (.inr 31), some (.inl x1), some (.inl x2), some (.inl x3)] [] μ := by
  intro n
  induction n with
  | zero => intro x2 x3 μ h; exact absurd h (by unfold X8_belong_l15; simp)
  | succ n ih =>
    intro x2 x3 μ h
    exact t_X8_belong_c15 G d hd (X8_belong_l15 k x1 n) k μ x1 x2 x3  (fun x2 x3 μ h => ih x2 x3 μ h) hk h
set_option maxRecDepth 100000 in
set_option maxHeartbeats 4000000 in
theorem t_X8_belong_b62 (G : wd_G) (d : Nat) (hd : 2 ≤ d) {out : Int32 × wd_Mem} (μ : wd_Mem) (x2 : Int32)  (h : X8_belong_b62 μ x2 = some out) : wd_V G (d + 1) RX8 cX8_belong 4 (some .int) (fun r u => r = some (.inl out.1) ∧ u = out.2) 62 [some (.inr 31), none, some (.inl x2), none] [] μ := by
  unfold X8_belong_b62 at h
  refine wv_iload_n (pc' := 63) (i := 2) (v := x2) dX8_belong_62 rfl rfl rfl ?_
  exact wv_ireturn rfl dX8_belong_63 (wd_liv h)
set_option maxRecDepth 100000 in
set_option maxHeartbeats 4000000 in
theorem t_X8_belong_b0 (G : wd_G) (d : Nat) (hd : 2 ≤ d) {out : Int32 × wd_Mem} (μ : wd_Mem) (x1 : Int32)  (h : X8_belong_b0 μ x1 = some out) : wd_V G (d + 1) RX8 cX8_belong 4 (some .int) (fun r u => r = some (.inl out.1) ∧ u = out.2) 0 [some (.inr 31), some (.inl x1), none, none] [] μ := by
  unfold X8_belong_b0 at h
  refine wv_aload_n (pc' := 1) (i := 0) (v := 31) dX8_belong_0 rfl rfl rfl ?_
  obtain ⟨r1, er1, h⟩ := wd_bind_some h
  refine wv_callVv (pc' := 4) (ν := r1) [] ml_X8_210 rc_31 rfl (Nat.le_of_ble_eq_true rfl) dX8_belong_1 rfl (c_X8_plain G d (Nat.le_trans (Nat.le_of_ble_eq_true rfl) hd)  er1) ?_
  refine wv_iconst (pc' := 5) dX8_belong_4 ic_0 rfl ?_
  refine wv_istore_n (pc' := 6) (i := 2) (L' := [some (.inr 31), some (.inl x1), some (.inl (0 : Int32)), none]) dX8_belong_5 rfl (by decide) rfl rfl ?_
  refine wv_aload_n (pc' := 7) (i := 0) (v := 31) dX8_belong_6 rfl rfl rfl ?_
  refine wv_gr (pc' := 10) g_X8_16_31 dX8_belong_7 rfl ?_
  refine wv_iconst (pc' := 11) dX8_belong_10 ic_0 rfl ?_
  refine wv_iload_n (pc' := 12) (i := 1) (v := x1) dX8_belong_11 rfl rfl rfl ?_
  refine wv_iadd (pc' := 13) dX8_belong_12 rfl ?_
  obtain ⟨g2, h⟩ := wd_chk_some h
  refine wv_iald (pc' := 14) sa_34 (wd_in_vp g2) dX8_belong_13 rfl ?_
  refine wv_istore_n (pc' := 15) (i := 3) (L' := [some (.inr 31), some (.inl x1), some (.inl (0 : Int32)), some (.inl (r1 34 (Int32.toNatClampNeg ((0 : Int32) + x1))))]) dX8_belong_14 rfl (by decide) rfl rfl ?_
  exact t_X8_belong_l15 G d hd (fun x2 μ => X8_belong_b62 μ x2) x1  (fun x2 μ h => t_X8_belong_b62 G d hd μ x2  h) wd_big (0 : Int32) (r1 34 (Int32.toNatClampNeg ((0 : Int32) + x1))) r1 h
set_option maxRecDepth 100000 in
set_option maxHeartbeats 4000000 in
theorem c_X8_belong (G : wd_G) (d : Nat) (hd : 3 ≤ d) {μ : wd_Mem} {x1 : Int32} {out : Int32 × wd_Mem}  (h : X8_belong μ x1 = some out) : wd_C G d yX8_belong [.inr 31, .inl x1] μ (fun r u => r = some (.inl out.1) ∧ u = out.2) := by
  obtain ⟨d, rfl⟩ : ∃ e, d = e + 1 := ⟨d - 1, by omega⟩
  refine wd_enter mc_X8_belong (by decide) (by decide +kernel) rfl (Nat.le_of_ble_eq_true rfl) (L0 := [some (.inr 31), some (.inl x1), none, none]) rfl ?_
  exact t_X8_belong_b0 G d (by omega) μ x1 h
set_option maxRecDepth 100000 in
set_option maxHeartbeats 4000000 in
theorem t_X8_firstOf_b0 (G : wd_G) (d : Nat) (hd : 2 ≤ d) {out : Int32 × wd_Mem} (μ : wd_Mem) (x1 : Int32)  (h : X8_firstOf_b0 μ x1 = some out) : wd_V G (d + 1) RX8 cX8_firstOf 2 (some .int) (fun r u => r = some (.inl out.1) ∧ u = out.2) 0 [some (.inr 31), some (.inl x1)] [] μ := by
  unfold X8_firstOf_b0 at h
  refine wv_aload_n (pc' := 1) (i := 0) (v := 31) dX8_firstOf_0 rfl rfl rfl ?_
  obtain ⟨r1, er1, h⟩ := wd_bind_some h
  refine wv_callVv (pc' := 4) (ν := r1) [] ml_X8_210 rc_31 rfl (Nat.le_of_ble_eq_true rfl) dX8_firstOf_1 rfl (c_X8_plain G d (Nat.le_trans (Nat.le_of_ble_eq_true rfl) hd)  er1) ?_
  refine wv_aload_n (pc' := 5) (i := 0) (v := 31) dX8_firstOf_4 rfl rfl rfl ?_
  refine wv_iconst (pc' := 6) dX8_firstOf_5 ic_1 rfl ?_
  refine wv_bipush (pc' := 8) dX8_firstOf_6 bp_16 rfl ?_
  refine wv_bipush (pc' := 10) dX8_firstOf_8 bp_m9 rfl ?_
  refine wv_iconst (pc' := 11) dX8_firstOf_10 ic_0 rfl ?_
  obtain ⟨r2, er2, h⟩ := wd_bind_some h
  refine wv_callVi (pc' := 14) (x := r2.1) (ν := r2.2) [.inl (1 : Int32), .inl (16 : Int32), .inl (-9 : Int32), .inl (0 : Int32)] ml_X8_213 rc_31 rfl (Nat.le_of_ble_eq_true rfl) dX8_firstOf_11 rfl (c_X8_schedules G d (Nat.le_trans (Nat.le_of_ble_eq_true rfl) hd)  er2) ?_
  refine wv_if_le (pc' := 17) (tgt := 26) dX8_firstOf_14 (by decide) rfl (fun c3 => ?_) (fun c3 => ?_)
  · have h := (if_pos c3).symm.trans h
    refine wv_bipush (pc' := 28) dX8_firstOf_26 bp_m9 rfl ?_
    exact wv_ireturn rfl dX8_firstOf_28 (wd_liv h)
  · have h := (if_neg c3).symm.trans h
    refine wv_aload_n (pc' := 18) (i := 0) (v := 31) dX8_firstOf_17 rfl rfl rfl ?_
    refine wv_gr (pc' := 21) g_X8_50_31 dX8_firstOf_18 rfl ?_
    refine wv_iload_n (pc' := 22) (i := 1) (v := x1) dX8_firstOf_21 rfl rfl rfl ?_
    obtain ⟨g4, h⟩ := wd_chk_some h
    refine wv_iald (pc' := 23) sa_45 (wd_in_vp g4) dX8_firstOf_22 rfl ?_
    refine wv_goto (pc' := 28) dX8_firstOf_23 (by decide) ?_
    exact wv_ireturn rfl dX8_firstOf_28 (wd_liv h)
set_option maxRecDepth 100000 in
set_option maxHeartbeats 4000000 in
theorem c_X8_firstOf (G : wd_G) (d : Nat) (hd : 3 ≤ d) {μ : wd_Mem} {x1 : Int32} {out : Int32 × wd_Mem}  (h : X8_firstOf μ x1 = some out) : wd_C G d yX8_firstOf [.inr 31, .inl x1] μ (fun r u => r = some (.inl out.1) ∧ u = out.2) := by
  obtain ⟨d, rfl⟩ : ∃ e, d = e + 1 := ⟨d - 1, by omega⟩
  refine wd_enter mc_X8_firstOf (by decide) (by decide +kernel) rfl (Nat.le_of_ble_eq_true rfl) (L0 := [some (.inr 31), some (.inl x1)]) rfl ?_
  exact t_X8_firstOf_b0 G d (by omega) μ x1 h
set_option maxRecDepth 100000 in
set_option maxHeartbeats 4000000 in
theorem t_X8_task_b17 (G : wd_G) (d : Nat) (hd : 3 ≤ d) {out : Int32 × wd_Mem} (μ : wd_Mem)  (h : X8_task_b17 μ = some out) : wd_V G (d + 1) RX8 cX8_task 3 (some .int) (fun r u => r = some (.inl out.1) ∧ u = out.2) 17 [some (.inr 31), none, none] [] μ := by
  unfold X8_task_b17 at h
  refine wv_iconst (pc' := 18) dX8_task_17 ic_m1 rfl ?_
  exact wv_ireturn rfl dX8_task_18 (wd_liv h)
set_option maxRecDepth 100000 in
set_option maxHeartbeats 4000000 in
theorem t_X8_task_b0 (G : wd_G) (d : Nat) (hd : 3 ≤ d) {out : Int32 × wd_Mem} (μ : wd_Mem) (x1 x2 : Int32)  (h : X8_task_b0 μ x1 x2 = some out) : wd_V G (d + 1) RX8 cX8_task 3 (some .int) (fun r u => r = some (.inl out.1) ∧ u = out.2) 0 [some (.inr 31), some (.inl x1), some (.inl x2)] [] μ := by
  unfold X8_task_b0 at h
  refine wv_aload_n (pc' := 1) (i := 0) (v := 31) dX8_task_0 rfl rfl rfl ?_
  refine wv_iload_n (pc' := 2) (i := 1) (v := x1) dX8_task_1 rfl rfl rfl ?_
  obtain ⟨r1, er1, h⟩ := wd_bind_some h
  refine wv_callVi (pc' := 5) (x := r1) (ν := μ) [.inl x1] ml_X8_200 rc_31 rfl (Nat.le_of_ble_eq_true rfl) dX8_task_2 rfl (c_X8_isTask G d (Nat.le_trans (Nat.le_of_ble_eq_true rfl) hd)  er1) ?_
  refine wv_if_eq (pc' := 8) (tgt := 17) dX8_task_5 (by decide) rfl (fun c2 => ?_) (fun c2 => ?_)
  · have h := (if_pos c2).symm.trans h
    refine wv_weak (L' := [some (.inr 31), none, none]) ⟨rfl, trivial⟩ ?_
    exact t_X8_task_b17 G d hd μ  h
  · have h := (if_neg c2).symm.trans h
    refine wv_iload_n (pc' := 9) (i := 2) (v := x2) dX8_task_8 rfl rfl rfl ?_
    refine wv_iconst (pc' := 10) dX8_task_9 ic_0 rfl ?_
    refine wv_iconst (pc' := 11) dX8_task_10 ic_5 rfl ?_
    refine wv_callSi (pc' := 14) (x := (X8_in μ x2 (0 : Int32) (5 : Int32))) (ν := μ) [.inl x2, .inl (0 : Int32), .inl (5 : Int32)] ml_X8_63 rfl (Nat.le_of_ble_eq_true rfl) dX8_task_11 rfl (c_X8_in G d (Nat.le_trans (Nat.le_of_ble_eq_true rfl) hd)  rfl) ?_
    refine wv_if_ne (pc' := 17) (tgt := 19) dX8_task_14 (by decide) rfl (fun c3 => ?_) (fun c3 => ?_)
    · have h := (if_neg c3).symm.trans h
      refine wv_iload_n (pc' := 20) (i := 2) (v := x2) dX8_task_19 rfl rfl rfl ?_
      by_cases n20_0 : x2 = nI 0
      · have h := (if_pos n20_0).symm.trans h
        refine wv_case (i := 0) (tgt := 56) dX8_task_20 n20_0 (by decide) (by decide) rfl (by decide) ?_
        refine wv_aload_n (pc' := 57) (i := 0) (v := 31) dX8_task_56 rfl rfl rfl ?_
        refine wv_gr (pc' := 60) g_X8_16_31 dX8_task_57 rfl ?_
        refine wv_iconst (pc' := 61) dX8_task_60 ic_0 rfl ?_
        refine wv_iload_n (pc' := 62) (i := 1) (v := x1) dX8_task_61 rfl rfl rfl ?_
        refine wv_iadd (pc' := 63) dX8_task_62 rfl ?_
        obtain ⟨g4, h⟩ := wd_chk_some h
        refine wv_iald (pc' := 64) sa_34 (wd_in_vp g4) dX8_task_63 rfl ?_
        exact wv_ireturn rfl dX8_task_64 (wd_liv h)
      · have h := (if_neg n20_0).symm.trans h
        by_cases n20_1 : x2 = nI 1
        · have h := (if_pos n20_1).symm.trans h
          refine wv_case (i := 1) (tgt := 65) dX8_task_20 n20_1 (by decide) (by decide) rfl (by decide) ?_
          refine wv_aload_n (pc' := 66) (i := 0) (v := 31) dX8_task_65 rfl rfl rfl ?_
          refine wv_gr (pc' := 69) g_X8_16_31 dX8_task_66 rfl ?_
          refine wv_iconst (pc' := 70) dX8_task_69 ic_5 rfl ?_
          refine wv_iload_n (pc' := 71) (i := 1) (v := x1) dX8_task_70 rfl rfl rfl ?_
          refine wv_iadd (pc' := 72) dX8_task_71 rfl ?_
          obtain ⟨g5, h⟩ := wd_chk_some h
          refine wv_iald (pc' := 73) sa_34 (wd_in_vp g5) dX8_task_72 rfl ?_
          exact wv_ireturn rfl dX8_task_73 (wd_liv h)
        · have h := (if_neg n20_1).symm.trans h
          by_cases n20_2 : x2 = nI 2
          · have h := (if_pos n20_2).symm.trans h
            refine wv_case (i := 2) (tgt := 74) dX8_task_20 n20_2 (by decide) (by decide) rfl (by decide) ?_
            refine wv_aload_n (pc' := 75) (i := 0) (v := 31) dX8_task_74 rfl rfl rfl ?_
            refine wv_gr (pc' := 78) g_X8_7_31 dX8_task_75 rfl ?_
            refine wv_iload_n (pc' := 79) (i := 1) (v := x1) dX8_task_78 rfl rfl rfl ?_
            obtain ⟨g6, h⟩ := wd_chk_some h
            refine wv_iald (pc' := 80) sa_32 (wd_in_vp g6) dX8_task_79 rfl ?_
            exact wv_ireturn rfl dX8_task_80 (wd_liv h)
          · have h := (if_neg n20_2).symm.trans h
            by_cases n20_3 : x2 = nI 3
            · have h := (if_pos n20_3).symm.trans h
              refine wv_case (i := 3) (tgt := 81) dX8_task_20 n20_3 (by decide) (by decide) rfl (by decide) ?_
              refine wv_aload_n (pc' := 82) (i := 0) (v := 31) dX8_task_81 rfl rfl rfl ?_
              refine wv_gr (pc' := 85) g_X8_13_31 dX8_task_82 rfl ?_
              refine wv_iload_n (pc' := 86) (i := 1) (v := x1) dX8_task_85 rfl rfl rfl ?_
              obtain ⟨g7, h⟩ := wd_chk_some h
              refine wv_iald (pc' := 87) sa_33 (wd_in_vp g7) dX8_task_86 rfl ?_
              exact wv_ireturn rfl dX8_task_87 (wd_liv h)
            · have h := (if_neg n20_3).symm.trans h
              by_cases n20_4 : x2 = nI 4
              · have h := (if_pos n20_4).symm.trans h
                refine wv_case (i := 4) (tgt := 88) dX8_task_20 n20_4 (by decide) (by decide) rfl (by decide) ?_
                refine wv_aload_n (pc' := 89) (i := 0) (v := 31) dX8_task_88 rfl rfl rfl ?_
                refine wv_iload_n (pc' := 90) (i := 1) (v := x1) dX8_task_89 rfl rfl rfl ?_
                obtain ⟨r8, er8, h⟩ := wd_bind_some h
                refine wv_callVi (pc' := 93) (x := r8.1) (ν := r8.2) [.inl x1] ml_X8_217 rc_31 rfl (Nat.le_of_ble_eq_true rfl) dX8_task_90 rfl (c_X8_belong G d (Nat.le_trans (Nat.le_of_ble_eq_true rfl) hd)  er8) ?_
                exact wv_ireturn rfl dX8_task_93 (wd_liv h)
              · have h := (if_neg n20_4).symm.trans h
                refine wv_dflt (N := 5) (tgt := 94) dX8_task_20 (by decide) (fun i hi => by
                  rcases (show i = 0 ∨ i = 1 ∨ i = 2 ∨ i = 3 ∨ i = 4 by omega) with rfl|rfl|rfl|rfl|rfl
                  · exact n20_0
                  · exact n20_1
                  · exact n20_2
                  · exact n20_3
                  · exact n20_4) (by decide) ?_
                refine wv_aload_n (pc' := 95) (i := 0) (v := 31) dX8_task_94 rfl rfl rfl ?_
                refine wv_iload_n (pc' := 96) (i := 1) (v := x1) dX8_task_95 rfl rfl rfl ?_
                obtain ⟨r9, er9, h⟩ := wd_bind_some h
                refine wv_callVi (pc' := 99) (x := r9.1) (ν := r9.2) [.inl x1] ml_X8_220 rc_31 rfl (Nat.le_of_ble_eq_true rfl) dX8_task_96 rfl (c_X8_firstOf G d (Nat.le_trans (Nat.le_of_ble_eq_true rfl) hd)  er9) ?_
                exact wv_ireturn rfl dX8_task_99 (wd_liv h)
    · have h := (if_pos c3).symm.trans h
      refine wv_weak (L' := [some (.inr 31), none, none]) ⟨rfl, trivial⟩ ?_
      exact t_X8_task_b17 G d hd μ  h
set_option maxRecDepth 100000 in
set_option maxHeartbeats 4000000 in
theorem c_X8_task (G : wd_G) (d : Nat) (hd : 4 ≤ d) {μ : wd_Mem} {x1 x2 : Int32} {out : Int32 × wd_Mem}  (h : X8_task μ x1 x2 = some out) : wd_C G d yX8_task [.inr 31, .inl x1, .inl x2] μ (fun r u => r = some (.inl out.1) ∧ u = out.2) := by
  obtain ⟨d, rfl⟩ : ∃ e, d = e + 1 := ⟨d - 1, by omega⟩
  refine wd_enter mc_X8_task (by decide) (by decide +kernel) rfl (Nat.le_of_ble_eq_true rfl) (L0 := [some (.inr 31), some (.inl x1), some (.inl x2)]) rfl ?_
  exact t_X8_task_b0 G d (by omega) μ x1 x2 h
set_option maxRecDepth 100000 in
set_option maxHeartbeats 4000000 in
theorem t_X8_why_b26 (G : wd_G) (d : Nat) (hd : 2 ≤ d) {out : Int32} (μ : wd_Mem)  (h : X8_why_b26 μ = some out) : wd_V G (d + 1) RX8 cX8_why 4 (some .int) (fun r u => r = some (.inl out) ∧ u = μ) 26 [some (.inr 31), none, none, none] [] μ := by
  unfold X8_why_b26 at h
  refine wv_iconst (pc' := 27) dX8_why_26 ic_m1 rfl ?_
  exact wv_ireturn rfl dX8_why_27 (wd_li h)
set_option maxRecDepth 100000 in
set_option maxHeartbeats 4000000 in
theorem t_X8_why_b43 (G : wd_G) (d : Nat) (hd : 2 ≤ d) {out : Int32} (μ : wd_Mem) (x1 x2 s1 : Int32)  (h : X8_why_b43 μ x1 x2 s1 = some out) : wd_V G (d + 1) RX8 cX8_why 4 (some .int) (fun r u => r = some (.inl out) ∧ u = μ) 43 [some (.inr 31), some (.inl x1), some (.inl x2), none] [.inl s1, .inr 34] μ := by
  unfold X8_why_b43 at h
  refine wv_iconst (pc' := 44) dX8_why_43 ic_5 rfl ?_
  refine wv_iload_n (pc' := 45) (i := 2) (v := x2) dX8_why_44 rfl rfl rfl ?_
  refine wv_imul (pc' := 46) dX8_why_45 rfl ?_
  refine wv_iadd (pc' := 47) dX8_why_46 rfl ?_
  refine wv_iload_n (pc' := 48) (i := 1) (v := x1) dX8_why_47 rfl rfl rfl ?_
  refine wv_iadd (pc' := 49) dX8_why_48 rfl ?_
  obtain ⟨g6, h⟩ := wd_chk_some h
  refine wv_iald (pc' := 50) sa_34 (wd_in_vp g6) dX8_why_49 rfl ?_
  exact wv_ireturn rfl dX8_why_50 (wd_li h)
set_option maxRecDepth 100000 in
set_option maxHeartbeats 4000000 in
theorem t_X8_why_b0 (G : wd_G) (d : Nat) (hd : 2 ≤ d) {out : Int32} (μ : wd_Mem) (x1 x2 x3 : Int32)  (h : X8_why_b0 μ x1 x2 x3 = some out) : wd_V G (d + 1) RX8 cX8_why 4 (some .int) (fun r u => r = some (.inl out) ∧ u = μ) 0 [some (.inr 31), some (.inl x1), some (.inl x2), some (.inl x3)] [] μ := by
  unfold X8_why_b0 at h
  refine wv_aload_n (pc' := 1) (i := 0) (v := 31) dX8_why_0 rfl rfl rfl ?_
  refine wv_iload_n (pc' := 2) (i := 1) (v := x1) dX8_why_1 rfl rfl rfl ?_
  obtain ⟨r1, er1, h⟩ := wd_bind_some h
  refine wv_callVi (pc' := 5) (x := r1) (ν := μ) [.inl x1] ml_X8_200 rc_31 rfl (Nat.le_of_ble_eq_true rfl) dX8_why_2 rfl (c_X8_isTask G d (Nat.le_trans (Nat.le_of_ble_eq_true rfl) hd)  er1) ?_
  refine wv_if_eq (pc' := 8) (tgt := 26) dX8_why_5 (by decide) rfl (fun c2 => ?_) (fun c2 => ?_)
  · have h := (if_pos c2).symm.trans h
    refine wv_weak (L' := [some (.inr 31), none, none, none]) ⟨rfl, trivial⟩ ?_
    exact t_X8_why_b26 G d hd μ  h
  · have h := (if_neg c2).symm.trans h
    refine wv_iload_n (pc' := 9) (i := 2) (v := x2) dX8_why_8 rfl rfl rfl ?_
    refine wv_iconst (pc' := 10) dX8_why_9 ic_0 rfl ?_
    refine wv_iconst (pc' := 11) dX8_why_10 ic_1 rfl ?_
    refine wv_callSi (pc' := 14) (x := (X8_in μ x2 (0 : Int32) (1 : Int32))) (ν := μ) [.inl x2, .inl (0 : Int32), .inl (1 : Int32)] ml_X8_63 rfl (Nat.le_of_ble_eq_true rfl) dX8_why_11 rfl (c_X8_in G d (Nat.le_trans (Nat.le_of_ble_eq_true rfl) hd)  rfl) ?_
    refine wv_if_eq (pc' := 17) (tgt := 26) dX8_why_14 (by decide) rfl (fun c3 => ?_) (fun c3 => ?_)
    · have h := (if_pos c3).symm.trans h
      refine wv_weak (L' := [some (.inr 31), none, none, none]) ⟨rfl, trivial⟩ ?_
      exact t_X8_why_b26 G d hd μ  h
    · have h := (if_neg c3).symm.trans h
      refine wv_iload_n (pc' := 18) (i := 3) (v := x3) dX8_why_17 rfl rfl rfl ?_
      refine wv_iconst (pc' := 19) dX8_why_18 ic_0 rfl ?_
      refine wv_iconst (pc' := 20) dX8_why_19 ic_1 rfl ?_
      refine wv_callSi (pc' := 23) (x := (X8_in μ x3 (0 : Int32) (1 : Int32))) (ν := μ) [.inl x3, .inl (0 : Int32), .inl (1 : Int32)] ml_X8_63 rfl (Nat.le_of_ble_eq_true rfl) dX8_why_20 rfl (c_X8_in G d (Nat.le_trans (Nat.le_of_ble_eq_true rfl) hd)  rfl) ?_
      refine wv_if_ne (pc' := 26) (tgt := 28) dX8_why_23 (by decide) rfl (fun c4 => ?_) (fun c4 => ?_)
      · have h := (if_neg c4).symm.trans h
        refine wv_aload_n (pc' := 29) (i := 0) (v := 31) dX8_why_28 rfl rfl rfl ?_
        refine wv_gr (pc' := 32) g_X8_16_31 dX8_why_29 rfl ?_
        refine wv_iload_n (pc' := 33) (i := 3) (v := x3) dX8_why_32 rfl rfl rfl ?_
        refine wv_if_ne (pc' := 36) (tgt := 41) dX8_why_33 (by decide) rfl (fun c5 => ?_) (fun c5 => ?_)
        · have h := (if_neg c5).symm.trans h
          refine wv_bipush (pc' := 43) dX8_why_41 bp_20 rfl ?_
          refine wv_weak (L' := [some (.inr 31), some (.inl x1), some (.inl x2), none]) ⟨rfl, rfl, rfl, trivial⟩ ?_
          exact t_X8_why_b43 G d hd μ x1 x2 (20 : Int32)  h
        · have h := (if_pos c5).symm.trans h
          refine wv_bipush (pc' := 38) dX8_why_36 bp_10 rfl ?_
          refine wv_goto (pc' := 43) dX8_why_38 (by decide) ?_
          refine wv_weak (L' := [some (.inr 31), some (.inl x1), some (.inl x2), none]) ⟨rfl, rfl, rfl, trivial⟩ ?_
          exact t_X8_why_b43 G d hd μ x1 x2 (10 : Int32)  h
      · have h := (if_pos c4).symm.trans h
        refine wv_weak (L' := [some (.inr 31), none, none, none]) ⟨rfl, trivial⟩ ?_
        exact t_X8_why_b26 G d hd μ  h
set_option maxRecDepth 100000 in
set_option maxHeartbeats 4000000 in
theorem c_X8_why (G : wd_G) (d : Nat) (hd : 3 ≤ d) {μ : wd_Mem} {x1 x2 x3 : Int32} {out : Int32}  (h : X8_why μ x1 x2 x3 = some out) : wd_C G d yX8_why [.inr 31, .inl x1, .inl x2, .inl x3] μ (fun r u => r = some (.inl out) ∧ u = μ) := by
  obtain ⟨d, rfl⟩ : ∃ e, d = e + 1 := ⟨d - 1, by omega⟩
  refine wd_enter mc_X8_why (by decide) (by decide +kernel) rfl (Nat.le_of_ble_eq_true rfl) (L0 := [some (.inr 31), some (.inl x1), some (.inl x2), some (.inl x3)]) rfl ?_
  exact t_X8_why_b0 G d (by omega) μ x1 x2 x3 h
set_option maxRecDepth 100000 in
set_option maxHeartbeats 4000000 in
theorem t_X8_asIs_c2 (G : wd_G) (d : Nat) (hd : 0 ≤ d) {out : wd_Mem} (rec : Int32 → wd_Mem → Option (wd_Mem)) (k : wd_Mem → Option (wd_Mem)) (μ : wd_Mem) (x1 : Int32) (hrec : ∀ (x1 : Int32) (μ : wd_Mem), rec x1 μ = some out → wd_V G (d + 1) RX8 cX8_asIs 2 none (fun r u => r = none ∧ u = out) 2 [some (.inr 31), some (.inl x1)] [] μ) (hk : ∀  (μ : wd_Mem), k μ = some out → wd_V G (d + 1) RX8 cX8_asIs 2 none (fun r u => r = none ∧ u = out) 44 [some (.inr 31), none] [] μ) (h : X8_asIs_c2 rec k μ x1 = some out) : wd_V G (d + 1) RX8 cX8_asIs 2 none (fun r u => r = none ∧ u = out) 2 [some (.inr 31), some (.inl x1)] [] μ := by
  unfold X8_asIs_c2 at h
  refine wv_iload_n (pc' := 3) (i := 1) (v := x1) dX8_asIs_2 rfl rfl rfl ?_
  refine wv_aload_n (pc' := 4) (i := 0) (v := 31) dX8_asIs_3 rfl rfl rfl ?_
  refine wv_gi (pc' := 7) g_X8_118_31 dX8_asIs_4 rfl ?_
  refine wv_icmp_ge (pc' := 10) (tgt := 44) dX8_asIs_7 (by decide) rfl (fun c1 => ?_) (fun c1 => ?_)
  · have h := (if_pos c1).symm.trans h
    refine wv_weak (L' := [some (.inr 31), none]) ⟨rfl, trivial⟩ ?_
    exact hk _ h
  · have h := (if_neg c1).symm.trans h
    refine wv_aload_n (pc' := 11) (i := 0) (v := 31) dX8_asIs_10 rfl rfl rfl ?_
    refine wv_gr (pc' := 14) g_X8_35_31 dX8_asIs_11 rfl ?_
    refine wv_iload_n (pc' := 15) (i := 1) (v := x1) dX8_asIs_14 rfl rfl rfl ?_
    refine wv_aload_n (pc' := 16) (i := 0) (v := 31) dX8_asIs_15 rfl rfl rfl ?_
    refine wv_gr (pc' := 19) g_X8_16_31 dX8_asIs_16 rfl ?_
    refine wv_iconst (pc' := 20) dX8_asIs_19 ic_0 rfl ?_
    refine wv_iload_n (pc' := 21) (i := 1) (v := x1) dX8_asIs_20 rfl rfl rfl ?_
    refine wv_iadd (pc' := 22) dX8_asIs_21 rfl ?_
    obtain ⟨g2, h⟩ := wd_chk_some h
    refine wv_iald (pc' := 23) sa_34 (wd_in_vp g2) dX8_asIs_22 rfl ?_
    obtain ⟨g3, h⟩ := wd_chk_some h
    refine wv_iast (pc' := 24) sa_40 (wd_in_vp g3) dX8_asIs_23 rfl ?_
    refine wv_aload_n (pc' := 25) (i := 0) (v := 31) dX8_asIs_24 rfl rfl rfl ?_
    refine wv_gr (pc' := 28) g_X8_38_31 dX8_asIs_25 rfl ?_
    refine wv_iload_n (pc' := 29) (i := 1) (v := x1) dX8_asIs_28 rfl rfl rfl ?_
    refine wv_aload_n (pc' := 30) (i := 0) (v := 31) dX8_asIs_29 rfl rfl rfl ?_
    refine wv_gr (pc' := 33) g_X8_16_31 dX8_asIs_30 rfl ?_
    refine wv_iconst (pc' := 34) dX8_asIs_33 ic_5 rfl ?_
    refine wv_iload_n (pc' := 35) (i := 1) (v := x1) dX8_asIs_34 rfl rfl rfl ?_
    refine wv_iadd (pc' := 36) dX8_asIs_35 rfl ?_
    obtain ⟨g4, h⟩ := wd_chk_some h
    refine wv_ialdE (pc' := 37) (v := (μ 34 (Int32.toNatClampNeg ((5 : Int32) + x1)))) sa_34 (wd_in_vp g4) dX8_asIs_36 rfl rfl ?_
    refine wv_iast (pc' := 38) sa_41 (wd_in_vp g3) dX8_asIs_37 rfl ?_
    refine wv_inc (pc' := 41) (x := x1) (L' := [some (.inr 31), some (.inl (x1 + (1 : Int32)))]) dX8_asIs_38 ic_1 rfl (by decide) rfl rfl ?_
    refine wv_goto (pc' := 2) dX8_asIs_41 (by decide) ?_
    exact hrec _ _ h
set_option maxRecDepth 100000 in
set_option maxHeartbeats 4000000 in
theorem t_X8_asIs_l2 (G : wd_G) (d : Nat) (hd : 0 ≤ d) {out : wd_Mem} (k : wd_Mem → Option (wd_Mem)) (hk : ∀  (μ : wd_Mem), k μ = some out → wd_V G (d + 1) RX8 cX8_asIs 2 none (fun r u => r = none ∧ u = out) 44 [some (.inr 31), none] [] μ) : ∀ (n : Nat) (x1 : Int32) (μ : wd_Mem), X8_asIs_l2 k n x1 μ = some out → wd_V G (d + 1) RX8 cX8_asIs 2 none (fun r u => r = none ∧ u = out) 2 [some (.inr 31), some (.inl x1)] [] μ := by
  intro n
  induction n with
  | zero => intro x1 μ h; exact absurd h (by unfold X8_asIs_l2; simp)
  | succ n ih =>
    intro x1 μ h
    exact t_X8_asIs_c2 G d hd (X8_asIs_l2 k n) k μ x1  (fun x1 μ h => ih x1 μ h) hk h
set_option maxRecDepth 100000 in
set_option maxHeartbeats 4000000 in
theorem t_X8_asIs_b44 (G : wd_G) (d : Nat) (hd : 0 ≤ d) {out : wd_Mem} (μ : wd_Mem)  (h : X8_asIs_b44 μ = some out) : wd_V G (d + 1) RX8 cX8_asIs 2 none (fun r u => r = none ∧ u = out) 44 [some (.inr 31), none] [] μ := by
  unfold X8_asIs_b44 at h
  exact wv_return rfl dX8_asIs_44 (wd_lv h)
set_option maxRecDepth 100000 in
set_option maxHeartbeats 4000000 in
theorem t_X8_asIs_b0 (G : wd_G) (d : Nat) (hd : 0 ≤ d) {out : wd_Mem} (μ : wd_Mem)  (h : X8_asIs_b0 μ = some out) : wd_V G (d + 1) RX8 cX8_asIs 2 none (fun r u => r = none ∧ u = out) 0 [some (.inr 31), none] [] μ := by
  unfold X8_asIs_b0 at h
  refine wv_iconst (pc' := 1) dX8_asIs_0 ic_0 rfl ?_
  refine wv_istore_n (pc' := 2) (i := 1) (L' := [some (.inr 31), some (.inl (0 : Int32))]) dX8_asIs_1 rfl (by decide) rfl rfl ?_
  exact t_X8_asIs_l2 G d hd (fun μ => X8_asIs_b44 μ)  (fun μ h => t_X8_asIs_b44 G d hd μ  h) wd_big (0 : Int32) μ h
set_option maxRecDepth 100000 in
set_option maxHeartbeats 4000000 in
theorem c_X8_asIs (G : wd_G) (d : Nat) (hd : 1 ≤ d) {μ : wd_Mem} {out : wd_Mem}  (h : X8_asIs μ = some out) : wd_C G d yX8_asIs [.inr 31] μ (fun r u => r = none ∧ u = out) := by
  obtain ⟨d, rfl⟩ : ∃ e, d = e + 1 := ⟨d - 1, by omega⟩
  refine wd_enter mc_X8_asIs (by decide) (by decide +kernel) rfl (Nat.le_of_ble_eq_true rfl) (L0 := [some (.inr 31), none]) rfl ?_
  exact t_X8_asIs_b0 G d (by omega) μ  h
set_option maxRecDepth 100000 in
set_option maxHeartbeats 4000000 in
theorem t_X8_must_b57 (G : wd_G) (d : Nat) (hd : 1 ≤ d) {out : Int32 × wd_Mem} (rec : Int32 → Int32 → Option (Int32 × wd_Mem)) (k : Int32 → Option (Int32 × wd_Mem)) (μ : wd_Mem) (x1 x3 s0 s1 : Int32) (hrec : ∀ (x2 x3 : Int32), rec x2 x3 = some out → wd_V G (d + 1) RX8 cX8_must 4 (some .int) (fun r u => r = some (.inl out.1) ∧ u = out.2) 20 [some (.inr 31), some (.inl x1), some (.inl x2), some (.inl x3)] [] μ) (hk : ∀ (x2 : Int32), k x2 = some out → wd_V G (d + 1) RX8 cX8_must 4 (some .int) (fun r u => r = some (.inl out.1) ∧ u = out.2) 65 [some (.inr 31), none, some (.inl x2), none] [] μ) (h : X8_must_b57 rec k μ x1 x3 s0 s1 = some out) : wd_V G (d + 1) RX8 cX8_must 4 (some .int) (fun r u => r = some (.inl out.1) ∧ u = out.2) 57 [some (.inr 31), some (.inl x1), none, some (.inl x3)] [.inl s1, .inl s0] μ := by
  unfold X8_must_b57 at h
  refine wv_iadd (pc' := 58) dX8_must_57 rfl ?_
  refine wv_istore_n (pc' := 59) (i := 2) (L' := [some (.inr 31), some (.inl x1), some (.inl (s0 + s1)), some (.inl x3)]) dX8_must_58 rfl (by decide) rfl rfl ?_
  refine wv_inc (pc' := 62) (x := x3) (L' := [some (.inr 31), some (.inl x1), some (.inl (s0 + s1)), some (.inl (x3 + (1 : Int32)))]) dX8_must_59 ic_1 rfl (by decide) rfl rfl ?_
  refine wv_goto (pc' := 20) dX8_must_62 (by decide) ?_
  exact hrec _ _ h
set_option maxRecDepth 100000 in
set_option maxHeartbeats 4000000 in
theorem t_X8_must_b56 (G : wd_G) (d : Nat) (hd : 1 ≤ d) {out : Int32 × wd_Mem} (rec : Int32 → Int32 → Option (Int32 × wd_Mem)) (k : Int32 → Option (Int32 × wd_Mem)) (μ : wd_Mem) (x1 x3 s0 : Int32) (hrec : ∀ (x2 x3 : Int32), rec x2 x3 = some out → wd_V G (d + 1) RX8 cX8_must 4 (some .int) (fun r u => r = some (.inl out.1) ∧ u = out.2) 20 [some (.inr 31), some (.inl x1), some (.inl x2), some (.inl x3)] [] μ) (hk : ∀ (x2 : Int32), k x2 = some out → wd_V G (d + 1) RX8 cX8_must 4 (some .int) (fun r u => r = some (.inl out.1) ∧ u = out.2) 65 [some (.inr 31), none, some (.inl x2), none] [] μ) (h : X8_must_b56 rec k μ x1 x3 s0 = some out) : wd_V G (d + 1) RX8 cX8_must 4 (some .int) (fun r u => r = some (.inl out.1) ∧ u = out.2) 56 [some (.inr 31), some (.inl x1), none, some (.inl x3)] [.inl s0] μ := by
  unfold X8_must_b56 at h
  refine wv_iconst (pc' := 57) dX8_must_56 ic_0 rfl ?_
  exact t_X8_must_b57 G d hd rec k μ x1 x3 s0 (0 : Int32) hrec hk h
set_option maxRecDepth 100000 in
set_option maxHeartbeats 4000000 in
theorem t_X8_must_c20 (G : wd_G) (d : Nat) (hd : 1 ≤ d) {out : Int32 × wd_Mem} (rec : Int32 → Int32 → Option (Int32 × wd_Mem)) (k : Int32 → Option (Int32 × wd_Mem)) (μ : wd_Mem) (x1 x2 x3 : Int32) (hrec : ∀ (x2 x3 : Int32), rec x2 x3 = some out → wd_V G (d + 1) RX8 cX8_must 4 (some .int) (fun r u => r = some (.inl out.1) ∧ u = out.2) 20 [some (.inr 31), some (.inl x1), some (.inl x2), some (.inl x3)] [] μ) (hk : ∀ (x2 : Int32), k x2 = some out → wd_V G (d + 1) RX8 cX8_must 4 (some .int) (fun r u => r = some (.inl out.1) ∧ u = out.2) 65 [some (.inr 31), none, some (.inl x2), none] [] μ) (h : X8_must_c20 rec k μ x1 x2 x3 = some out) : wd_V G (d + 1) RX8 cX8_must 4 (some .int) (fun r u => r = some (.inl out.1) ∧ u = out.2) 20 [some (.inr 31), some (.inl x1), some (.inl x2), some (.inl x3)] [] μ := by
  unfold X8_must_c20 at h
  refine wv_iload_n (pc' := 21) (i := 3) (v := x3) dX8_must_20 rfl rfl rfl ?_
  refine wv_aload_n (pc' := 22) (i := 0) (v := 31) dX8_must_21 rfl rfl rfl ?_
  refine wv_gi (pc' := 25) g_X8_118_31 dX8_must_22 rfl ?_
  refine wv_icmp_ge (pc' := 28) (tgt := 65) dX8_must_25 (by decide) rfl (fun c3 => ?_) (fun c3 => ?_)
  · have h := (if_pos c3).symm.trans h
    refine wv_weak (L' := [some (.inr 31), none, some (.inl x2), none]) ⟨rfl, rfl, trivial⟩ ?_
    exact hk _ h
  · have h := (if_neg c3).symm.trans h
    refine wv_iload_n (pc' := 29) (i := 2) (v := x2) dX8_must_28 rfl rfl rfl ?_
    refine wv_aload_n (pc' := 30) (i := 0) (v := 31) dX8_must_29 rfl rfl rfl ?_
    refine wv_iload_n (pc' := 31) (i := 3) (v := x3) dX8_must_30 rfl rfl rfl ?_
    obtain ⟨r4, er4, h⟩ := wd_bind_some h
    refine wv_callVi (pc' := 34) (x := r4) (ν := μ) [.inl x3] ml_X8_131 rc_31 rfl (Nat.le_of_ble_eq_true rfl) dX8_must_31 rfl (c_X8_start G d (Nat.le_trans (Nat.le_of_ble_eq_true rfl) hd)  er4) ?_
    refine wv_iload_n (pc' := 35) (i := 1) (v := x1) dX8_must_34 rfl rfl rfl ?_
    refine wv_icmp_gt (pc' := 38) (tgt := 56) dX8_must_35 (by decide) rfl (fun c5 => ?_) (fun c5 => ?_)
    · have h := (if_pos c5).symm.trans h
      refine wv_weak (L' := [some (.inr 31), some (.inl x1), none, some (.inl x3)]) ⟨rfl, rfl, rfl, trivial⟩ ?_
      exact t_X8_must_b56 G d hd rec k μ x1 x3 x2 hrec hk h
    · have h := (if_neg c5).symm.trans h
      refine wv_iload_n (pc' := 39) (i := 1) (v := x1) dX8_must_38 rfl rfl rfl ?_
      refine wv_aload_n (pc' := 40) (i := 0) (v := 31) dX8_must_39 rfl rfl rfl ?_
      refine wv_iload_n (pc' := 41) (i := 3) (v := x3) dX8_must_40 rfl rfl rfl ?_
      obtain ⟨r6, er6, h⟩ := wd_bind_some h
      refine wv_callVi (pc' := 44) (x := r6) (ν := μ) [.inl x3] ml_X8_127 rc_31 rfl (Nat.le_of_ble_eq_true rfl) dX8_must_41 rfl (c_X8_done G d (Nat.le_trans (Nat.le_of_ble_eq_true rfl) hd)  er6) ?_
      refine wv_icmp_ge (pc' := 47) (tgt := 56) dX8_must_44 (by decide) rfl (fun c7 => ?_) (fun c7 => ?_)
      · have h := (if_pos c7).symm.trans h
        refine wv_weak (L' := [some (.inr 31), some (.inl x1), none, some (.inl x3)]) ⟨rfl, rfl, rfl, trivial⟩ ?_
        exact t_X8_must_b56 G d hd rec k μ x1 x3 x2 hrec hk h
      · have h := (if_neg c7).symm.trans h
        refine wv_aload_n (pc' := 48) (i := 0) (v := 31) dX8_must_47 rfl rfl rfl ?_
        refine wv_gr (pc' := 51) g_X8_13_31 dX8_must_48 rfl ?_
        refine wv_iload_n (pc' := 52) (i := 3) (v := x3) dX8_must_51 rfl rfl rfl ?_
        obtain ⟨g8, h⟩ := wd_chk_some h
        refine wv_iald (pc' := 53) sa_33 (wd_in_vp g8) dX8_must_52 rfl ?_
        refine wv_goto (pc' := 57) dX8_must_53 (by decide) ?_
        refine wv_weak (L' := [some (.inr 31), some (.inl x1), none, some (.inl x3)]) ⟨rfl, rfl, rfl, trivial⟩ ?_
        exact t_X8_must_b57 G d hd rec k μ x1 x3 x2 (μ 33 (Int32.toNatClampNeg x3)) hrec hk h
set_option maxRecDepth 100000 in
set_option maxHeartbeats 4000000 in
theorem t_X8_must_l20 (G : wd_G) (d : Nat) (hd : 1 ≤ d) {out : Int32 × wd_Mem} (k : Int32 → Option (Int32 × wd_Mem)) (μ : wd_Mem) (x1 : Int32) (hk : ∀ (x2 : Int32), k x2 = some out → wd_V G (d + 1) RX8 cX8_must 4 (some .int) (fun r u => r = some (.inl out.1) ∧ u = out.2) 65 [some (.inr 31), none, some (.inl x2), none] [] μ) : ∀ (n : Nat) (x2 x3 : Int32), X8_must_l20 k μ x1 n x2 x3 = some out → wd_V G (d + 1) RX8 cX8_must 4 (some .int) (fun r u => r = some (.inl out.1) ∧ u = out.2) 20 [some (.inr 31), some (.inl x1), some (.inl x2), some (.inl x3)] [] μ := by
  intro n
  induction n with
  | zero => intro x2 x3 h; exact absurd h (by unfold X8_must_l20; simp)
  | succ n ih =>
    intro x2 x3 h
    exact t_X8_must_c20 G d hd (X8_must_l20 k μ x1 n) k μ x1 x2 x3  (fun x2 x3 h => ih x2 x3 h) hk h
set_option maxRecDepth 100000 in
set_option maxHeartbeats 4000000 in
theorem t_X8_must_b65 (G : wd_G) (d : Nat) (hd : 1 ≤ d) {out : Int32 × wd_Mem} (μ : wd_Mem) (x2 : Int32)  (h : X8_must_b65 μ x2 = some out) : wd_V G (d + 1) RX8 cX8_must 4 (some .int) (fun r u => r = some (.inl out.1) ∧ u = out.2) 65 [some (.inr 31), none, some (.inl x2), none] [] μ := by
  unfold X8_must_b65 at h
  refine wv_iload_n (pc' := 66) (i := 2) (v := x2) dX8_must_65 rfl rfl rfl ?_
  exact wv_ireturn rfl dX8_must_66 (wd_liv h)
set_option maxRecDepth 100000 in
set_option maxHeartbeats 4000000 in
theorem t_X8_must_b0 (G : wd_G) (d : Nat) (hd : 1 ≤ d) {out : Int32 × wd_Mem} (μ : wd_Mem) (x1 : Int32)  (h : X8_must_b0 μ x1 = some out) : wd_V G (d + 1) RX8 cX8_must 4 (some .int) (fun r u => r = some (.inl out.1) ∧ u = out.2) 0 [some (.inr 31), some (.inl x1), none, none] [] μ := by
  unfold X8_must_b0 at h
  refine wv_iload_n (pc' := 1) (i := 1) (v := x1) dX8_must_0 rfl rfl rfl ?_
  refine wv_iconst (pc' := 2) dX8_must_1 ic_0 rfl ?_
  refine wv_bipush (pc' := 4) dX8_must_2 bp_15 rfl ?_
  refine wv_callSi (pc' := 7) (x := (X8_in μ x1 (0 : Int32) (15 : Int32))) (ν := μ) [.inl x1, .inl (0 : Int32), .inl (15 : Int32)] ml_X8_63 rfl (Nat.le_of_ble_eq_true rfl) dX8_must_4 rfl (c_X8_in G d (Nat.le_trans (Nat.le_of_ble_eq_true rfl) hd)  rfl) ?_
  refine wv_if_ne (pc' := 10) (tgt := 12) dX8_must_7 (by decide) rfl (fun c1 => ?_) (fun c1 => ?_)
  · have h := (if_neg c1).symm.trans h
    refine wv_aload_n (pc' := 13) (i := 0) (v := 31) dX8_must_12 rfl rfl rfl ?_
    obtain ⟨r2, er2, h⟩ := wd_bind_some h
    refine wv_callVv (pc' := 16) (ν := r2) [] ml_X8_223 rc_31 rfl (Nat.le_of_ble_eq_true rfl) dX8_must_13 rfl (c_X8_asIs G d (Nat.le_trans (Nat.le_of_ble_eq_true rfl) hd)  er2) ?_
    refine wv_iconst (pc' := 17) dX8_must_16 ic_0 rfl ?_
    refine wv_istore_n (pc' := 18) (i := 2) (L' := [some (.inr 31), some (.inl x1), some (.inl (0 : Int32)), none]) dX8_must_17 rfl (by decide) rfl rfl ?_
    refine wv_iconst (pc' := 19) dX8_must_18 ic_0 rfl ?_
    refine wv_istore_n (pc' := 20) (i := 3) (L' := [some (.inr 31), some (.inl x1), some (.inl (0 : Int32)), some (.inl (0 : Int32))]) dX8_must_19 rfl (by decide) rfl rfl ?_
    exact t_X8_must_l20 G d hd (fun x2 => X8_must_b65 r2 x2) r2 x1  (fun x2 h => t_X8_must_b65 G d hd r2 x2  h) wd_big (0 : Int32) (0 : Int32) h
  · have h := (if_pos c1).symm.trans h
    refine wv_iconst (pc' := 11) dX8_must_10 ic_m1 rfl ?_
    exact wv_ireturn rfl dX8_must_11 (wd_liv h)
set_option maxRecDepth 100000 in
set_option maxHeartbeats 4000000 in
theorem c_X8_must (G : wd_G) (d : Nat) (hd : 2 ≤ d) {μ : wd_Mem} {x1 : Int32} {out : Int32 × wd_Mem}  (h : X8_must μ x1 = some out) : wd_C G d yX8_must [.inr 31, .inl x1] μ (fun r u => r = some (.inl out.1) ∧ u = out.2) := by
  obtain ⟨d, rfl⟩ : ∃ e, d = e + 1 := ⟨d - 1, by omega⟩
  refine wd_enter mc_X8_must (by decide) (by decide +kernel) rfl (Nat.le_of_ble_eq_true rfl) (L0 := [some (.inr 31), some (.inl x1), none, none]) rfl ?_
  exact t_X8_must_b0 G d (by omega) μ x1 h
set_option maxRecDepth 100000 in
set_option maxHeartbeats 4000000 in
theorem t_X8_wrapOf_b38 (G : wd_G) (d : Nat) (hd : 2 ≤ d) {out : Int32} (rec : Int32 → Int32 → Option (Int32)) (k : Int32 → Option (Int32)) (μ : wd_Mem) (x1 x3 s0 : Int32) (hrec : ∀ (x2 x3 : Int32), rec x2 x3 = some out → wd_V G (d + 1) RX8 cX8_wrapOf 5 (some .int) (fun r u => r = some (.inl out) ∧ u = μ) 4 [some (.inr 31), some (.inl x1), some (.inl x2), some (.inl x3), none] [] μ) (hk : ∀ (x2 : Int32), k x2 = some out → wd_V G (d + 1) RX8 cX8_wrapOf 5 (some .int) (fun r u => r = some (.inl out) ∧ u = μ) 48 [some (.inr 31), none, some (.inl x2), none, none] [] μ) (h : X8_wrapOf_b38 rec k μ x1 x3 s0 = some out) : wd_V G (d + 1) RX8 cX8_wrapOf 5 (some .int) (fun r u => r = some (.inl out) ∧ u = μ) 38 [some (.inr 31), some (.inl x1), none, some (.inl x3), none] [.inl s0] μ := by
  unfold X8_wrapOf_b38 at h
  refine wv_istore_n (pc' := 39) (i := 2) (L' := [some (.inr 31), some (.inl x1), some (.inl s0), some (.inl x3), none]) dX8_wrapOf_38 rfl (by decide) rfl rfl ?_
  refine wv_iload_n (pc' := 40) (i := 3) (v := x3) dX8_wrapOf_39 rfl rfl rfl ?_
  refine wv_iconst (pc' := 41) dX8_wrapOf_40 ic_1 rfl ?_
  refine wv_isub (pc' := 42) dX8_wrapOf_41 rfl ?_
  refine wv_iload_n (pc' := 43) (i := 1) (v := x1) dX8_wrapOf_42 rfl rfl rfl ?_
  refine wv_iand (pc' := 44) dX8_wrapOf_43 rfl ?_
  refine wv_istore_n (pc' := 45) (i := 3) (L' := [some (.inr 31), some (.inl x1), some (.inl s0), some (.inl ((x3 - (1 : Int32)) &&& x1)), none]) dX8_wrapOf_44 rfl (by decide) rfl rfl ?_
  refine wv_goto (pc' := 4) dX8_wrapOf_45 (by decide) ?_
  exact hrec _ _ h
set_option maxRecDepth 100000 in
set_option maxHeartbeats 4000000 in
theorem t_X8_wrapOf_c4 (G : wd_G) (d : Nat) (hd : 2 ≤ d) {out : Int32} (rec : Int32 → Int32 → Option (Int32)) (k : Int32 → Option (Int32)) (μ : wd_Mem) (x1 x2 x3 : Int32) (hrec : ∀ (x2 x3 : Int32), rec x2 x3 = some out → wd_V G (d + 1) RX8 cX8_wrapOf 5 (some .int) (fun r u => r = some (.inl out) ∧ u = μ) 4 [some (.inr 31), some (.inl x1), some (.inl x2), some (.inl x3), none] [] μ) (hk : ∀ (x2 : Int32), k x2 = some out → wd_V G (d + 1) RX8 cX8_wrapOf 5 (some .int) (fun r u => r = some (.inl out) ∧ u = μ) 48 [some (.inr 31), none, some (.inl x2), none, none] [] μ) (h : X8_wrapOf_c4 rec k μ x1 x2 x3 = some out) : wd_V G (d + 1) RX8 cX8_wrapOf 5 (some .int) (fun r u => r = some (.inl out) ∧ u = μ) 4 [some (.inr 31), some (.inl x1), some (.inl x2), some (.inl x3), none] [] μ := by
  unfold X8_wrapOf_c4 at h
  refine wv_iload_n (pc' := 5) (i := 3) (v := x3) dX8_wrapOf_4 rfl rfl rfl ?_
  refine wv_if_le (pc' := 8) (tgt := 48) dX8_wrapOf_5 (by decide) rfl (fun c1 => ?_) (fun c1 => ?_)
  · have h := (if_pos c1).symm.trans h
    refine wv_weak (L' := [some (.inr 31), none, some (.inl x2), none, none]) ⟨rfl, rfl, trivial⟩ ?_
    exact hk _ h
  · have h := (if_neg c1).symm.trans h
    refine wv_aload_n (pc' := 9) (i := 0) (v := 31) dX8_wrapOf_8 rfl rfl rfl ?_
    refine wv_gi (pc' := 12) g_X8_59_31 dX8_wrapOf_9 rfl ?_
    refine wv_aload_n (pc' := 13) (i := 0) (v := 31) dX8_wrapOf_12 rfl rfl rfl ?_
    refine wv_iload_n (pc' := 14) (i := 3) (v := x3) dX8_wrapOf_13 rfl rfl rfl ?_
    obtain ⟨r2, er2, h⟩ := wd_bind_some h
    refine wv_callVi (pc' := 17) (x := r2) (ν := μ) [.inl x3] ml_X8_145 rc_31 rfl (Nat.le_of_ble_eq_true rfl) dX8_wrapOf_14 rfl (c_X8_setEarly G d (Nat.le_trans (Nat.le_of_ble_eq_true rfl) hd)  er2) ?_
    refine wv_imul (pc' := 18) dX8_wrapOf_17 rfl ?_
    refine wv_aload_n (pc' := 19) (i := 0) (v := 31) dX8_wrapOf_18 rfl rfl rfl ?_
    refine wv_iload_n (pc' := 20) (i := 3) (v := x3) dX8_wrapOf_19 rfl rfl rfl ?_
    obtain ⟨r3, er3, h⟩ := wd_bind_some h
    refine wv_callVi (pc' := 23) (x := r3) (ν := μ) [.inl x3] ml_X8_148 rc_31 rfl (Nat.le_of_ble_eq_true rfl) dX8_wrapOf_20 rfl (c_X8_energy G d (Nat.le_trans (Nat.le_of_ble_eq_true rfl) hd)  er3) ?_
    refine wv_iadd (pc' := 24) dX8_wrapOf_23 rfl ?_
    refine wv_istore (pc' := 26) (L' := [some (.inr 31), some (.inl x1), some (.inl x2), some (.inl x3), some (.inl (((μ 31 1) * r2) + r3))]) dX8_wrapOf_24 (by decide) rfl rfl ?_
    refine wv_iload (pc' := 28) (v := (((μ 31 1) * r2) + r3)) dX8_wrapOf_26 rfl rfl ?_
    refine wv_iload_n (pc' := 29) (i := 2) (v := x2) dX8_wrapOf_28 rfl rfl rfl ?_
    refine wv_icmp_le (pc' := 32) (tgt := 37) dX8_wrapOf_29 (by decide) rfl (fun c4 => ?_) (fun c4 => ?_)
    · have h := (if_pos c4).symm.trans h
      refine wv_iload_n (pc' := 38) (i := 2) (v := x2) dX8_wrapOf_37 rfl rfl rfl ?_
      refine wv_weak (L' := [some (.inr 31), some (.inl x1), none, some (.inl x3), none]) ⟨rfl, rfl, rfl, trivial⟩ ?_
      exact t_X8_wrapOf_b38 G d hd rec k μ x1 x3 x2 hrec hk h
    · have h := (if_neg c4).symm.trans h
      refine wv_iload (pc' := 34) (v := (((μ 31 1) * r2) + r3)) dX8_wrapOf_32 rfl rfl ?_
      refine wv_goto (pc' := 38) dX8_wrapOf_34 (by decide) ?_
      refine wv_weak (L' := [some (.inr 31), some (.inl x1), none, some (.inl x3), none]) ⟨rfl, rfl, rfl, trivial⟩ ?_
      exact t_X8_wrapOf_b38 G d hd rec k μ x1 x3 (((μ 31 1) * r2) + r3) hrec hk h
set_option maxRecDepth 100000 in
set_option maxHeartbeats 4000000 in
theorem t_X8_wrapOf_l4 (G : wd_G) (d : Nat) (hd : 2 ≤ d) {out : Int32} (k : Int32 → Option (Int32)) (μ : wd_Mem) (x1 : Int32) (hk : ∀ (x2 : Int32), k x2 = some out → wd_V G (d + 1) RX8 cX8_wrapOf 5 (some .int) (fun r u => r = some (.inl out) ∧ u = μ) 48 [some (.inr 31), none, some (.inl x2), none, none] [] μ) : ∀ (n : Nat) (x2 x3 : Int32), X8_wrapOf_l4 k μ x1 n x2 x3 = some out → wd_V G (d + 1) RX8 cX8_wrapOf 5 (some .int) (fun r u => r = some (.inl out) ∧ u = μ) 4 [some (.inr 31), some (.inl x1), some (.inl x2), some (.inl x3), none] [] μ := by
  intro n
  induction n with
  | zero => intro x2 x3 h; exact absurd h (by unfold X8_wrapOf_l4; simp)
  | succ n ih =>
    intro x2 x3 h
    exact t_X8_wrapOf_c4 G d hd (X8_wrapOf_l4 k μ x1 n) k μ x1 x2 x3  (fun x2 x3 h => ih x2 x3 h) hk h
set_option maxRecDepth 100000 in
set_option maxHeartbeats 4000000 in
theorem t_X8_wrapOf_b48 (G : wd_G) (d : Nat) (hd : 2 ≤ d) {out : Int32} (μ : wd_Mem) (x2 : Int32)  (h : X8_wrapOf_b48 μ x2 = some out) : wd_V G (d + 1) RX8 cX8_wrapOf 5 (some .int) (fun r u => r = some (.inl out) ∧ u = μ) 48 [some (.inr 31), none, some (.inl x2), none, none] [] μ := by
  unfold X8_wrapOf_b48 at h
  refine wv_iload_n (pc' := 49) (i := 2) (v := x2) dX8_wrapOf_48 rfl rfl rfl ?_
  exact wv_ireturn rfl dX8_wrapOf_49 (wd_li h)
set_option maxRecDepth 100000 in
set_option maxHeartbeats 4000000 in
theorem t_X8_wrapOf_b0 (G : wd_G) (d : Nat) (hd : 2 ≤ d) {out : Int32} (μ : wd_Mem) (x1 : Int32)  (h : X8_wrapOf_b0 μ x1 = some out) : wd_V G (d + 1) RX8 cX8_wrapOf 5 (some .int) (fun r u => r = some (.inl out) ∧ u = μ) 0 [some (.inr 31), some (.inl x1), none, none, none] [] μ := by
  unfold X8_wrapOf_b0 at h
  refine wv_iconst (pc' := 1) dX8_wrapOf_0 ic_m1 rfl ?_
  refine wv_istore_n (pc' := 2) (i := 2) (L' := [some (.inr 31), some (.inl x1), some (.inl (-1 : Int32)), none, none]) dX8_wrapOf_1 rfl (by decide) rfl rfl ?_
  refine wv_iload_n (pc' := 3) (i := 1) (v := x1) dX8_wrapOf_2 rfl rfl rfl ?_
  refine wv_istore_n (pc' := 4) (i := 3) (L' := [some (.inr 31), some (.inl x1), some (.inl (-1 : Int32)), some (.inl x1), none]) dX8_wrapOf_3 rfl (by decide) rfl rfl ?_
  exact t_X8_wrapOf_l4 G d hd (fun x2 => X8_wrapOf_b48 μ x2) μ x1  (fun x2 h => t_X8_wrapOf_b48 G d hd μ x2  h) wd_big (-1 : Int32) x1 h
set_option maxRecDepth 100000 in
set_option maxHeartbeats 4000000 in
theorem c_X8_wrapOf (G : wd_G) (d : Nat) (hd : 3 ≤ d) {μ : wd_Mem} {x1 : Int32} {out : Int32}  (h : X8_wrapOf μ x1 = some out) : wd_C G d yX8_wrapOf [.inr 31, .inl x1] μ (fun r u => r = some (.inl out) ∧ u = μ) := by
  obtain ⟨d, rfl⟩ : ∃ e, d = e + 1 := ⟨d - 1, by omega⟩
  refine wd_enter mc_X8_wrapOf (by decide) (by decide +kernel) rfl (Nat.le_of_ble_eq_true rfl) (L0 := [some (.inr 31), some (.inl x1), none, none, none]) rfl ?_
  exact t_X8_wrapOf_b0 G d (by omega) μ x1 h
set_option maxRecDepth 100000 in
set_option maxHeartbeats 4000000 in
theorem t_X8_wrap_b0 (G : wd_G) (d : Nat) (hd : 3 ≤ d) {out : Int32 × wd_Mem} (μ : wd_Mem) (x1 : Int32)  (h : X8_wrap_b0 μ x1 = some out) : wd_V G (d + 1) RX8 cX8_wrap 2 (some .int) (fun r u => r = some (.inl out.1) ∧ u = out.2) 0 [some (.inr 31), some (.inl x1)] [] μ := by
  unfold X8_wrap_b0 at h
  refine wv_iload_n (pc' := 1) (i := 1) (v := x1) dX8_wrap_0 rfl rfl rfl ?_
  refine wv_iconst (pc' := 2) dX8_wrap_1 ic_1 rfl ?_
  refine wv_aload_n (pc' := 3) (i := 0) (v := 31) dX8_wrap_2 rfl rfl rfl ?_
  refine wv_callVi (pc' := 6) (x := (X8_all μ)) (ν := μ) [] ml_X8_141 rc_31 rfl (Nat.le_of_ble_eq_true rfl) dX8_wrap_3 rfl (c_X8_all G d (Nat.le_trans (Nat.le_of_ble_eq_true rfl) hd)  rfl) ?_
  refine wv_callSi (pc' := 9) (x := (X8_in μ x1 (1 : Int32) (X8_all μ))) (ν := μ) [.inl x1, .inl (1 : Int32), .inl (X8_all μ)] ml_X8_63 rfl (Nat.le_of_ble_eq_true rfl) dX8_wrap_6 rfl (c_X8_in G d (Nat.le_trans (Nat.le_of_ble_eq_true rfl) hd)  rfl) ?_
  refine wv_if_ne (pc' := 12) (tgt := 14) dX8_wrap_9 (by decide) rfl (fun c1 => ?_) (fun c1 => ?_)
  · have h := (if_neg c1).symm.trans h
    refine wv_aload_n (pc' := 15) (i := 0) (v := 31) dX8_wrap_14 rfl rfl rfl ?_
    obtain ⟨r2, er2, h⟩ := wd_bind_some h
    refine wv_callVv (pc' := 18) (ν := r2) [] ml_X8_223 rc_31 rfl (Nat.le_of_ble_eq_true rfl) dX8_wrap_15 rfl (c_X8_asIs G d (Nat.le_trans (Nat.le_of_ble_eq_true rfl) hd)  er2) ?_
    refine wv_aload_n (pc' := 19) (i := 0) (v := 31) dX8_wrap_18 rfl rfl rfl ?_
    refine wv_iload_n (pc' := 20) (i := 1) (v := x1) dX8_wrap_19 rfl rfl rfl ?_
    obtain ⟨r3, er3, h⟩ := wd_bind_some h
    refine wv_callVi (pc' := 23) (x := r3) (ν := r2) [.inl x1] ml_X8_226 rc_31 rfl (Nat.le_of_ble_eq_true rfl) dX8_wrap_20 rfl (c_X8_wrapOf G d (Nat.le_trans (Nat.le_of_ble_eq_true rfl) hd)  er3) ?_
    exact wv_ireturn rfl dX8_wrap_23 (wd_liv h)
  · have h := (if_pos c1).symm.trans h
    refine wv_iconst (pc' := 13) dX8_wrap_12 ic_m1 rfl ?_
    exact wv_ireturn rfl dX8_wrap_13 (wd_liv h)
set_option maxRecDepth 100000 in
set_option maxHeartbeats 4000000 in
theorem c_X8_wrap (G : wd_G) (d : Nat) (hd : 4 ≤ d) {μ : wd_Mem} {x1 : Int32} {out : Int32 × wd_Mem}  (h : X8_wrap μ x1 = some out) : wd_C G d yX8_wrap [.inr 31, .inl x1] μ (fun r u => r = some (.inl out.1) ∧ u = out.2) := by
  obtain ⟨d, rfl⟩ : ∃ e, d = e + 1 := ⟨d - 1, by omega⟩
  refine wd_enter mc_X8_wrap (by decide) (by decide +kernel) rfl (Nat.le_of_ble_eq_true rfl) (L0 := [some (.inr 31), some (.inl x1)]) rfl ?_
  exact t_X8_wrap_b0 G d (by omega) μ x1 h
set_option maxRecDepth 100000 in
set_option maxHeartbeats 4000000 in
theorem t_X8_grey_b39 (G : wd_G) (d : Nat) (hd : 3 ≤ d) {out : Int32 × wd_Mem} (μ : wd_Mem)  (h : X8_grey_b39 μ = some out) : wd_V G (d + 1) RX8 cX8_grey 8 (some .int) (fun r u => r = some (.inl out.1) ∧ u = out.2) 39 [some (.inr 31), none, none, none, none, none, none, none] [] μ := by
  unfold X8_grey_b39 at h
  refine wv_iconst (pc' := 40) dX8_grey_39 ic_m1 rfl ?_
  exact wv_ireturn rfl dX8_grey_40 (wd_liv h)
set_option maxRecDepth 100000 in
set_option maxHeartbeats 4000000 in
theorem t_X8_grey_b119 (G : wd_G) (d : Nat) (hd : 3 ≤ d) {out : Int32 × wd_Mem} (rec : Int32 → Int32 → Int32 → Option (Int32 × wd_Mem)) (k : Int32 → Int32 → Option (Int32 × wd_Mem)) (μ : wd_Mem) (x1 x2 x3 x4 x6 s0 : Int32) (hrec : ∀ (x4 x5 x6 : Int32), rec x4 x5 x6 = some out → wd_V G (d + 1) RX8 cX8_grey 8 (some .int) (fun r u => r = some (.inl out.1) ∧ u = out.2) 55 [some (.inr 31), some (.inl x1), some (.inl x2), some (.inl x3), some (.inl x4), some (.inl x5), some (.inl x6), none] [] μ) (hk : ∀ (x4 x5 : Int32), k x4 x5 = some out → wd_V G (d + 1) RX8 cX8_grey 8 (some .int) (fun r u => r = some (.inl out.1) ∧ u = out.2) 127 [some (.inr 31), none, none, some (.inl x3), some (.inl x4), some (.inl x5), none, none] [] μ) (h : X8_grey_b119 rec k μ x1 x2 x3 x4 x6 s0 = some out) : wd_V G (d + 1) RX8 cX8_grey 8 (some .int) (fun r u => r = some (.inl out.1) ∧ u = out.2) 119 [some (.inr 31), some (.inl x1), some (.inl x2), some (.inl x3), some (.inl x4), none, some (.inl x6), none] [.inl s0] μ := by
  unfold X8_grey_b119 at h
  refine wv_istore (pc' := 121) (L' := [some (.inr 31), some (.inl x1), some (.inl x2), some (.inl x3), some (.inl x4), some (.inl s0), some (.inl x6), none]) dX8_grey_119 (by decide) rfl rfl ?_
  refine wv_inc (pc' := 124) (x := x6) (L' := [some (.inr 31), some (.inl x1), some (.inl x2), some (.inl x3), some (.inl x4), some (.inl s0), some (.inl (x6 + (1 : Int32))), none]) dX8_grey_121 ic_1 rfl (by decide) rfl rfl ?_
  refine wv_goto (pc' := 55) dX8_grey_124 (by decide) ?_
  exact hrec _ _ _ h
set_option maxRecDepth 100000 in
set_option maxHeartbeats 4000000 in
theorem t_X8_grey_b103 (G : wd_G) (d : Nat) (hd : 3 ≤ d) {out : Int32 × wd_Mem} (rec : Int32 → Int32 → Int32 → Option (Int32 × wd_Mem)) (k : Int32 → Int32 → Option (Int32 × wd_Mem)) (μ : wd_Mem) (x1 x2 x3 x5 x6 x7 s0 : Int32) (hrec : ∀ (x4 x5 x6 : Int32), rec x4 x5 x6 = some out → wd_V G (d + 1) RX8 cX8_grey 8 (some .int) (fun r u => r = some (.inl out.1) ∧ u = out.2) 55 [some (.inr 31), some (.inl x1), some (.inl x2), some (.inl x3), some (.inl x4), some (.inl x5), some (.inl x6), none] [] μ) (hk : ∀ (x4 x5 : Int32), k x4 x5 = some out → wd_V G (d + 1) RX8 cX8_grey 8 (some .int) (fun r u => r = some (.inl out.1) ∧ u = out.2) 127 [some (.inr 31), none, none, some (.inl x3), some (.inl x4), some (.inl x5), none, none] [] μ) (h : X8_grey_b103 rec k μ x1 x2 x3 x5 x6 x7 s0 = some out) : wd_V G (d + 1) RX8 cX8_grey 8 (some .int) (fun r u => r = some (.inl out.1) ∧ u = out.2) 103 [some (.inr 31), some (.inl x1), some (.inl x2), some (.inl x3), none, some (.inl x5), some (.inl x6), some (.inl x7)] [.inl s0] μ := by
  unfold X8_grey_b103 at h
  refine wv_istore (pc' := 105) (L' := [some (.inr 31), some (.inl x1), some (.inl x2), some (.inl x3), some (.inl s0), some (.inl x5), some (.inl x6), some (.inl x7)]) dX8_grey_103 (by decide) rfl rfl ?_
  refine wv_iload (pc' := 107) (v := x7) dX8_grey_105 rfl rfl ?_
  refine wv_iload (pc' := 109) (v := x5) dX8_grey_107 rfl rfl ?_
  refine wv_icmp_le (pc' := 112) (tgt := 117) dX8_grey_109 (by decide) rfl (fun c9 => ?_) (fun c9 => ?_)
  · have h := (if_pos c9).symm.trans h
    refine wv_iload (pc' := 119) (v := x5) dX8_grey_117 rfl rfl ?_
    refine wv_weak (L' := [some (.inr 31), some (.inl x1), some (.inl x2), some (.inl x3), some (.inl s0), none, some (.inl x6), none]) ⟨rfl, rfl, rfl, rfl, rfl, rfl, trivial⟩ ?_
    exact t_X8_grey_b119 G d hd rec k μ x1 x2 x3 s0 x6 x5 hrec hk h
  · have h := (if_neg c9).symm.trans h
    refine wv_iload (pc' := 114) (v := x7) dX8_grey_112 rfl rfl ?_
    refine wv_goto (pc' := 119) dX8_grey_114 (by decide) ?_
    refine wv_weak (L' := [some (.inr 31), some (.inl x1), some (.inl x2), some (.inl x3), some (.inl s0), none, some (.inl x6), none]) ⟨rfl, rfl, rfl, rfl, rfl, rfl, trivial⟩ ?_
    exact t_X8_grey_b119 G d hd rec k μ x1 x2 x3 s0 x6 x7 hrec hk h
set_option maxRecDepth 100000 in
set_option maxHeartbeats 4000000 in
theorem t_X8_grey_b87 (G : wd_G) (d : Nat) (hd : 3 ≤ d) {out : Int32 × wd_Mem} (rec : Int32 → Int32 → Int32 → Option (Int32 × wd_Mem)) (k : Int32 → Int32 → Option (Int32 × wd_Mem)) (μ : wd_Mem) (x1 x2 x3 x4 x5 x6 s0 : Int32) (hrec : ∀ (x4 x5 x6 : Int32), rec x4 x5 x6 = some out → wd_V G (d + 1) RX8 cX8_grey 8 (some .int) (fun r u => r = some (.inl out.1) ∧ u = out.2) 55 [some (.inr 31), some (.inl x1), some (.inl x2), some (.inl x3), some (.inl x4), some (.inl x5), some (.inl x6), none] [] μ) (hk : ∀ (x4 x5 : Int32), k x4 x5 = some out → wd_V G (d + 1) RX8 cX8_grey 8 (some .int) (fun r u => r = some (.inl out.1) ∧ u = out.2) 127 [some (.inr 31), none, none, some (.inl x3), some (.inl x4), some (.inl x5), none, none] [] μ) (h : X8_grey_b87 rec k μ x1 x2 x3 x4 x5 x6 s0 = some out) : wd_V G (d + 1) RX8 cX8_grey 8 (some .int) (fun r u => r = some (.inl out.1) ∧ u = out.2) 87 [some (.inr 31), some (.inl x1), some (.inl x2), some (.inl x3), some (.inl x4), some (.inl x5), some (.inl x6), none] [.inl s0] μ := by
  unfold X8_grey_b87 at h
  refine wv_istore (pc' := 89) (L' := [some (.inr 31), some (.inl x1), some (.inl x2), some (.inl x3), some (.inl x4), some (.inl x5), some (.inl x6), some (.inl s0)]) dX8_grey_87 (by decide) rfl rfl ?_
  refine wv_iload (pc' := 91) (v := s0) dX8_grey_89 rfl rfl ?_
  refine wv_iload (pc' := 93) (v := x5) dX8_grey_91 rfl rfl ?_
  refine wv_icmp_le (pc' := 96) (tgt := 101) dX8_grey_93 (by decide) rfl (fun c8 => ?_) (fun c8 => ?_)
  · have h := (if_pos c8).symm.trans h
    refine wv_iload (pc' := 103) (v := x4) dX8_grey_101 rfl rfl ?_
    refine wv_weak (L' := [some (.inr 31), some (.inl x1), some (.inl x2), some (.inl x3), none, some (.inl x5), some (.inl x6), some (.inl s0)]) ⟨rfl, rfl, rfl, rfl, rfl, rfl, rfl, trivial⟩ ?_
    exact t_X8_grey_b103 G d hd rec k μ x1 x2 x3 x5 x6 s0 x4 hrec hk h
  · have h := (if_neg c8).symm.trans h
    refine wv_iload (pc' := 98) (v := x6) dX8_grey_96 rfl rfl ?_
    refine wv_goto (pc' := 103) dX8_grey_98 (by decide) ?_
    refine wv_weak (L' := [some (.inr 31), some (.inl x1), some (.inl x2), some (.inl x3), none, some (.inl x5), some (.inl x6), some (.inl s0)]) ⟨rfl, rfl, rfl, rfl, rfl, rfl, rfl, trivial⟩ ?_
    exact t_X8_grey_b103 G d hd rec k μ x1 x2 x3 x5 x6 s0 x6 hrec hk h
set_option maxRecDepth 100000 in
set_option maxHeartbeats 4000000 in
theorem t_X8_grey_c55 (G : wd_G) (d : Nat) (hd : 3 ≤ d) {out : Int32 × wd_Mem} (rec : Int32 → Int32 → Int32 → Option (Int32 × wd_Mem)) (k : Int32 → Int32 → Option (Int32 × wd_Mem)) (μ : wd_Mem) (x1 x2 x3 x4 x5 x6 : Int32) (hrec : ∀ (x4 x5 x6 : Int32), rec x4 x5 x6 = some out → wd_V G (d + 1) RX8 cX8_grey 8 (some .int) (fun r u => r = some (.inl out.1) ∧ u = out.2) 55 [some (.inr 31), some (.inl x1), some (.inl x2), some (.inl x3), some (.inl x4), some (.inl x5), some (.inl x6), none] [] μ) (hk : ∀ (x4 x5 : Int32), k x4 x5 = some out → wd_V G (d + 1) RX8 cX8_grey 8 (some .int) (fun r u => r = some (.inl out.1) ∧ u = out.2) 127 [some (.inr 31), none, none, some (.inl x3), some (.inl x4), some (.inl x5), none, none] [] μ) (h : X8_grey_c55 rec k μ x1 x2 x3 x4 x5 x6 = some out) : wd_V G (d + 1) RX8 cX8_grey 8 (some .int) (fun r u => r = some (.inl out.1) ∧ u = out.2) 55 [some (.inr 31), some (.inl x1), some (.inl x2), some (.inl x3), some (.inl x4), some (.inl x5), some (.inl x6), none] [] μ := by
  unfold X8_grey_c55 at h
  refine wv_iload (pc' := 57) (v := x6) dX8_grey_55 rfl rfl ?_
  refine wv_aload_n (pc' := 58) (i := 0) (v := 31) dX8_grey_57 rfl rfl rfl ?_
  refine wv_gi (pc' := 61) g_X8_118_31 dX8_grey_58 rfl ?_
  refine wv_icmp_ge (pc' := 64) (tgt := 127) dX8_grey_61 (by decide) rfl (fun c6 => ?_) (fun c6 => ?_)
  · have h := (if_pos c6).symm.trans h
    refine wv_weak (L' := [some (.inr 31), none, none, some (.inl x3), some (.inl x4), some (.inl x5), none, none]) ⟨rfl, rfl, rfl, rfl, trivial⟩ ?_
    exact hk _ _ h
  · have h := (if_neg c6).symm.trans h
    refine wv_iload_n (pc' := 65) (i := 2) (v := x2) dX8_grey_64 rfl rfl rfl ?_
    refine wv_iload (pc' := 67) (v := x6) dX8_grey_65 rfl rfl ?_
    refine wv_callSi (pc' := 70) (x := (X8_has μ x2 x6)) (ν := μ) [.inl x2, .inl x6] ml_X8_124 rfl (Nat.le_of_ble_eq_true rfl) dX8_grey_67 rfl (c_X8_has G d (Nat.le_trans (Nat.le_of_ble_eq_true rfl) hd)  rfl) ?_
    refine wv_if_eq (pc' := 73) (tgt := 86) dX8_grey_70 (by decide) rfl (fun c7 => ?_) (fun c7 => ?_)
    · have h := (if_pos c7).symm.trans h
      refine wv_iconst (pc' := 87) dX8_grey_86 ic_m1 rfl ?_
      exact t_X8_grey_b87 G d hd rec k μ x1 x2 x3 x4 x5 x6 (-1 : Int32) hrec hk h
    · have h := (if_neg c7).symm.trans h
      refine wv_aload_n (pc' := 74) (i := 0) (v := 31) dX8_grey_73 rfl rfl rfl ?_
      refine wv_iload_n (pc' := 75) (i := 1) (v := x1) dX8_grey_74 rfl rfl rfl ?_
      refine wv_iconst (pc' := 76) dX8_grey_75 ic_1 rfl ?_
      refine wv_iload (pc' := 78) (v := x6) dX8_grey_76 rfl rfl ?_
      refine wv_ishl (pc' := 79) dX8_grey_78 rfl ?_
      refine wv_ior (pc' := 80) dX8_grey_79 rfl ?_
      obtain ⟨r10, er10, h⟩ := wd_bind_some h
      refine wv_callVi (pc' := 83) (x := r10) (ν := μ) [.inl (x1 ||| ((1 : Int32) <<< (x6 &&& 31)))] ml_X8_226 rc_31 rfl (Nat.le_of_ble_eq_true rfl) dX8_grey_80 rfl (c_X8_wrapOf G d (Nat.le_trans (Nat.le_of_ble_eq_true rfl) hd)  er10) ?_
      refine wv_goto (pc' := 87) dX8_grey_83 (by decide) ?_
      exact t_X8_grey_b87 G d hd rec k μ x1 x2 x3 x4 x5 x6 r10 hrec hk h
set_option maxRecDepth 100000 in
set_option maxHeartbeats 4000000 in
theorem t_X8_grey_l55 (G : wd_G) (d : Nat) (hd : 3 ≤ d) {out : Int32 × wd_Mem} (k : Int32 → Int32 → Option (Int32 × wd_Mem)) (μ : wd_Mem) (x1 x2 x3 : Int32) (hk : ∀ (x4 x5 : Int32), k x4 x5 = some out → wd_V G (d + 1) RX8 cX8_grey 8 (some .int) (fun r u => r = some (.inl out.1) ∧ u = out.2) 127 [some (.inr 31), none, none, some (.inl x3), some (.inl x4), some (.inl x5), none, none] [] μ) : ∀ (n : Nat) (x4 x5 x6 : Int32), X8_grey_l55 k μ x1 x2 x3 n x4 x5 x6 = some out → wd_V G (d + 1) RX8 cX8_grey 8 (some .int) (fun r u => r = some (.inl out.1) ∧ u = out.2) 55 [some (.inr 31), some (.inl x1), some (.inl x2), some (.inl x3), some (.inl x4), some (.inl x5), some (.inl x6), none] [] μ := by
  intro n
  induction n with
  | zero => intro x4 x5 x6 h; exact absurd h (by unfold X8_grey_l55; simp)
  | succ n ih =>
    intro x4 x5 x6 h
    exact t_X8_grey_c55 G d hd (X8_grey_l55 k μ x1 x2 x3 n) k μ x1 x2 x3 x4 x5 x6  (fun x4 x5 x6 h => ih x4 x5 x6 h) hk h
set_option maxRecDepth 100000 in
set_option maxHeartbeats 4000000 in
theorem t_X8_grey_b127 (G : wd_G) (d : Nat) (hd : 3 ≤ d) {out : Int32 × wd_Mem} (μ : wd_Mem) (x3 x4 x5 : Int32)  (h : X8_grey_b127 μ x3 x4 x5 = some out) : wd_V G (d + 1) RX8 cX8_grey 8 (some .int) (fun r u => r = some (.inl out.1) ∧ u = out.2) 127 [some (.inr 31), none, none, some (.inl x3), some (.inl x4), some (.inl x5), none, none] [] μ := by
  unfold X8_grey_b127 at h
  refine wv_iload_n (pc' := 128) (i := 3) (v := x3) dX8_grey_127 rfl rfl rfl ?_
  refine wv_if_ne (pc' := 131) (tgt := 136) dX8_grey_128 (by decide) rfl (fun c11 => ?_) (fun c11 => ?_)
  · have h := (if_neg c11).symm.trans h
    refine wv_iload (pc' := 138) (v := x4) dX8_grey_136 rfl rfl ?_
    exact wv_ireturn rfl dX8_grey_138 (wd_liv h)
  · have h := (if_pos c11).symm.trans h
    refine wv_iload (pc' := 133) (v := x5) dX8_grey_131 rfl rfl ?_
    refine wv_goto (pc' := 138) dX8_grey_133 (by decide) ?_
    exact wv_ireturn rfl dX8_grey_138 (wd_liv h)
set_option maxRecDepth 100000 in
set_option maxHeartbeats 4000000 in
theorem t_X8_grey_b0 (G : wd_G) (d : Nat) (hd : 3 ≤ d) {out : Int32 × wd_Mem} (μ : wd_Mem) (x1 x2 x3 : Int32)  (h : X8_grey_b0 μ x1 x2 x3 = some out) : wd_V G (d + 1) RX8 cX8_grey 8 (some .int) (fun r u => r = some (.inl out.1) ∧ u = out.2) 0 [some (.inr 31), some (.inl x1), some (.inl x2), some (.inl x3), none, none, none, none] [] μ := by
  unfold X8_grey_b0 at h
  refine wv_iload_n (pc' := 1) (i := 1) (v := x1) dX8_grey_0 rfl rfl rfl ?_
  refine wv_iconst (pc' := 2) dX8_grey_1 ic_0 rfl ?_
  refine wv_aload_n (pc' := 3) (i := 0) (v := 31) dX8_grey_2 rfl rfl rfl ?_
  refine wv_callVi (pc' := 6) (x := (X8_all μ)) (ν := μ) [] ml_X8_141 rc_31 rfl (Nat.le_of_ble_eq_true rfl) dX8_grey_3 rfl (c_X8_all G d (Nat.le_trans (Nat.le_of_ble_eq_true rfl) hd)  rfl) ?_
  refine wv_callSi (pc' := 9) (x := (X8_in μ x1 (0 : Int32) (X8_all μ))) (ν := μ) [.inl x1, .inl (0 : Int32), .inl (X8_all μ)] ml_X8_63 rfl (Nat.le_of_ble_eq_true rfl) dX8_grey_6 rfl (c_X8_in G d (Nat.le_trans (Nat.le_of_ble_eq_true rfl) hd)  rfl) ?_
  refine wv_if_eq (pc' := 12) (tgt := 39) dX8_grey_9 (by decide) rfl (fun c1 => ?_) (fun c1 => ?_)
  · have h := (if_pos c1).symm.trans h
    refine wv_weak (L' := [some (.inr 31), none, none, none, none, none, none, none]) ⟨rfl, trivial⟩ ?_
    exact t_X8_grey_b39 G d hd μ  h
  · have h := (if_neg c1).symm.trans h
    refine wv_iload_n (pc' := 13) (i := 2) (v := x2) dX8_grey_12 rfl rfl rfl ?_
    refine wv_iconst (pc' := 14) dX8_grey_13 ic_1 rfl ?_
    refine wv_aload_n (pc' := 15) (i := 0) (v := 31) dX8_grey_14 rfl rfl rfl ?_
    refine wv_callVi (pc' := 18) (x := (X8_all μ)) (ν := μ) [] ml_X8_141 rc_31 rfl (Nat.le_of_ble_eq_true rfl) dX8_grey_15 rfl (c_X8_all G d (Nat.le_trans (Nat.le_of_ble_eq_true rfl) hd)  rfl) ?_
    refine wv_callSi (pc' := 21) (x := (X8_in μ x2 (1 : Int32) (X8_all μ))) (ν := μ) [.inl x2, .inl (1 : Int32), .inl (X8_all μ)] ml_X8_63 rfl (Nat.le_of_ble_eq_true rfl) dX8_grey_18 rfl (c_X8_in G d (Nat.le_trans (Nat.le_of_ble_eq_true rfl) hd)  rfl) ?_
    refine wv_if_eq (pc' := 24) (tgt := 39) dX8_grey_21 (by decide) rfl (fun c2 => ?_) (fun c2 => ?_)
    · have h := (if_pos c2).symm.trans h
      refine wv_weak (L' := [some (.inr 31), none, none, none, none, none, none, none]) ⟨rfl, trivial⟩ ?_
      exact t_X8_grey_b39 G d hd μ  h
    · have h := (if_neg c2).symm.trans h
      refine wv_iload_n (pc' := 25) (i := 1) (v := x1) dX8_grey_24 rfl rfl rfl ?_
      refine wv_iload_n (pc' := 26) (i := 2) (v := x2) dX8_grey_25 rfl rfl rfl ?_
      refine wv_iand (pc' := 27) dX8_grey_26 rfl ?_
      refine wv_if_ne (pc' := 30) (tgt := 39) dX8_grey_27 (by decide) rfl (fun c3 => ?_) (fun c3 => ?_)
      · have h := (if_neg c3).symm.trans h
        refine wv_weak (L' := [some (.inr 31), none, none, none, none, none, none, none]) ⟨rfl, trivial⟩ ?_
        exact t_X8_grey_b39 G d hd μ  h
      · have h := (if_pos c3).symm.trans h
        refine wv_iload_n (pc' := 31) (i := 3) (v := x3) dX8_grey_30 rfl rfl rfl ?_
        refine wv_iconst (pc' := 32) dX8_grey_31 ic_0 rfl ?_
        refine wv_iconst (pc' := 33) dX8_grey_32 ic_1 rfl ?_
        refine wv_callSi (pc' := 36) (x := (X8_in μ x3 (0 : Int32) (1 : Int32))) (ν := μ) [.inl x3, .inl (0 : Int32), .inl (1 : Int32)] ml_X8_63 rfl (Nat.le_of_ble_eq_true rfl) dX8_grey_33 rfl (c_X8_in G d (Nat.le_trans (Nat.le_of_ble_eq_true rfl) hd)  rfl) ?_
        refine wv_if_ne (pc' := 39) (tgt := 41) dX8_grey_36 (by decide) rfl (fun c4 => ?_) (fun c4 => ?_)
        · have h := (if_neg c4).symm.trans h
          refine wv_aload_n (pc' := 42) (i := 0) (v := 31) dX8_grey_41 rfl rfl rfl ?_
          obtain ⟨r5, er5, h⟩ := wd_bind_some h
          refine wv_callVv (pc' := 45) (ν := r5) [] ml_X8_223 rc_31 rfl (Nat.le_of_ble_eq_true rfl) dX8_grey_42 rfl (c_X8_asIs G d (Nat.le_trans (Nat.le_of_ble_eq_true rfl) hd)  er5) ?_
          refine wv_bipush (pc' := 47) dX8_grey_45 bp_m9 rfl ?_
          refine wv_istore (pc' := 49) (L' := [some (.inr 31), some (.inl x1), some (.inl x2), some (.inl x3), some (.inl (-9 : Int32)), none, none, none]) dX8_grey_47 (by decide) rfl rfl ?_
          refine wv_iconst (pc' := 50) dX8_grey_49 ic_m1 rfl ?_
          refine wv_istore (pc' := 52) (L' := [some (.inr 31), some (.inl x1), some (.inl x2), some (.inl x3), some (.inl (-9 : Int32)), some (.inl (-1 : Int32)), none, none]) dX8_grey_50 (by decide) rfl rfl ?_
          refine wv_iconst (pc' := 53) dX8_grey_52 ic_0 rfl ?_
          refine wv_istore (pc' := 55) (L' := [some (.inr 31), some (.inl x1), some (.inl x2), some (.inl x3), some (.inl (-9 : Int32)), some (.inl (-1 : Int32)), some (.inl (0 : Int32)), none]) dX8_grey_53 (by decide) rfl rfl ?_
          exact t_X8_grey_l55 G d hd (fun x4 x5 => X8_grey_b127 r5 x3 x4 x5) r5 x1 x2 x3  (fun x4 x5 h => t_X8_grey_b127 G d hd r5 x3 x4 x5  h) wd_big (-9 : Int32) (-1 : Int32) (0 : Int32) h
        · have h := (if_pos c4).symm.trans h
          refine wv_weak (L' := [some (.inr 31), none, none, none, none, none, none, none]) ⟨rfl, trivial⟩ ?_
          exact t_X8_grey_b39 G d hd μ  h
set_option maxRecDepth 100000 in
set_option maxHeartbeats 4000000 in
theorem c_X8_grey (G : wd_G) (d : Nat) (hd : 4 ≤ d) {μ : wd_Mem} {x1 x2 x3 : Int32} {out : Int32 × wd_Mem}  (h : X8_grey μ x1 x2 x3 = some out) : wd_C G d yX8_grey [.inr 31, .inl x1, .inl x2, .inl x3] μ (fun r u => r = some (.inl out.1) ∧ u = out.2) := by
  obtain ⟨d, rfl⟩ : ∃ e, d = e + 1 := ⟨d - 1, by omega⟩
  refine wd_enter mc_X8_grey (by decide) (by decide +kernel) rfl (Nat.le_of_ble_eq_true rfl) (L0 := [some (.inr 31), some (.inl x1), some (.inl x2), some (.inl x3), none, none, none, none]) rfl ?_
  exact t_X8_grey_b0 G d (by omega) μ x1 x2 x3 h
