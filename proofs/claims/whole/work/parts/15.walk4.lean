set_option maxRecDepth 100000 in
set_option maxHeartbeats 4000000 in
theorem t_X8_odds_b19 (G : wd_G) (d : Nat) (hd : 2 ≤ d) {out : Int32 × wd_Mem} (μ : wd_Mem)  (h : X8_odds_b19 μ = some out) : wd_V G (d + 1) RX8 cX8_odds 8 (some .int) (fun r u => r = some (.inl out.1) ∧ u = out.2) 19 [some (.inr 31), none, none, none, none, none, none, none] [] μ := by
  unfold X8_odds_b19 at h
  refine wv_iconst (pc' := 20) dX8_odds_19 ic_m1 rfl ?_
  exact wv_ireturn rfl dX8_odds_20 (wd_liv h)
set_option maxRecDepth 100000 in
set_option maxHeartbeats 4000000 in
theorem t_X8_odds_c26 (G : wd_G) (d : Nat) (hd : 2 ≤ d) {out : Int32 × wd_Mem} (rec : Int32 → Int32 → Option (Int32 × wd_Mem)) (k : Int32 → Option (Int32 × wd_Mem)) (μ : wd_Mem) (x1 x2 x3 x4 : Int32) (hrec : ∀ (x3 x4 : Int32), rec x3 x4 = some out → wd_V G (d + 1) RX8 cX8_odds 8 (some .int) (fun r u => r = some (.inl out.1) ∧ u = out.2) 26 [some (.inr 31), some (.inl x1), some (.inl x2), some (.inl x3), some (.inl x4), none, none, none] [] μ) (hk : ∀ (x3 : Int32), k x3 = some out → wd_V G (d + 1) RX8 cX8_odds 8 (some .int) (fun r u => r = some (.inl out.1) ∧ u = out.2) 46 [some (.inr 31), some (.inl x1), some (.inl x2), some (.inl x3), none, none, none, none] [] μ) (h : X8_odds_c26 rec k μ x1 x2 x3 x4 = some out) : wd_V G (d + 1) RX8 cX8_odds 8 (some .int) (fun r u => r = some (.inl out.1) ∧ u = out.2) 26 [some (.inr 31), some (.inl x1), some (.inl x2), some (.inl x3), some (.inl x4), none, none, none] [] μ := by
  unfold X8_odds_c26 at h
  refine wv_iload (pc' := 28) (v := x4) dX8_odds_26 rfl rfl ?_
  refine wv_aload_n (pc' := 29) (i := 0) (v := 31) dX8_odds_28 rfl rfl rfl ?_
  refine wv_gi (pc' := 32) g_X8_118_31 dX8_odds_29 rfl ?_
  refine wv_icmp_ge (pc' := 35) (tgt := 46) dX8_odds_32 (by decide) rfl (fun c3 => ?_) (fun c3 => ?_)
  · have h := (if_pos c3).symm.trans h
    refine wv_weak (L' := [some (.inr 31), some (.inl x1), some (.inl x2), some (.inl x3), none, none, none, none]) ⟨rfl, rfl, rfl, rfl, trivial⟩ ?_
    exact hk _ h
  · have h := (if_neg c3).symm.trans h
    refine wv_iload_n (pc' := 36) (i := 3) (v := x3) dX8_odds_35 rfl rfl rfl ?_
    refine wv_bipush (pc' := 38) dX8_odds_36 bp_10 rfl ?_
    refine wv_imul (pc' := 39) dX8_odds_38 rfl ?_
    refine wv_istore_n (pc' := 40) (i := 3) (L' := [some (.inr 31), some (.inl x1), some (.inl x2), some (.inl (x3 * (10 : Int32))), some (.inl x4), none, none, none]) dX8_odds_39 rfl (by decide) rfl rfl ?_
    refine wv_inc (pc' := 43) (x := x4) (L' := [some (.inr 31), some (.inl x1), some (.inl x2), some (.inl (x3 * (10 : Int32))), some (.inl (x4 + (1 : Int32))), none, none, none]) dX8_odds_40 ic_1 rfl (by decide) rfl rfl ?_
    refine wv_goto (pc' := 26) dX8_odds_43 (by decide) ?_
    exact hrec _ _ h
set_option maxRecDepth 100000 in
set_option maxHeartbeats 4000000 in
theorem t_X8_odds_l26 (G : wd_G) (d : Nat) (hd : 2 ≤ d) {out : Int32 × wd_Mem} (k : Int32 → Option (Int32 × wd_Mem)) (μ : wd_Mem) (x1 x2 : Int32) (hk : ∀ (x3 : Int32), k x3 = some out → wd_V G (d + 1) RX8 cX8_odds 8 (some .int) (fun r u => r = some (.inl out.1) ∧ u = out.2) 46 [some (.inr 31), some (.inl x1), some (.inl x2), some (.inl x3), none, none, none, none] [] μ) : ∀ (n : Nat) (x3 x4 : Int32), X8_odds_l26 k μ x1 x2 n x3 x4 = some out → wd_V G (d + 1) RX8 cX8_odds 8 (some .int) (fun r u => r = some (.inl out.1) ∧ u = out.2) 26 [some (.inr 31), some (.inl x1), some (.inl x2), some (.inl x3), some (.inl x4), none, none, none] [] μ := by
  intro n
  induction n with
  | zero => intro x3 x4 h; exact absurd h (by unfold X8_odds_l26; simp)
  | succ n ih =>
    intro x3 x4 h
    exact t_X8_odds_c26 G d hd (X8_odds_l26 k μ x1 x2 n) k μ x1 x2 x3 x4  (fun x3 x4 h => ih x3 x4 h) hk h
set_option maxRecDepth 100000 in
set_option maxHeartbeats 4000000 in
theorem t_X8_odds_b146 (G : wd_G) (d : Nat) (hd : 2 ≤ d) {out : Int32 × wd_Mem} (rec : Int32 → Int32 → wd_Mem → Option (Int32 × wd_Mem)) (k : Int32 → wd_Mem → Option (Int32 × wd_Mem)) (μ : wd_Mem) (x1 x2 x3 x4 x5 x7 s0 s1 : Int32) (hrec : ∀ (x6 x7 : Int32) (μ : wd_Mem), rec x6 x7 μ = some out → wd_V G (d + 1) RX8 cX8_odds 8 (some .int) (fun r u => r = some (.inl out.1) ∧ u = out.2) 67 [some (.inr 31), some (.inl x1), some (.inl x2), some (.inl x3), some (.inl x4), some (.inl x5), some (.inl x6), some (.inl x7)] [] μ) (hk : ∀ (x6 : Int32) (μ : wd_Mem), k x6 μ = some out → wd_V G (d + 1) RX8 cX8_odds 8 (some .int) (fun r u => r = some (.inl out.1) ∧ u = out.2) 155 [some (.inr 31), some (.inl x1), some (.inl x2), some (.inl x3), some (.inl x4), some (.inl x5), some (.inl x6), none] [] μ) (h : X8_odds_b146 rec k μ x1 x2 x3 x4 x5 x7 s0 s1 = some out) : wd_V G (d + 1) RX8 cX8_odds 8 (some .int) (fun r u => r = some (.inl out.1) ∧ u = out.2) 146 [some (.inr 31), some (.inl x1), some (.inl x2), some (.inl x3), some (.inl x4), some (.inl x5), none, some (.inl x7)] [.inl s1, .inl s0] μ := by
  unfold X8_odds_b146 at h
  refine wv_imul (pc' := 147) dX8_odds_146 rfl ?_
  refine wv_istore (pc' := 149) (L' := [some (.inr 31), some (.inl x1), some (.inl x2), some (.inl x3), some (.inl x4), some (.inl x5), some (.inl (s0 * s1)), some (.inl x7)]) dX8_odds_147 (by decide) rfl rfl ?_
  refine wv_inc (pc' := 152) (x := x7) (L' := [some (.inr 31), some (.inl x1), some (.inl x2), some (.inl x3), some (.inl x4), some (.inl x5), some (.inl (s0 * s1)), some (.inl (x7 + (1 : Int32)))]) dX8_odds_149 ic_1 rfl (by decide) rfl rfl ?_
  refine wv_goto (pc' := 67) dX8_odds_152 (by decide) ?_
  exact hrec _ _ _ h
set_option maxRecDepth 100000 in
set_option maxHeartbeats 4000000 in
theorem t_X8_odds_b125 (G : wd_G) (d : Nat) (hd : 2 ≤ d) {out : Int32 × wd_Mem} (rec : Int32 → Int32 → wd_Mem → Option (Int32 × wd_Mem)) (k : Int32 → wd_Mem → Option (Int32 × wd_Mem)) (μ : wd_Mem) (x1 x2 x3 x4 x5 x6 x7 s1 s2 : Int32) (hrec : ∀ (x6 x7 : Int32) (μ : wd_Mem), rec x6 x7 μ = some out → wd_V G (d + 1) RX8 cX8_odds 8 (some .int) (fun r u => r = some (.inl out.1) ∧ u = out.2) 67 [some (.inr 31), some (.inl x1), some (.inl x2), some (.inl x3), some (.inl x4), some (.inl x5), some (.inl x6), some (.inl x7)] [] μ) (hk : ∀ (x6 : Int32) (μ : wd_Mem), k x6 μ = some out → wd_V G (d + 1) RX8 cX8_odds 8 (some .int) (fun r u => r = some (.inl out.1) ∧ u = out.2) 155 [some (.inr 31), some (.inl x1), some (.inl x2), some (.inl x3), some (.inl x4), some (.inl x5), some (.inl x6), none] [] μ) (h : X8_odds_b125 rec k μ x1 x2 x3 x4 x5 x6 x7 s1 s2 = some out) : wd_V G (d + 1) RX8 cX8_odds 8 (some .int) (fun r u => r = some (.inl out.1) ∧ u = out.2) 125 [some (.inr 31), some (.inl x1), some (.inl x2), some (.inl x3), some (.inl x4), some (.inl x5), some (.inl x6), some (.inl x7)] [.inl s2, .inl s1, .inr 47] μ := by
  unfold X8_odds_b125 at h
  obtain ⟨g8, h⟩ := wd_chk_some h
  refine wv_iast (pc' := 126) sa_47 (wd_in_vp g8) dX8_odds_125 rfl ?_
  refine wv_iload (pc' := 128) (v := x6) dX8_odds_126 rfl rfl ?_
  refine wv_iload (pc' := 130) (v := x5) dX8_odds_128 rfl rfl ?_
  refine wv_iload (pc' := 132) (v := x7) dX8_odds_130 rfl rfl ?_
  refine wv_callSi (pc' := 135) (x := (X8_has (mset μ 47 (Int32.toNatClampNeg s1) s2) x5 x7)) (ν := (mset μ 47 (Int32.toNatClampNeg s1) s2)) [.inl x5, .inl x7] ml_X8_124 rfl (Nat.le_of_ble_eq_true rfl) dX8_odds_132 rfl (c_X8_has G d (Nat.le_trans (Nat.le_of_ble_eq_true rfl) hd)  rfl) ?_
  refine wv_if_eq (pc' := 138) (tgt := 142) dX8_odds_135 (by decide) rfl (fun c9 => ?_) (fun c9 => ?_)
  · have h := (if_pos c9).symm.trans h
    refine wv_bipush (pc' := 144) dX8_odds_142 bp_10 rfl ?_
    refine wv_iload_n (pc' := 145) (i := 1) (v := x1) dX8_odds_144 rfl rfl rfl ?_
    refine wv_isub (pc' := 146) dX8_odds_145 rfl ?_
    refine wv_weak (L' := [some (.inr 31), some (.inl x1), some (.inl x2), some (.inl x3), some (.inl x4), some (.inl x5), none, some (.inl x7)]) ⟨rfl, rfl, rfl, rfl, rfl, rfl, rfl, trivial⟩ ?_
    exact t_X8_odds_b146 G d hd rec k (mset μ 47 (Int32.toNatClampNeg s1) s2) x1 x2 x3 x4 x5 x7 x6 ((10 : Int32) - x1) hrec hk h
  · have h := (if_neg c9).symm.trans h
    refine wv_iload_n (pc' := 139) (i := 1) (v := x1) dX8_odds_138 rfl rfl rfl ?_
    refine wv_goto (pc' := 146) dX8_odds_139 (by decide) ?_
    refine wv_weak (L' := [some (.inr 31), some (.inl x1), some (.inl x2), some (.inl x3), some (.inl x4), some (.inl x5), none, some (.inl x7)]) ⟨rfl, rfl, rfl, rfl, rfl, rfl, rfl, trivial⟩ ?_
    exact t_X8_odds_b146 G d hd rec k (mset μ 47 (Int32.toNatClampNeg s1) s2) x1 x2 x3 x4 x5 x7 x6 x1 hrec hk h
set_option maxRecDepth 100000 in
set_option maxHeartbeats 4000000 in
theorem t_X8_odds_b118 (G : wd_G) (d : Nat) (hd : 2 ≤ d) {out : Int32 × wd_Mem} (rec : Int32 → Int32 → wd_Mem → Option (Int32 × wd_Mem)) (k : Int32 → wd_Mem → Option (Int32 × wd_Mem)) (μ : wd_Mem) (x1 x2 x3 x4 x5 x6 x7 s1 : Int32) (hrec : ∀ (x6 x7 : Int32) (μ : wd_Mem), rec x6 x7 μ = some out → wd_V G (d + 1) RX8 cX8_odds 8 (some .int) (fun r u => r = some (.inl out.1) ∧ u = out.2) 67 [some (.inr 31), some (.inl x1), some (.inl x2), some (.inl x3), some (.inl x4), some (.inl x5), some (.inl x6), some (.inl x7)] [] μ) (hk : ∀ (x6 : Int32) (μ : wd_Mem), k x6 μ = some out → wd_V G (d + 1) RX8 cX8_odds 8 (some .int) (fun r u => r = some (.inl out.1) ∧ u = out.2) 155 [some (.inr 31), some (.inl x1), some (.inl x2), some (.inl x3), some (.inl x4), some (.inl x5), some (.inl x6), none] [] μ) (h : X8_odds_b118 rec k μ x1 x2 x3 x4 x5 x6 x7 s1 = some out) : wd_V G (d + 1) RX8 cX8_odds 8 (some .int) (fun r u => r = some (.inl out.1) ∧ u = out.2) 118 [some (.inr 31), some (.inl x1), some (.inl x2), some (.inl x3), some (.inl x4), some (.inl x5), some (.inl x6), some (.inl x7)] [.inl s1, .inr 47] μ := by
  unfold X8_odds_b118 at h
  refine wv_aload_n (pc' := 119) (i := 0) (v := 31) dX8_odds_118 rfl rfl rfl ?_
  refine wv_gr (pc' := 122) g_X8_13_31 dX8_odds_119 rfl ?_
  refine wv_iload (pc' := 124) (v := x7) dX8_odds_122 rfl rfl ?_
  obtain ⟨g7, h⟩ := wd_chk_some h
  refine wv_iald (pc' := 125) sa_33 (wd_in_vp g7) dX8_odds_124 rfl ?_
  exact t_X8_odds_b125 G d hd rec k μ x1 x2 x3 x4 x5 x6 x7 s1 (μ 33 (Int32.toNatClampNeg x7)) hrec hk h
set_option maxRecDepth 100000 in
set_option maxHeartbeats 4000000 in
theorem t_X8_odds_c67 (G : wd_G) (d : Nat) (hd : 2 ≤ d) {out : Int32 × wd_Mem} (rec : Int32 → Int32 → wd_Mem → Option (Int32 × wd_Mem)) (k : Int32 → wd_Mem → Option (Int32 × wd_Mem)) (μ : wd_Mem) (x1 x2 x3 x4 x5 x6 x7 : Int32) (hrec : ∀ (x6 x7 : Int32) (μ : wd_Mem), rec x6 x7 μ = some out → wd_V G (d + 1) RX8 cX8_odds 8 (some .int) (fun r u => r = some (.inl out.1) ∧ u = out.2) 67 [some (.inr 31), some (.inl x1), some (.inl x2), some (.inl x3), some (.inl x4), some (.inl x5), some (.inl x6), some (.inl x7)] [] μ) (hk : ∀ (x6 : Int32) (μ : wd_Mem), k x6 μ = some out → wd_V G (d + 1) RX8 cX8_odds 8 (some .int) (fun r u => r = some (.inl out.1) ∧ u = out.2) 155 [some (.inr 31), some (.inl x1), some (.inl x2), some (.inl x3), some (.inl x4), some (.inl x5), some (.inl x6), none] [] μ) (h : X8_odds_c67 rec k μ x1 x2 x3 x4 x5 x6 x7 = some out) : wd_V G (d + 1) RX8 cX8_odds 8 (some .int) (fun r u => r = some (.inl out.1) ∧ u = out.2) 67 [some (.inr 31), some (.inl x1), some (.inl x2), some (.inl x3), some (.inl x4), some (.inl x5), some (.inl x6), some (.inl x7)] [] μ := by
  unfold X8_odds_c67 at h
  refine wv_iload (pc' := 69) (v := x7) dX8_odds_67 rfl rfl ?_
  refine wv_aload_n (pc' := 70) (i := 0) (v := 31) dX8_odds_69 rfl rfl rfl ?_
  refine wv_gi (pc' := 73) g_X8_118_31 dX8_odds_70 rfl ?_
  refine wv_icmp_ge (pc' := 76) (tgt := 155) dX8_odds_73 (by decide) rfl (fun c5 => ?_) (fun c5 => ?_)
  · have h := (if_pos c5).symm.trans h
    refine wv_weak (L' := [some (.inr 31), some (.inl x1), some (.inl x2), some (.inl x3), some (.inl x4), some (.inl x5), some (.inl x6), none]) ⟨rfl, rfl, rfl, rfl, rfl, rfl, rfl, trivial⟩ ?_
    exact hk _ _ h
  · have h := (if_neg c5).symm.trans h
    refine wv_aload_n (pc' := 77) (i := 0) (v := 31) dX8_odds_76 rfl rfl rfl ?_
    refine wv_gr (pc' := 80) g_X8_56_31 dX8_odds_77 rfl ?_
    refine wv_iload (pc' := 82) (v := x7) dX8_odds_80 rfl rfl ?_
    refine wv_iload (pc' := 84) (v := x5) dX8_odds_82 rfl rfl ?_
    refine wv_iload (pc' := 86) (v := x7) dX8_odds_84 rfl rfl ?_
    refine wv_callSi (pc' := 89) (x := (X8_has μ x5 x7)) (ν := μ) [.inl x5, .inl x7] ml_X8_124 rfl (Nat.le_of_ble_eq_true rfl) dX8_odds_86 rfl (c_X8_has G d (Nat.le_trans (Nat.le_of_ble_eq_true rfl) hd)  rfl) ?_
    refine wv_if_eq (pc' := 92) (tgt := 118) dX8_odds_89 (by decide) rfl (fun c6 => ?_) (fun c6 => ?_)
    · have h := (if_pos c6).symm.trans h
      exact t_X8_odds_b118 G d hd rec k μ x1 x2 x3 x4 x5 x6 x7 x7 hrec hk h
    · have h := (if_neg c6).symm.trans h
      refine wv_aload_n (pc' := 93) (i := 0) (v := 31) dX8_odds_92 rfl rfl rfl ?_
      refine wv_gr (pc' := 96) g_X8_13_31 dX8_odds_93 rfl ?_
      refine wv_iload (pc' := 98) (v := x7) dX8_odds_96 rfl rfl ?_
      obtain ⟨g10, h⟩ := wd_chk_some h
      refine wv_iald (pc' := 99) sa_33 (wd_in_vp g10) dX8_odds_98 rfl ?_
      refine wv_aload_n (pc' := 100) (i := 0) (v := 31) dX8_odds_99 rfl rfl rfl ?_
      refine wv_gi (pc' := 103) g_X8_59_31 dX8_odds_100 rfl ?_
      refine wv_icmp_ge (pc' := 106) (tgt := 118) dX8_odds_103 (by decide) rfl (fun c11 => ?_) (fun c11 => ?_)
      · have h := (if_pos c11).symm.trans h
        exact t_X8_odds_b118 G d hd rec k μ x1 x2 x3 x4 x5 x6 x7 x7 hrec hk h
      · have h := (if_neg c11).symm.trans h
        refine wv_aload_n (pc' := 107) (i := 0) (v := 31) dX8_odds_106 rfl rfl rfl ?_
        refine wv_gr (pc' := 110) g_X8_13_31 dX8_odds_107 rfl ?_
        refine wv_iload (pc' := 112) (v := x7) dX8_odds_110 rfl rfl ?_
        refine wv_iald (pc' := 113) sa_33 (wd_in_vp g10) dX8_odds_112 rfl ?_
        refine wv_iconst (pc' := 114) dX8_odds_113 ic_1 rfl ?_
        refine wv_iadd (pc' := 115) dX8_odds_114 rfl ?_
        refine wv_goto (pc' := 125) dX8_odds_115 (by decide) ?_
        exact t_X8_odds_b125 G d hd rec k μ x1 x2 x3 x4 x5 x6 x7 x7 ((μ 33 (Int32.toNatClampNeg x7)) + (1 : Int32)) hrec hk h
set_option maxRecDepth 100000 in
set_option maxHeartbeats 4000000 in
theorem t_X8_odds_l67 (G : wd_G) (d : Nat) (hd : 2 ≤ d) {out : Int32 × wd_Mem} (k : Int32 → wd_Mem → Option (Int32 × wd_Mem)) (x1 x2 x3 x4 x5 : Int32) (hk : ∀ (x6 : Int32) (μ : wd_Mem), k x6 μ = some out → wd_V G (d + 1) RX8 cX8_odds 8 (some .int) (fun r u => r = some (.inl out.1) ∧ u = out.2) 155 [some (.inr 31), some (.inl x1), some (.inl x2), some (.inl x3), some (.inl x4), some (.inl x5), some (.inl x6), none] [] μ) : ∀ (n : Nat) (x6 x7 : Int32) (μ : wd_Mem), X8_odds_l67 k x1 x2 x3 x4 x5 n x6 x7 μ = some out → wd_V G (d + 1) RX8 cX8_odds 8 (some .int) (fun r u => r = some (.inl out.1) ∧ u = out.2) 67 [some (.inr 31), some (.inl x1), some (.inl x2), some (.inl x3), some (.inl x4), some (.inl x5), some (.inl x6), some (.inl x7)] [] μ := by
  intro n
  induction n with
  | zero => intro x6 x7 μ h; exact absurd h (by unfold X8_odds_l67; simp)
  | succ n ih =>
    intro x6 x7 μ h
    exact t_X8_odds_c67 G d hd (X8_odds_l67 k x1 x2 x3 x4 x5 n) k μ x1 x2 x3 x4 x5 x6 x7  (fun x6 x7 μ h => ih x6 x7 μ h) hk h
set_option maxRecDepth 100000 in
set_option maxHeartbeats 4000000 in
theorem t_X8_odds_b181 (G : wd_G) (d : Nat) (hd : 2 ≤ d) {out : Int32 × wd_Mem} (rec : Int32 → Int32 → wd_Mem → Option (Int32 × wd_Mem)) (k : Int32 → wd_Mem → Option (Int32 × wd_Mem)) (μ : wd_Mem) (x1 x2 x3 x5 s0 s1 : Int32) (hrec : ∀ (x4 x5 : Int32) (μ : wd_Mem), rec x4 x5 μ = some out → wd_V G (d + 1) RX8 cX8_odds 8 (some .int) (fun r u => r = some (.inl out.1) ∧ u = out.2) 52 [some (.inr 31), some (.inl x1), some (.inl x2), some (.inl x3), some (.inl x4), some (.inl x5), none, none] [] μ) (hk : ∀ (x4 : Int32) (μ : wd_Mem), k x4 μ = some out → wd_V G (d + 1) RX8 cX8_odds 8 (some .int) (fun r u => r = some (.inl out.1) ∧ u = out.2) 190 [some (.inr 31), none, some (.inl x2), some (.inl x3), some (.inl x4), none, none, none] [] μ) (h : X8_odds_b181 rec k μ x1 x2 x3 x5 s0 s1 = some out) : wd_V G (d + 1) RX8 cX8_odds 8 (some .int) (fun r u => r = some (.inl out.1) ∧ u = out.2) 181 [some (.inr 31), some (.inl x1), some (.inl x2), some (.inl x3), none, some (.inl x5), none, none] [.inl s1, .inl s0] μ := by
  unfold X8_odds_b181 at h
  refine wv_iadd (pc' := 182) dX8_odds_181 rfl ?_
  refine wv_istore (pc' := 184) (L' := [some (.inr 31), some (.inl x1), some (.inl x2), some (.inl x3), some (.inl (s0 + s1)), some (.inl x5), none, none]) dX8_odds_182 (by decide) rfl rfl ?_
  refine wv_inc (pc' := 187) (x := x5) (L' := [some (.inr 31), some (.inl x1), some (.inl x2), some (.inl x3), some (.inl (s0 + s1)), some (.inl (x5 + (1 : Int32))), none, none]) dX8_odds_184 ic_1 rfl (by decide) rfl rfl ?_
  refine wv_goto (pc' := 52) dX8_odds_187 (by decide) ?_
  exact hrec _ _ _ h
set_option maxRecDepth 100000 in
set_option maxHeartbeats 4000000 in
theorem t_X8_odds_b180 (G : wd_G) (d : Nat) (hd : 2 ≤ d) {out : Int32 × wd_Mem} (rec : Int32 → Int32 → wd_Mem → Option (Int32 × wd_Mem)) (k : Int32 → wd_Mem → Option (Int32 × wd_Mem)) (μ : wd_Mem) (x1 x2 x3 x5 s0 : Int32) (hrec : ∀ (x4 x5 : Int32) (μ : wd_Mem), rec x4 x5 μ = some out → wd_V G (d + 1) RX8 cX8_odds 8 (some .int) (fun r u => r = some (.inl out.1) ∧ u = out.2) 52 [some (.inr 31), some (.inl x1), some (.inl x2), some (.inl x3), some (.inl x4), some (.inl x5), none, none] [] μ) (hk : ∀ (x4 : Int32) (μ : wd_Mem), k x4 μ = some out → wd_V G (d + 1) RX8 cX8_odds 8 (some .int) (fun r u => r = some (.inl out.1) ∧ u = out.2) 190 [some (.inr 31), none, some (.inl x2), some (.inl x3), some (.inl x4), none, none, none] [] μ) (h : X8_odds_b180 rec k μ x1 x2 x3 x5 s0 = some out) : wd_V G (d + 1) RX8 cX8_odds 8 (some .int) (fun r u => r = some (.inl out.1) ∧ u = out.2) 180 [some (.inr 31), some (.inl x1), some (.inl x2), some (.inl x3), none, some (.inl x5), none, none] [.inl s0] μ := by
  unfold X8_odds_b180 at h
  refine wv_iconst (pc' := 181) dX8_odds_180 ic_0 rfl ?_
  exact t_X8_odds_b181 G d hd rec k μ x1 x2 x3 x5 s0 (0 : Int32) hrec hk h
set_option maxRecDepth 100000 in
set_option maxHeartbeats 4000000 in
theorem t_X8_odds_b155 (G : wd_G) (d : Nat) (hd : 2 ≤ d) {out : Int32 × wd_Mem} (rec : Int32 → Int32 → wd_Mem → Option (Int32 × wd_Mem)) (k : Int32 → wd_Mem → Option (Int32 × wd_Mem)) (μ : wd_Mem) (x1 x2 x3 x4 x5 x6 : Int32) (hrec : ∀ (x4 x5 : Int32) (μ : wd_Mem), rec x4 x5 μ = some out → wd_V G (d + 1) RX8 cX8_odds 8 (some .int) (fun r u => r = some (.inl out.1) ∧ u = out.2) 52 [some (.inr 31), some (.inl x1), some (.inl x2), some (.inl x3), some (.inl x4), some (.inl x5), none, none] [] μ) (hk : ∀ (x4 : Int32) (μ : wd_Mem), k x4 μ = some out → wd_V G (d + 1) RX8 cX8_odds 8 (some .int) (fun r u => r = some (.inl out.1) ∧ u = out.2) 190 [some (.inr 31), none, some (.inl x2), some (.inl x3), some (.inl x4), none, none, none] [] μ) (h : X8_odds_b155 rec k μ x1 x2 x3 x4 x5 x6 = some out) : wd_V G (d + 1) RX8 cX8_odds 8 (some .int) (fun r u => r = some (.inl out.1) ∧ u = out.2) 155 [some (.inr 31), some (.inl x1), some (.inl x2), some (.inl x3), some (.inl x4), some (.inl x5), some (.inl x6), none] [] μ := by
  unfold X8_odds_b155 at h
  refine wv_iload (pc' := 157) (v := x4) dX8_odds_155 rfl rfl ?_
  refine wv_iload (pc' := 159) (v := x6) dX8_odds_157 rfl rfl ?_
  refine wv_if_le (pc' := 162) (tgt := 180) dX8_odds_159 (by decide) rfl (fun c12 => ?_) (fun c12 => ?_)
  · have h := (if_pos c12).symm.trans h
    refine wv_weak (L' := [some (.inr 31), some (.inl x1), some (.inl x2), some (.inl x3), none, some (.inl x5), none, none]) ⟨rfl, rfl, rfl, rfl, rfl, trivial⟩ ?_
    exact t_X8_odds_b180 G d hd rec k μ x1 x2 x3 x5 x4 hrec hk h
  · have h := (if_neg c12).symm.trans h
    refine wv_aload_n (pc' := 163) (i := 0) (v := 31) dX8_odds_162 rfl rfl rfl ?_
    refine wv_iconst (pc' := 164) dX8_odds_163 ic_1 rfl ?_
    refine wv_bipush (pc' := 166) dX8_odds_164 bp_16 rfl ?_
    refine wv_bipush (pc' := 168) dX8_odds_166 bp_m9 rfl ?_
    refine wv_iconst (pc' := 169) dX8_odds_168 ic_0 rfl ?_
    obtain ⟨r13, er13, h⟩ := wd_bind_some h
    refine wv_callVi (pc' := 172) (x := r13.1) (ν := r13.2) [.inl (1 : Int32), .inl (16 : Int32), .inl (-9 : Int32), .inl (0 : Int32)] ml_X8_213 rc_31 rfl (Nat.le_of_ble_eq_true rfl) dX8_odds_169 rfl (c_X8_schedules G d (Nat.le_trans (Nat.le_of_ble_eq_true rfl) hd)  er13) ?_
    refine wv_if_le (pc' := 175) (tgt := 180) dX8_odds_172 (by decide) rfl (fun c14 => ?_) (fun c14 => ?_)
    · have h := (if_pos c14).symm.trans h
      refine wv_weak (L' := [some (.inr 31), some (.inl x1), some (.inl x2), some (.inl x3), none, some (.inl x5), none, none]) ⟨rfl, rfl, rfl, rfl, rfl, trivial⟩ ?_
      exact t_X8_odds_b180 G d hd rec k r13.2 x1 x2 x3 x5 x4 hrec hk h
    · have h := (if_neg c14).symm.trans h
      refine wv_iload (pc' := 177) (v := x6) dX8_odds_175 rfl rfl ?_
      refine wv_goto (pc' := 181) dX8_odds_177 (by decide) ?_
      refine wv_weak (L' := [some (.inr 31), some (.inl x1), some (.inl x2), some (.inl x3), none, some (.inl x5), none, none]) ⟨rfl, rfl, rfl, rfl, rfl, trivial⟩ ?_
      exact t_X8_odds_b181 G d hd rec k r13.2 x1 x2 x3 x5 x4 x6 hrec hk h
set_option maxRecDepth 100000 in
set_option maxHeartbeats 4000000 in
theorem t_X8_odds_c52 (G : wd_G) (d : Nat) (hd : 2 ≤ d) {out : Int32 × wd_Mem} (rec : Int32 → Int32 → wd_Mem → Option (Int32 × wd_Mem)) (k : Int32 → wd_Mem → Option (Int32 × wd_Mem)) (μ : wd_Mem) (x1 x2 x3 x4 x5 : Int32) (hrec : ∀ (x4 x5 : Int32) (μ : wd_Mem), rec x4 x5 μ = some out → wd_V G (d + 1) RX8 cX8_odds 8 (some .int) (fun r u => r = some (.inl out.1) ∧ u = out.2) 52 [some (.inr 31), some (.inl x1), some (.inl x2), some (.inl x3), some (.inl x4), some (.inl x5), none, none] [] μ) (hk : ∀ (x4 : Int32) (μ : wd_Mem), k x4 μ = some out → wd_V G (d + 1) RX8 cX8_odds 8 (some .int) (fun r u => r = some (.inl out.1) ∧ u = out.2) 190 [some (.inr 31), none, some (.inl x2), some (.inl x3), some (.inl x4), none, none, none] [] μ) (h : X8_odds_c52 rec k μ x1 x2 x3 x4 x5 = some out) : wd_V G (d + 1) RX8 cX8_odds 8 (some .int) (fun r u => r = some (.inl out.1) ∧ u = out.2) 52 [some (.inr 31), some (.inl x1), some (.inl x2), some (.inl x3), some (.inl x4), some (.inl x5), none, none] [] μ := by
  unfold X8_odds_c52 at h
  refine wv_iload (pc' := 54) (v := x5) dX8_odds_52 rfl rfl ?_
  refine wv_aload_n (pc' := 55) (i := 0) (v := 31) dX8_odds_54 rfl rfl rfl ?_
  refine wv_callVi (pc' := 58) (x := (X8_all μ)) (ν := μ) [] ml_X8_141 rc_31 rfl (Nat.le_of_ble_eq_true rfl) dX8_odds_55 rfl (c_X8_all G d (Nat.le_trans (Nat.le_of_ble_eq_true rfl) hd)  rfl) ?_
  refine wv_icmp_gt (pc' := 61) (tgt := 190) dX8_odds_58 (by decide) rfl (fun c4 => ?_) (fun c4 => ?_)
  · have h := (if_pos c4).symm.trans h
    refine wv_weak (L' := [some (.inr 31), none, some (.inl x2), some (.inl x3), some (.inl x4), none, none, none]) ⟨rfl, rfl, rfl, rfl, trivial⟩ ?_
    exact hk _ _ h
  · have h := (if_neg c4).symm.trans h
    refine wv_iconst (pc' := 62) dX8_odds_61 ic_1 rfl ?_
    refine wv_istore (pc' := 64) (L' := [some (.inr 31), some (.inl x1), some (.inl x2), some (.inl x3), some (.inl x4), some (.inl x5), some (.inl (1 : Int32)), none]) dX8_odds_62 (by decide) rfl rfl ?_
    refine wv_iconst (pc' := 65) dX8_odds_64 ic_0 rfl ?_
    refine wv_istore (pc' := 67) (L' := [some (.inr 31), some (.inl x1), some (.inl x2), some (.inl x3), some (.inl x4), some (.inl x5), some (.inl (1 : Int32)), some (.inl (0 : Int32))]) dX8_odds_65 (by decide) rfl rfl ?_
    exact t_X8_odds_l67 G d hd (fun x6 μ => X8_odds_b155 rec k μ x1 x2 x3 x4 x5 x6) x1 x2 x3 x4 x5  (fun x6 μ h => t_X8_odds_b155 G d hd rec k μ x1 x2 x3 x4 x5 x6 hrec hk h) wd_big (1 : Int32) (0 : Int32) μ h
set_option maxRecDepth 100000 in
set_option maxHeartbeats 4000000 in
theorem t_X8_odds_l52 (G : wd_G) (d : Nat) (hd : 2 ≤ d) {out : Int32 × wd_Mem} (k : Int32 → wd_Mem → Option (Int32 × wd_Mem)) (x1 x2 x3 : Int32) (hk : ∀ (x4 : Int32) (μ : wd_Mem), k x4 μ = some out → wd_V G (d + 1) RX8 cX8_odds 8 (some .int) (fun r u => r = some (.inl out.1) ∧ u = out.2) 190 [some (.inr 31), none, some (.inl x2), some (.inl x3), some (.inl x4), none, none, none] [] μ) : ∀ (n : Nat) (x4 x5 : Int32) (μ : wd_Mem), X8_odds_l52 k x1 x2 x3 n x4 x5 μ = some out → wd_V G (d + 1) RX8 cX8_odds 8 (some .int) (fun r u => r = some (.inl out.1) ∧ u = out.2) 52 [some (.inr 31), some (.inl x1), some (.inl x2), some (.inl x3), some (.inl x4), some (.inl x5), none, none] [] μ := by
  intro n
  induction n with
  | zero => intro x4 x5 μ h; exact absurd h (by unfold X8_odds_l52; simp)
  | succ n ih =>
    intro x4 x5 μ h
    exact t_X8_odds_c52 G d hd (X8_odds_l52 k x1 x2 x3 n) k μ x1 x2 x3 x4 x5  (fun x4 x5 μ h => ih x4 x5 μ h) hk h
set_option maxRecDepth 100000 in
set_option maxHeartbeats 4000000 in
theorem t_X8_odds_c197 (G : wd_G) (d : Nat) (hd : 2 ≤ d) {out : Int32 × wd_Mem} (rec : Int32 → Int32 → Option (Int32 × wd_Mem)) (k : Int32 → Option (Int32 × wd_Mem)) (μ : wd_Mem) (x2 x3 x4 x5 x6 : Int32) (hrec : ∀ (x5 x6 : Int32), rec x5 x6 = some out → wd_V G (d + 1) RX8 cX8_odds 8 (some .int) (fun r u => r = some (.inl out.1) ∧ u = out.2) 197 [some (.inr 31), none, some (.inl x2), some (.inl x3), some (.inl x4), some (.inl x5), some (.inl x6), none] [] μ) (hk : ∀ (x5 : Int32), k x5 = some out → wd_V G (d + 1) RX8 cX8_odds 8 (some .int) (fun r u => r = some (.inl out.1) ∧ u = out.2) 220 [some (.inr 31), none, some (.inl x2), some (.inl x3), some (.inl x4), some (.inl x5), none, none] [] μ) (h : X8_odds_c197 rec k μ x2 x3 x4 x5 x6 = some out) : wd_V G (d + 1) RX8 cX8_odds 8 (some .int) (fun r u => r = some (.inl out.1) ∧ u = out.2) 197 [some (.inr 31), none, some (.inl x2), some (.inl x3), some (.inl x4), some (.inl x5), some (.inl x6), none] [] μ := by
  unfold X8_odds_c197 at h
  refine wv_iload (pc' := 199) (v := x6) dX8_odds_197 rfl rfl ?_
  refine wv_if_eq (pc' := 202) (tgt := 220) dX8_odds_199 (by decide) rfl (fun c15 => ?_) (fun c15 => ?_)
  · have h := (if_pos c15).symm.trans h
    refine wv_weak (L' := [some (.inr 31), none, some (.inl x2), some (.inl x3), some (.inl x4), some (.inl x5), none, none]) ⟨rfl, rfl, rfl, rfl, rfl, trivial⟩ ?_
    exact hk _ h
  · have h := (if_neg c15).symm.trans h
    refine wv_iload (pc' := 204) (v := x5) dX8_odds_202 rfl rfl ?_
    refine wv_iload (pc' := 206) (v := x6) dX8_odds_204 rfl rfl ?_
    obtain ⟨g16, h⟩ := wd_chk_some h
    refine wv_irem (pc' := 207) dX8_odds_206 (wd_nz_ne g16) rfl ?_
    refine wv_istore (pc' := 209) (L' := [some (.inr 31), none, some (.inl x2), some (.inl x3), some (.inl x4), some (.inl x5), some (.inl x6), some (.inl (x5 - x5 / x6 * x6))]) dX8_odds_207 (by decide) rfl rfl ?_
    refine wv_iload (pc' := 211) (v := x6) dX8_odds_209 rfl rfl ?_
    refine wv_istore (pc' := 213) (L' := [some (.inr 31), none, some (.inl x2), some (.inl x3), some (.inl x4), some (.inl x6), some (.inl x6), some (.inl (x5 - x5 / x6 * x6))]) dX8_odds_211 (by decide) rfl rfl ?_
    refine wv_iload (pc' := 215) (v := (x5 - x5 / x6 * x6)) dX8_odds_213 rfl rfl ?_
    refine wv_istore (pc' := 217) (L' := [some (.inr 31), none, some (.inl x2), some (.inl x3), some (.inl x4), some (.inl x6), some (.inl (x5 - x5 / x6 * x6)), some (.inl (x5 - x5 / x6 * x6))]) dX8_odds_215 (by decide) rfl rfl ?_
    refine wv_goto (pc' := 197) dX8_odds_217 (by decide) ?_
    refine wv_weak (L' := [some (.inr 31), none, some (.inl x2), some (.inl x3), some (.inl x4), some (.inl x6), some (.inl (x5 - x5 / x6 * x6)), none]) ⟨rfl, rfl, rfl, rfl, rfl, rfl, trivial⟩ ?_
    exact hrec _ _ h
set_option maxRecDepth 100000 in
set_option maxHeartbeats 4000000 in
theorem t_X8_odds_l197 (G : wd_G) (d : Nat) (hd : 2 ≤ d) {out : Int32 × wd_Mem} (k : Int32 → Option (Int32 × wd_Mem)) (μ : wd_Mem) (x2 x3 x4 : Int32) (hk : ∀ (x5 : Int32), k x5 = some out → wd_V G (d + 1) RX8 cX8_odds 8 (some .int) (fun r u => r = some (.inl out.1) ∧ u = out.2) 220 [some (.inr 31), none, some (.inl x2), some (.inl x3), some (.inl x4), some (.inl x5), none, none] [] μ) : ∀ (n : Nat) (x5 x6 : Int32), X8_odds_l197 k μ x2 x3 x4 n x5 x6 = some out → wd_V G (d + 1) RX8 cX8_odds 8 (some .int) (fun r u => r = some (.inl out.1) ∧ u = out.2) 197 [some (.inr 31), none, some (.inl x2), some (.inl x3), some (.inl x4), some (.inl x5), some (.inl x6), none] [] μ := by
  intro n
  induction n with
  | zero => intro x5 x6 h; exact absurd h (by unfold X8_odds_l197; simp)
  | succ n ih =>
    intro x5 x6 h
    exact t_X8_odds_c197 G d hd (X8_odds_l197 k μ x2 x3 x4 n) k μ x2 x3 x4 x5 x6  (fun x5 x6 h => ih x5 x6 h) hk h
set_option maxRecDepth 100000 in
set_option maxHeartbeats 4000000 in
theorem t_X8_odds_b220 (G : wd_G) (d : Nat) (hd : 2 ≤ d) {out : Int32 × wd_Mem} (μ : wd_Mem) (x2 x3 x4 x5 : Int32)  (h : X8_odds_b220 μ x2 x3 x4 x5 = some out) : wd_V G (d + 1) RX8 cX8_odds 8 (some .int) (fun r u => r = some (.inl out.1) ∧ u = out.2) 220 [some (.inr 31), none, some (.inl x2), some (.inl x3), some (.inl x4), some (.inl x5), none, none] [] μ := by
  unfold X8_odds_b220 at h
  refine wv_iload_n (pc' := 221) (i := 2) (v := x2) dX8_odds_220 rfl rfl rfl ?_
  refine wv_if_ne (pc' := 224) (tgt := 232) dX8_odds_221 (by decide) rfl (fun c17 => ?_) (fun c17 => ?_)
  · have h := (if_neg c17).symm.trans h
    refine wv_iload_n (pc' := 233) (i := 3) (v := x3) dX8_odds_232 rfl rfl rfl ?_
    refine wv_iload (pc' := 235) (v := x5) dX8_odds_233 rfl rfl ?_
    obtain ⟨g18, h⟩ := wd_chk_some h
    refine wv_idiv (pc' := 236) dX8_odds_235 (wd_nz_ne g18) rfl ?_
    exact wv_ireturn rfl dX8_odds_236 (wd_liv h)
  · have h := (if_pos c17).symm.trans h
    refine wv_iload (pc' := 226) (v := x4) dX8_odds_224 rfl rfl ?_
    refine wv_iload (pc' := 228) (v := x5) dX8_odds_226 rfl rfl ?_
    obtain ⟨g19, h⟩ := wd_chk_some h
    refine wv_idiv (pc' := 229) dX8_odds_228 (wd_nz_ne g19) rfl ?_
    refine wv_goto (pc' := 236) dX8_odds_229 (by decide) ?_
    exact wv_ireturn rfl dX8_odds_236 (wd_liv h)
set_option maxRecDepth 100000 in
set_option maxHeartbeats 4000000 in
theorem t_X8_odds_b190 (G : wd_G) (d : Nat) (hd : 2 ≤ d) {out : Int32 × wd_Mem} (μ : wd_Mem) (x2 x3 x4 : Int32)  (h : X8_odds_b190 μ x2 x3 x4 = some out) : wd_V G (d + 1) RX8 cX8_odds 8 (some .int) (fun r u => r = some (.inl out.1) ∧ u = out.2) 190 [some (.inr 31), none, some (.inl x2), some (.inl x3), some (.inl x4), none, none, none] [] μ := by
  unfold X8_odds_b190 at h
  refine wv_iload (pc' := 192) (v := x4) dX8_odds_190 rfl rfl ?_
  refine wv_istore (pc' := 194) (L' := [some (.inr 31), none, some (.inl x2), some (.inl x3), some (.inl x4), some (.inl x4), none, none]) dX8_odds_192 (by decide) rfl rfl ?_
  refine wv_iload_n (pc' := 195) (i := 3) (v := x3) dX8_odds_194 rfl rfl rfl ?_
  refine wv_istore (pc' := 197) (L' := [some (.inr 31), none, some (.inl x2), some (.inl x3), some (.inl x4), some (.inl x4), some (.inl x3), none]) dX8_odds_195 (by decide) rfl rfl ?_
  exact t_X8_odds_l197 G d hd (fun x5 => X8_odds_b220 μ x2 x3 x4 x5) μ x2 x3 x4  (fun x5 h => t_X8_odds_b220 G d hd μ x2 x3 x4 x5  h) wd_big x4 x3 h
set_option maxRecDepth 100000 in
set_option maxHeartbeats 4000000 in
theorem t_X8_odds_b46 (G : wd_G) (d : Nat) (hd : 2 ≤ d) {out : Int32 × wd_Mem} (μ : wd_Mem) (x1 x2 x3 : Int32)  (h : X8_odds_b46 μ x1 x2 x3 = some out) : wd_V G (d + 1) RX8 cX8_odds 8 (some .int) (fun r u => r = some (.inl out.1) ∧ u = out.2) 46 [some (.inr 31), some (.inl x1), some (.inl x2), some (.inl x3), none, none, none, none] [] μ := by
  unfold X8_odds_b46 at h
  refine wv_iconst (pc' := 47) dX8_odds_46 ic_0 rfl ?_
  refine wv_istore (pc' := 49) (L' := [some (.inr 31), some (.inl x1), some (.inl x2), some (.inl x3), some (.inl (0 : Int32)), none, none, none]) dX8_odds_47 (by decide) rfl rfl ?_
  refine wv_iconst (pc' := 50) dX8_odds_49 ic_0 rfl ?_
  refine wv_istore (pc' := 52) (L' := [some (.inr 31), some (.inl x1), some (.inl x2), some (.inl x3), some (.inl (0 : Int32)), some (.inl (0 : Int32)), none, none]) dX8_odds_50 (by decide) rfl rfl ?_
  exact t_X8_odds_l52 G d hd (fun x4 μ => X8_odds_b190 μ x2 x3 x4) x1 x2 x3  (fun x4 μ h => t_X8_odds_b190 G d hd μ x2 x3 x4  h) wd_big (0 : Int32) (0 : Int32) μ h
set_option maxRecDepth 100000 in
set_option maxHeartbeats 4000000 in
theorem t_X8_odds_b0 (G : wd_G) (d : Nat) (hd : 2 ≤ d) {out : Int32 × wd_Mem} (μ : wd_Mem) (x1 x2 : Int32)  (h : X8_odds_b0 μ x1 x2 = some out) : wd_V G (d + 1) RX8 cX8_odds 8 (some .int) (fun r u => r = some (.inl out.1) ∧ u = out.2) 0 [some (.inr 31), some (.inl x1), some (.inl x2), none, none, none, none, none] [] μ := by
  unfold X8_odds_b0 at h
  refine wv_iload_n (pc' := 1) (i := 1) (v := x1) dX8_odds_0 rfl rfl rfl ?_
  refine wv_iconst (pc' := 2) dX8_odds_1 ic_0 rfl ?_
  refine wv_bipush (pc' := 4) dX8_odds_2 bp_10 rfl ?_
  refine wv_callSi (pc' := 7) (x := (X8_in μ x1 (0 : Int32) (10 : Int32))) (ν := μ) [.inl x1, .inl (0 : Int32), .inl (10 : Int32)] ml_X8_63 rfl (Nat.le_of_ble_eq_true rfl) dX8_odds_4 rfl (c_X8_in G d (Nat.le_trans (Nat.le_of_ble_eq_true rfl) hd)  rfl) ?_
  refine wv_if_eq (pc' := 10) (tgt := 19) dX8_odds_7 (by decide) rfl (fun c1 => ?_) (fun c1 => ?_)
  · have h := (if_pos c1).symm.trans h
    refine wv_weak (L' := [some (.inr 31), none, none, none, none, none, none, none]) ⟨rfl, trivial⟩ ?_
    exact t_X8_odds_b19 G d hd μ  h
  · have h := (if_neg c1).symm.trans h
    refine wv_iload_n (pc' := 11) (i := 2) (v := x2) dX8_odds_10 rfl rfl rfl ?_
    refine wv_iconst (pc' := 12) dX8_odds_11 ic_0 rfl ?_
    refine wv_iconst (pc' := 13) dX8_odds_12 ic_1 rfl ?_
    refine wv_callSi (pc' := 16) (x := (X8_in μ x2 (0 : Int32) (1 : Int32))) (ν := μ) [.inl x2, .inl (0 : Int32), .inl (1 : Int32)] ml_X8_63 rfl (Nat.le_of_ble_eq_true rfl) dX8_odds_13 rfl (c_X8_in G d (Nat.le_trans (Nat.le_of_ble_eq_true rfl) hd)  rfl) ?_
    refine wv_if_ne (pc' := 19) (tgt := 21) dX8_odds_16 (by decide) rfl (fun c2 => ?_) (fun c2 => ?_)
    · have h := (if_neg c2).symm.trans h
      refine wv_iconst (pc' := 22) dX8_odds_21 ic_1 rfl ?_
      refine wv_istore_n (pc' := 23) (i := 3) (L' := [some (.inr 31), some (.inl x1), some (.inl x2), some (.inl (1 : Int32)), none, none, none, none]) dX8_odds_22 rfl (by decide) rfl rfl ?_
      refine wv_iconst (pc' := 24) dX8_odds_23 ic_0 rfl ?_
      refine wv_istore (pc' := 26) (L' := [some (.inr 31), some (.inl x1), some (.inl x2), some (.inl (1 : Int32)), some (.inl (0 : Int32)), none, none, none]) dX8_odds_24 (by decide) rfl rfl ?_
      exact t_X8_odds_l26 G d hd (fun x3 => X8_odds_b46 μ x1 x2 x3) μ x1 x2  (fun x3 h => t_X8_odds_b46 G d hd μ x1 x2 x3  h) wd_big (1 : Int32) (0 : Int32) h
    · have h := (if_pos c2).symm.trans h
      refine wv_weak (L' := [some (.inr 31), none, none, none, none, none, none, none]) ⟨rfl, trivial⟩ ?_
      exact t_X8_odds_b19 G d hd μ  h
set_option maxRecDepth 100000 in
set_option maxHeartbeats 4000000 in
theorem c_X8_odds (G : wd_G) (d : Nat) (hd : 3 ≤ d) {μ : wd_Mem} {x1 x2 : Int32} {out : Int32 × wd_Mem}  (h : X8_odds μ x1 x2 = some out) : wd_C G d yX8_odds [.inr 31, .inl x1, .inl x2] μ (fun r u => r = some (.inl out.1) ∧ u = out.2) := by
  obtain ⟨d, rfl⟩ : ∃ e, d = e + 1 := ⟨d - 1, by omega⟩
  refine wd_enter mc_X8_odds (by decide) (by decide +kernel) rfl (Nat.le_of_ble_eq_true rfl) (L0 := [some (.inr 31), some (.inl x1), some (.inl x2), none, none, none, none, none]) rfl ?_
  exact t_X8_odds_b0 G d (by omega) μ x1 x2 h
set_option maxRecDepth 100000 in
set_option maxHeartbeats 4000000 in
theorem t_X8_keep_c20 (G : wd_G) (d : Nat) (hd : 1 ≤ d) {out : Int32 × wd_Mem} (rec : Int32 → wd_Mem → Option (Int32 × wd_Mem)) (k : wd_Mem → Option (Int32 × wd_Mem)) (μ : wd_Mem) (x1 x2 : Int32) (hrec : ∀ (x2 : Int32) (μ : wd_Mem), rec x2 μ = some out → wd_V G (d + 1) RX8 cX8_keep 3 (some .int) (fun r u => r = some (.inl out.1) ∧ u = out.2) 20 [some (.inr 31), some (.inl x1), some (.inl x2)] [] μ) (hk : ∀  (μ : wd_Mem), k μ = some out → wd_V G (d + 1) RX8 cX8_keep 3 (some .int) (fun r u => r = some (.inl out.1) ∧ u = out.2) 49 [some (.inr 31), none, none] [] μ) (h : X8_keep_c20 rec k μ x1 x2 = some out) : wd_V G (d + 1) RX8 cX8_keep 3 (some .int) (fun r u => r = some (.inl out.1) ∧ u = out.2) 20 [some (.inr 31), some (.inl x1), some (.inl x2)] [] μ := by
  unfold X8_keep_c20 at h
  refine wv_iload_n (pc' := 21) (i := 2) (v := x2) dX8_keep_20 rfl rfl rfl ?_
  refine wv_bipush (pc' := 23) dX8_keep_21 bp_30 rfl ?_
  refine wv_icmp_ge (pc' := 26) (tgt := 49) dX8_keep_23 (by decide) rfl (fun c3 => ?_) (fun c3 => ?_)
  · have h := (if_pos c3).symm.trans h
    refine wv_weak (L' := [some (.inr 31), none, none]) ⟨rfl, trivial⟩ ?_
    exact hk _ h
  · have h := (if_neg c3).symm.trans h
    refine wv_aload_n (pc' := 27) (i := 0) (v := 31) dX8_keep_26 rfl rfl rfl ?_
    refine wv_gr (pc' := 30) g_X8_26_31 dX8_keep_27 rfl ?_
    refine wv_bipush (pc' := 32) dX8_keep_30 bp_30 rfl ?_
    refine wv_iload_n (pc' := 33) (i := 1) (v := x1) dX8_keep_32 rfl rfl rfl ?_
    refine wv_imul (pc' := 34) dX8_keep_33 rfl ?_
    refine wv_iload_n (pc' := 35) (i := 2) (v := x2) dX8_keep_34 rfl rfl rfl ?_
    refine wv_iadd (pc' := 36) dX8_keep_35 rfl ?_
    refine wv_aload_n (pc' := 37) (i := 0) (v := 31) dX8_keep_36 rfl rfl rfl ?_
    refine wv_gr (pc' := 40) g_X8_16_31 dX8_keep_37 rfl ?_
    refine wv_iload_n (pc' := 41) (i := 2) (v := x2) dX8_keep_40 rfl rfl rfl ?_
    obtain ⟨g4, h⟩ := wd_chk_some h
    refine wv_iald (pc' := 42) sa_34 (wd_in_vp g4) dX8_keep_41 rfl ?_
    obtain ⟨g5, h⟩ := wd_chk_some h
    refine wv_iast (pc' := 43) sa_37 (wd_in_vp g5) dX8_keep_42 rfl ?_
    refine wv_inc (pc' := 46) (x := x2) (L' := [some (.inr 31), some (.inl x1), some (.inl (x2 + (1 : Int32)))]) dX8_keep_43 ic_1 rfl (by decide) rfl rfl ?_
    refine wv_goto (pc' := 20) dX8_keep_46 (by decide) ?_
    exact hrec _ _ h
set_option maxRecDepth 100000 in
set_option maxHeartbeats 4000000 in
theorem t_X8_keep_l20 (G : wd_G) (d : Nat) (hd : 1 ≤ d) {out : Int32 × wd_Mem} (k : wd_Mem → Option (Int32 × wd_Mem)) (x1 : Int32) (hk : ∀  (μ : wd_Mem), k μ = some out → wd_V G (d + 1) RX8 cX8_keep 3 (some .int) (fun r u => r = some (.inl out.1) ∧ u = out.2) 49 [some (.inr 31), none, none] [] μ) : ∀ (n : Nat) (x2 : Int32) (μ : wd_Mem), X8_keep_l20 k x1 n x2 μ = some out → wd_V G (d + 1) RX8 cX8_keep 3 (some .int) (fun r u => r = some (.inl out.1) ∧ u = out.2) 20 [some (.inr 31), some (.inl x1), some (.inl x2)] [] μ := by
  intro n
  induction n with
  | zero => intro x2 μ h; exact absurd h (by unfold X8_keep_l20; simp)
  | succ n ih =>
    intro x2 μ h
    exact t_X8_keep_c20 G d hd (X8_keep_l20 k x1 n) k μ x1 x2  (fun x2 μ h => ih x2 μ h) hk h
set_option maxRecDepth 100000 in
set_option maxHeartbeats 4000000 in
theorem t_X8_keep_b49 (G : wd_G) (d : Nat) (hd : 1 ≤ d) {out : Int32 × wd_Mem} (μ : wd_Mem)  (h : X8_keep_b49 μ = some out) : wd_V G (d + 1) RX8 cX8_keep 3 (some .int) (fun r u => r = some (.inl out.1) ∧ u = out.2) 49 [some (.inr 31), none, none] [] μ := by
  unfold X8_keep_b49 at h
  refine wv_aload_n (pc' := 50) (i := 0) (v := 31) dX8_keep_49 rfl rfl rfl ?_
  refine wv_gi (pc' := 53) g_X8_118_31 dX8_keep_50 rfl ?_
  exact wv_ireturn rfl dX8_keep_53 (wd_liv h)
set_option maxRecDepth 100000 in
set_option maxHeartbeats 4000000 in
theorem t_X8_keep_b0 (G : wd_G) (d : Nat) (hd : 1 ≤ d) {out : Int32 × wd_Mem} (μ : wd_Mem) (x1 : Int32)  (h : X8_keep_b0 μ x1 = some out) : wd_V G (d + 1) RX8 cX8_keep 3 (some .int) (fun r u => r = some (.inl out.1) ∧ u = out.2) 0 [some (.inr 31), some (.inl x1), none] [] μ := by
  unfold X8_keep_b0 at h
  refine wv_iload_n (pc' := 1) (i := 1) (v := x1) dX8_keep_0 rfl rfl rfl ?_
  refine wv_iconst (pc' := 2) dX8_keep_1 ic_0 rfl ?_
  refine wv_iconst (pc' := 3) dX8_keep_2 ic_1 rfl ?_
  refine wv_callSi (pc' := 6) (x := (X8_in μ x1 (0 : Int32) (1 : Int32))) (ν := μ) [.inl x1, .inl (0 : Int32), .inl (1 : Int32)] ml_X8_63 rfl (Nat.le_of_ble_eq_true rfl) dX8_keep_3 rfl (c_X8_in G d (Nat.le_trans (Nat.le_of_ble_eq_true rfl) hd)  rfl) ?_
  refine wv_if_ne (pc' := 9) (tgt := 11) dX8_keep_6 (by decide) rfl (fun c1 => ?_) (fun c1 => ?_)
  · have h := (if_neg c1).symm.trans h
    refine wv_aload_n (pc' := 12) (i := 0) (v := 31) dX8_keep_11 rfl rfl rfl ?_
    refine wv_gr (pc' := 15) g_X8_22_31 dX8_keep_12 rfl ?_
    refine wv_iload_n (pc' := 16) (i := 1) (v := x1) dX8_keep_15 rfl rfl rfl ?_
    refine wv_iconst (pc' := 17) dX8_keep_16 ic_1 rfl ?_
    obtain ⟨g2, h⟩ := wd_chk_some h
    refine wv_zast (pc' := 18) sa_36 (wd_in_vp g2) dX8_keep_17 rfl ?_
    refine wv_iconst (pc' := 19) dX8_keep_18 ic_0 rfl ?_
    refine wv_istore_n (pc' := 20) (i := 2) (L' := [some (.inr 31), some (.inl x1), some (.inl (0 : Int32))]) dX8_keep_19 rfl (by decide) rfl rfl ?_
    exact t_X8_keep_l20 G d hd (fun μ => X8_keep_b49 μ) x1  (fun μ h => t_X8_keep_b49 G d hd μ  h) wd_big (0 : Int32) (mset μ 36 (Int32.toNatClampNeg x1) (vp_nar .boolean (1 : Int32))) h
  · have h := (if_pos c1).symm.trans h
    refine wv_iconst (pc' := 10) dX8_keep_9 ic_m1 rfl ?_
    exact wv_ireturn rfl dX8_keep_10 (wd_liv h)
set_option maxRecDepth 100000 in
set_option maxHeartbeats 4000000 in
theorem c_X8_keep (G : wd_G) (d : Nat) (hd : 2 ≤ d) {μ : wd_Mem} {x1 : Int32} {out : Int32 × wd_Mem}  (h : X8_keep μ x1 = some out) : wd_C G d yX8_keep [.inr 31, .inl x1] μ (fun r u => r = some (.inl out.1) ∧ u = out.2) := by
  obtain ⟨d, rfl⟩ : ∃ e, d = e + 1 := ⟨d - 1, by omega⟩
  refine wd_enter mc_X8_keep (by decide) (by decide +kernel) rfl (Nat.le_of_ble_eq_true rfl) (L0 := [some (.inr 31), some (.inl x1), none]) rfl ?_
  exact t_X8_keep_b0 G d (by omega) μ x1 h
set_option maxRecDepth 100000 in
set_option maxHeartbeats 4000000 in
theorem t_X8_back_c25 (G : wd_G) (d : Nat) (hd : 1 ≤ d) {out : Int32 × wd_Mem} (rec : Int32 → wd_Mem → Option (Int32 × wd_Mem)) (k : wd_Mem → Option (Int32 × wd_Mem)) (μ : wd_Mem) (x1 x2 : Int32) (hrec : ∀ (x2 : Int32) (μ : wd_Mem), rec x2 μ = some out → wd_V G (d + 1) RX8 cX8_back 3 (some .int) (fun r u => r = some (.inl out.1) ∧ u = out.2) 25 [some (.inr 31), some (.inl x1), some (.inl x2)] [] μ) (hk : ∀  (μ : wd_Mem), k μ = some out → wd_V G (d + 1) RX8 cX8_back 3 (some .int) (fun r u => r = some (.inl out.1) ∧ u = out.2) 54 [some (.inr 31), none, none] [] μ) (h : X8_back_c25 rec k μ x1 x2 = some out) : wd_V G (d + 1) RX8 cX8_back 3 (some .int) (fun r u => r = some (.inl out.1) ∧ u = out.2) 25 [some (.inr 31), some (.inl x1), some (.inl x2)] [] μ := by
  unfold X8_back_c25 at h
  refine wv_iload_n (pc' := 26) (i := 2) (v := x2) dX8_back_25 rfl rfl rfl ?_
  refine wv_bipush (pc' := 28) dX8_back_26 bp_30 rfl ?_
  refine wv_icmp_ge (pc' := 31) (tgt := 54) dX8_back_28 (by decide) rfl (fun c4 => ?_) (fun c4 => ?_)
  · have h := (if_pos c4).symm.trans h
    refine wv_weak (L' := [some (.inr 31), none, none]) ⟨rfl, trivial⟩ ?_
    exact hk _ h
  · have h := (if_neg c4).symm.trans h
    refine wv_aload_n (pc' := 32) (i := 0) (v := 31) dX8_back_31 rfl rfl rfl ?_
    refine wv_gr (pc' := 35) g_X8_16_31 dX8_back_32 rfl ?_
    refine wv_iload_n (pc' := 36) (i := 2) (v := x2) dX8_back_35 rfl rfl rfl ?_
    refine wv_aload_n (pc' := 37) (i := 0) (v := 31) dX8_back_36 rfl rfl rfl ?_
    refine wv_gr (pc' := 40) g_X8_26_31 dX8_back_37 rfl ?_
    refine wv_bipush (pc' := 42) dX8_back_40 bp_30 rfl ?_
    refine wv_iload_n (pc' := 43) (i := 1) (v := x1) dX8_back_42 rfl rfl rfl ?_
    refine wv_imul (pc' := 44) dX8_back_43 rfl ?_
    refine wv_iload_n (pc' := 45) (i := 2) (v := x2) dX8_back_44 rfl rfl rfl ?_
    refine wv_iadd (pc' := 46) dX8_back_45 rfl ?_
    obtain ⟨g5, h⟩ := wd_chk_some h
    refine wv_iald (pc' := 47) sa_37 (wd_in_vp g5) dX8_back_46 rfl ?_
    obtain ⟨g6, h⟩ := wd_chk_some h
    refine wv_iast (pc' := 48) sa_34 (wd_in_vp g6) dX8_back_47 rfl ?_
    refine wv_inc (pc' := 51) (x := x2) (L' := [some (.inr 31), some (.inl x1), some (.inl (x2 + (1 : Int32)))]) dX8_back_48 ic_1 rfl (by decide) rfl rfl ?_
    refine wv_goto (pc' := 25) dX8_back_51 (by decide) ?_
    exact hrec _ _ h
set_option maxRecDepth 100000 in
set_option maxHeartbeats 4000000 in
theorem t_X8_back_l25 (G : wd_G) (d : Nat) (hd : 1 ≤ d) {out : Int32 × wd_Mem} (k : wd_Mem → Option (Int32 × wd_Mem)) (x1 : Int32) (hk : ∀  (μ : wd_Mem), k μ = some out → wd_V G (d + 1) RX8 cX8_back 3 (some .int) (fun r u => r = some (.inl out.1) ∧ u = out.2) 54 [some (.inr 31), none, none] [] μ) : ∀ (n : Nat) (x2 : Int32) (μ : wd_Mem), X8_back_l25 k x1 n x2 μ = some out → wd_V G (d + 1) RX8 cX8_back 3 (some .int) (fun r u => r = some (.inl out.1) ∧ u = out.2) 25 [some (.inr 31), some (.inl x1), some (.inl x2)] [] μ := by
  intro n
  induction n with
  | zero => intro x2 μ h; exact absurd h (by unfold X8_back_l25; simp)
  | succ n ih =>
    intro x2 μ h
    exact t_X8_back_c25 G d hd (X8_back_l25 k x1 n) k μ x1 x2  (fun x2 μ h => ih x2 μ h) hk h
set_option maxRecDepth 100000 in
set_option maxHeartbeats 4000000 in
theorem t_X8_back_b54 (G : wd_G) (d : Nat) (hd : 1 ≤ d) {out : Int32 × wd_Mem} (μ : wd_Mem)  (h : X8_back_b54 μ = some out) : wd_V G (d + 1) RX8 cX8_back 3 (some .int) (fun r u => r = some (.inl out.1) ∧ u = out.2) 54 [some (.inr 31), none, none] [] μ := by
  unfold X8_back_b54 at h
  refine wv_aload_n (pc' := 55) (i := 0) (v := 31) dX8_back_54 rfl rfl rfl ?_
  refine wv_iconst (pc' := 56) dX8_back_55 ic_0 rfl ?_
  refine wv_pi (pc' := 59) p_X8_121_31 dX8_back_56 rfl ?_
  refine wv_aload_n (pc' := 60) (i := 0) (v := 31) dX8_back_59 rfl rfl rfl ?_
  refine wv_giE (pc' := 63) (v := (μ 31 0)) g_X8_118_31 dX8_back_60 rfl rfl ?_
  exact wv_ireturn rfl dX8_back_63 (wd_liv h)
set_option maxRecDepth 100000 in
set_option maxHeartbeats 4000000 in
theorem t_X8_back_b0 (G : wd_G) (d : Nat) (hd : 1 ≤ d) {out : Int32 × wd_Mem} (μ : wd_Mem) (x1 : Int32)  (h : X8_back_b0 μ x1 = some out) : wd_V G (d + 1) RX8 cX8_back 3 (some .int) (fun r u => r = some (.inl out.1) ∧ u = out.2) 0 [some (.inr 31), some (.inl x1), none] [] μ := by
  unfold X8_back_b0 at h
  refine wv_iload_n (pc' := 1) (i := 1) (v := x1) dX8_back_0 rfl rfl rfl ?_
  refine wv_iconst (pc' := 2) dX8_back_1 ic_0 rfl ?_
  refine wv_iconst (pc' := 3) dX8_back_2 ic_1 rfl ?_
  refine wv_callSi (pc' := 6) (x := (X8_in μ x1 (0 : Int32) (1 : Int32))) (ν := μ) [.inl x1, .inl (0 : Int32), .inl (1 : Int32)] ml_X8_63 rfl (Nat.le_of_ble_eq_true rfl) dX8_back_3 rfl (c_X8_in G d (Nat.le_trans (Nat.le_of_ble_eq_true rfl) hd)  rfl) ?_
  refine wv_if_ne (pc' := 9) (tgt := 11) dX8_back_6 (by decide) rfl (fun c1 => ?_) (fun c1 => ?_)
  · have h := (if_neg c1).symm.trans h
    refine wv_aload_n (pc' := 12) (i := 0) (v := 31) dX8_back_11 rfl rfl rfl ?_
    refine wv_gr (pc' := 15) g_X8_22_31 dX8_back_12 rfl ?_
    refine wv_iload_n (pc' := 16) (i := 1) (v := x1) dX8_back_15 rfl rfl rfl ?_
    obtain ⟨g2, h⟩ := wd_chk_some h
    refine wv_zald (pc' := 17) sa_36 (wd_in_vp g2) dX8_back_16 rfl ?_
    refine wv_if_ne (pc' := 20) (tgt := 23) dX8_back_17 (by decide) rfl (fun c3 => ?_) (fun c3 => ?_)
    · have h := (if_neg c3).symm.trans h
      refine wv_iconst (pc' := 24) dX8_back_23 ic_0 rfl ?_
      refine wv_istore_n (pc' := 25) (i := 2) (L' := [some (.inr 31), some (.inl x1), some (.inl (0 : Int32))]) dX8_back_24 rfl (by decide) rfl rfl ?_
      exact t_X8_back_l25 G d hd (fun μ => X8_back_b54 μ) x1  (fun μ h => t_X8_back_b54 G d hd μ  h) wd_big (0 : Int32) μ h
    · have h := (if_pos c3).symm.trans h
      refine wv_bipush (pc' := 22) dX8_back_20 bp_m2 rfl ?_
      exact wv_ireturn rfl dX8_back_22 (wd_liv h)
  · have h := (if_pos c1).symm.trans h
    refine wv_iconst (pc' := 10) dX8_back_9 ic_m1 rfl ?_
    exact wv_ireturn rfl dX8_back_10 (wd_liv h)
set_option maxRecDepth 100000 in
set_option maxHeartbeats 4000000 in
theorem c_X8_back (G : wd_G) (d : Nat) (hd : 2 ≤ d) {μ : wd_Mem} {x1 : Int32} {out : Int32 × wd_Mem}  (h : X8_back μ x1 = some out) : wd_C G d yX8_back [.inr 31, .inl x1] μ (fun r u => r = some (.inl out.1) ∧ u = out.2) := by
  obtain ⟨d, rfl⟩ : ∃ e, d = e + 1 := ⟨d - 1, by omega⟩
  refine wd_enter mc_X8_back (by decide) (by decide +kernel) rfl (Nat.le_of_ble_eq_true rfl) (L0 := [some (.inr 31), some (.inl x1), none]) rfl ?_
  exact t_X8_back_b0 G d (by omega) μ x1 h
set_option maxRecDepth 100000 in
set_option maxHeartbeats 4000000 in
theorem t_X8_countSchedules_b0 (G : wd_G) (d : Nat) (hd : 2 ≤ d) {out : Int32 × wd_Mem} (μ : wd_Mem)  (h : X8_countSchedules_b0 μ = some out) : wd_V G (d + 1) RX8 cX8_countSchedules 1 (some .int) (fun r u => r = some (.inl out.1) ∧ u = out.2) 0 [some (.inr 31)] [] μ := by
  unfold X8_countSchedules_b0 at h
  refine wv_aload_n (pc' := 1) (i := 0) (v := 31) dX8_countSchedules_0 rfl rfl rfl ?_
  obtain ⟨r1, er1, h⟩ := wd_bind_some h
  refine wv_callVv (pc' := 4) (ν := r1) [] ml_X8_210 rc_31 rfl (Nat.le_of_ble_eq_true rfl) dX8_countSchedules_1 rfl (c_X8_plain G d (Nat.le_trans (Nat.le_of_ble_eq_true rfl) hd)  er1) ?_
  refine wv_aload_n (pc' := 5) (i := 0) (v := 31) dX8_countSchedules_4 rfl rfl rfl ?_
  refine wv_sipush (pc' := 8) dX8_countSchedules_5 sp_9999 rfl ?_
  refine wv_bipush (pc' := 10) dX8_countSchedules_8 bp_16 rfl ?_
  refine wv_bipush (pc' := 12) dX8_countSchedules_10 bp_m9 rfl ?_
  refine wv_iconst (pc' := 13) dX8_countSchedules_12 ic_0 rfl ?_
  obtain ⟨r2, er2, h⟩ := wd_bind_some h
  refine wv_callVi (pc' := 16) (x := r2.1) (ν := r2.2) [.inl (9999 : Int32), .inl (16 : Int32), .inl (-9 : Int32), .inl (0 : Int32)] ml_X8_213 rc_31 rfl (Nat.le_of_ble_eq_true rfl) dX8_countSchedules_13 rfl (c_X8_schedules G d (Nat.le_trans (Nat.le_of_ble_eq_true rfl) hd)  er2) ?_
  exact wv_ireturn rfl dX8_countSchedules_16 (wd_liv h)
set_option maxRecDepth 100000 in
set_option maxHeartbeats 4000000 in
theorem c_X8_countSchedules (G : wd_G) (d : Nat) (hd : 3 ≤ d) {μ : wd_Mem} {out : Int32 × wd_Mem}  (h : X8_countSchedules μ = some out) : wd_C G d yX8_countSchedules [.inr 31] μ (fun r u => r = some (.inl out.1) ∧ u = out.2) := by
  obtain ⟨d, rfl⟩ : ∃ e, d = e + 1 := ⟨d - 1, by omega⟩
  refine wd_enter mc_X8_countSchedules (by decide) (by decide +kernel) rfl (Nat.le_of_ble_eq_true rfl) (L0 := [some (.inr 31)]) rfl ?_
  exact t_X8_countSchedules_b0 G d (by omega) μ  h
set_option maxRecDepth 100000 in
set_option maxHeartbeats 4000000 in
theorem t_X8_shortest_c6 (G : wd_G) (d : Nat) (hd : 2 ≤ d) {out : Int32 × wd_Mem} (rec : Int32 → wd_Mem → Option (Int32 × wd_Mem)) (k : wd_Mem → Option (Int32 × wd_Mem)) (μ : wd_Mem) (x1 : Int32) (hrec : ∀ (x1 : Int32) (μ : wd_Mem), rec x1 μ = some out → wd_V G (d + 1) RX8 cX8_shortest 2 (some .int) (fun r u => r = some (.inl out.1) ∧ u = out.2) 6 [some (.inr 31), some (.inl x1)] [] μ) (hk : ∀  (μ : wd_Mem), k μ = some out → wd_V G (d + 1) RX8 cX8_shortest 2 (some .int) (fun r u => r = some (.inl out.1) ∧ u = out.2) 32 [some (.inr 31), none] [] μ) (h : X8_shortest_c6 rec k μ x1 = some out) : wd_V G (d + 1) RX8 cX8_shortest 2 (some .int) (fun r u => r = some (.inl out.1) ∧ u = out.2) 6 [some (.inr 31), some (.inl x1)] [] μ := by
  unfold X8_shortest_c6 at h
  refine wv_iload_n (pc' := 7) (i := 1) (v := x1) dX8_shortest_6 rfl rfl rfl ?_
  refine wv_bipush (pc' := 9) dX8_shortest_7 bp_16 rfl ?_
  refine wv_icmp_gt (pc' := 12) (tgt := 32) dX8_shortest_9 (by decide) rfl (fun c2 => ?_) (fun c2 => ?_)
  · have h := (if_pos c2).symm.trans h
    refine wv_weak (L' := [some (.inr 31), none]) ⟨rfl, trivial⟩ ?_
    exact hk _ h
  · have h := (if_neg c2).symm.trans h
    refine wv_aload_n (pc' := 13) (i := 0) (v := 31) dX8_shortest_12 rfl rfl rfl ?_
    refine wv_iconst (pc' := 14) dX8_shortest_13 ic_1 rfl ?_
    refine wv_iload_n (pc' := 15) (i := 1) (v := x1) dX8_shortest_14 rfl rfl rfl ?_
    refine wv_bipush (pc' := 17) dX8_shortest_15 bp_m9 rfl ?_
    refine wv_iconst (pc' := 18) dX8_shortest_17 ic_0 rfl ?_
    obtain ⟨r3, er3, h⟩ := wd_bind_some h
    refine wv_callVi (pc' := 21) (x := r3.1) (ν := r3.2) [.inl (1 : Int32), .inl x1, .inl (-9 : Int32), .inl (0 : Int32)] ml_X8_213 rc_31 rfl (Nat.le_of_ble_eq_true rfl) dX8_shortest_18 rfl (c_X8_schedules G d (Nat.le_trans (Nat.le_of_ble_eq_true rfl) hd)  er3) ?_
    refine wv_if_le (pc' := 24) (tgt := 26) dX8_shortest_21 (by decide) rfl (fun c4 => ?_) (fun c4 => ?_)
    · have h := (if_pos c4).symm.trans h
      refine wv_inc (pc' := 29) (x := x1) (L' := [some (.inr 31), some (.inl (x1 + (1 : Int32)))]) dX8_shortest_26 ic_1 rfl (by decide) rfl rfl ?_
      refine wv_goto (pc' := 6) dX8_shortest_29 (by decide) ?_
      exact hrec _ _ h
    · have h := (if_neg c4).symm.trans h
      refine wv_iload_n (pc' := 25) (i := 1) (v := x1) dX8_shortest_24 rfl rfl rfl ?_
      exact wv_ireturn rfl dX8_shortest_25 (wd_liv h)
set_option maxRecDepth 100000 in
set_option maxHeartbeats 4000000 in
theorem t_X8_shortest_l6 (G : wd_G) (d : Nat) (hd : 2 ≤ d) {out : Int32 × wd_Mem} (k : wd_Mem → Option (Int32 × wd_Mem)) (hk : ∀  (μ : wd_Mem), k μ = some out → wd_V G (d + 1) RX8 cX8_shortest 2 (some .int) (fun r u => r = some (.inl out.1) ∧ u = out.2) 32 [some (.inr 31), none] [] μ) : ∀ (n : Nat) (x1 : Int32) (μ : wd_Mem), X8_shortest_l6 k n x1 μ = some out → wd_V G (d + 1) RX8 cX8_shortest 2 (some .int) (fun r u => r = some (.inl out.1) ∧ u = out.2) 6 [some (.inr 31), some (.inl x1)] [] μ := by
  intro n
  induction n with
  | zero => intro x1 μ h; exact absurd h (by unfold X8_shortest_l6; simp)
  | succ n ih =>
    intro x1 μ h
    exact t_X8_shortest_c6 G d hd (X8_shortest_l6 k n) k μ x1  (fun x1 μ h => ih x1 μ h) hk h
set_option maxRecDepth 100000 in
set_option maxHeartbeats 4000000 in
theorem t_X8_shortest_b32 (G : wd_G) (d : Nat) (hd : 2 ≤ d) {out : Int32 × wd_Mem} (μ : wd_Mem)  (h : X8_shortest_b32 μ = some out) : wd_V G (d + 1) RX8 cX8_shortest 2 (some .int) (fun r u => r = some (.inl out.1) ∧ u = out.2) 32 [some (.inr 31), none] [] μ := by
  unfold X8_shortest_b32 at h
  refine wv_bipush (pc' := 34) dX8_shortest_32 bp_m9 rfl ?_
  exact wv_ireturn rfl dX8_shortest_34 (wd_liv h)
set_option maxRecDepth 100000 in
set_option maxHeartbeats 4000000 in
theorem t_X8_shortest_b0 (G : wd_G) (d : Nat) (hd : 2 ≤ d) {out : Int32 × wd_Mem} (μ : wd_Mem)  (h : X8_shortest_b0 μ = some out) : wd_V G (d + 1) RX8 cX8_shortest 2 (some .int) (fun r u => r = some (.inl out.1) ∧ u = out.2) 0 [some (.inr 31), none] [] μ := by
  unfold X8_shortest_b0 at h
  refine wv_aload_n (pc' := 1) (i := 0) (v := 31) dX8_shortest_0 rfl rfl rfl ?_
  obtain ⟨r1, er1, h⟩ := wd_bind_some h
  refine wv_callVv (pc' := 4) (ν := r1) [] ml_X8_210 rc_31 rfl (Nat.le_of_ble_eq_true rfl) dX8_shortest_1 rfl (c_X8_plain G d (Nat.le_trans (Nat.le_of_ble_eq_true rfl) hd)  er1) ?_
  refine wv_iconst (pc' := 5) dX8_shortest_4 ic_0 rfl ?_
  refine wv_istore_n (pc' := 6) (i := 1) (L' := [some (.inr 31), some (.inl (0 : Int32))]) dX8_shortest_5 rfl (by decide) rfl rfl ?_
  exact t_X8_shortest_l6 G d hd (fun μ => X8_shortest_b32 μ)  (fun μ h => t_X8_shortest_b32 G d hd μ  h) wd_big (0 : Int32) r1 h
set_option maxRecDepth 100000 in
set_option maxHeartbeats 4000000 in
theorem c_X8_shortest (G : wd_G) (d : Nat) (hd : 3 ≤ d) {μ : wd_Mem} {out : Int32 × wd_Mem}  (h : X8_shortest μ = some out) : wd_C G d yX8_shortest [.inr 31] μ (fun r u => r = some (.inl out.1) ∧ u = out.2) := by
  obtain ⟨d, rfl⟩ : ∃ e, d = e + 1 := ⟨d - 1, by omega⟩
  refine wd_enter mc_X8_shortest (by decide) (by decide +kernel) rfl (Nat.le_of_ble_eq_true rfl) (L0 := [some (.inr 31), none]) rfl ?_
  exact t_X8_shortest_b0 G d (by omega) μ  h
set_option maxRecDepth 100000 in
set_option maxHeartbeats 4000000 in
theorem t_X8_heavy_c44 (G : wd_G) (d : Nat) (hd : 2 ≤ d) {out : Int32 × wd_Mem} (rec : Int32 → Int32 → Option (Int32 × wd_Mem)) (k : Int32 → Option (Int32 × wd_Mem)) (μ : wd_Mem) (x1 x2 x3 x4 x5 x6 : Int32) (hrec : ∀ (x5 x6 : Int32), rec x5 x6 = some out → wd_V G (d + 1) RX8 cX8_heavy 7 (some .int) (fun r u => r = some (.inl out.1) ∧ u = out.2) 44 [some (.inr 31), some (.inl x1), some (.inl x2), some (.inl x3), some (.inl x4), some (.inl x5), some (.inl x6)] [] μ) (hk : ∀ (x5 : Int32), k x5 = some out → wd_V G (d + 1) RX8 cX8_heavy 7 (some .int) (fun r u => r = some (.inl out.1) ∧ u = out.2) 73 [some (.inr 31), some (.inl x1), some (.inl x2), some (.inl x3), some (.inl x4), some (.inl x5), none] [] μ) (h : X8_heavy_c44 rec k μ x1 x2 x3 x4 x5 x6 = some out) : wd_V G (d + 1) RX8 cX8_heavy 7 (some .int) (fun r u => r = some (.inl out.1) ∧ u = out.2) 44 [some (.inr 31), some (.inl x1), some (.inl x2), some (.inl x3), some (.inl x4), some (.inl x5), some (.inl x6)] [] μ := by
  unfold X8_heavy_c44 at h
  refine wv_iload (pc' := 46) (v := x6) dX8_heavy_44 rfl rfl ?_
  refine wv_aload_n (pc' := 47) (i := 0) (v := 31) dX8_heavy_46 rfl rfl rfl ?_
  refine wv_gi (pc' := 50) g_X8_118_31 dX8_heavy_47 rfl ?_
  refine wv_icmp_ge (pc' := 53) (tgt := 73) dX8_heavy_50 (by decide) rfl (fun c4 => ?_) (fun c4 => ?_)
  · have h := (if_pos c4).symm.trans h
    refine wv_weak (L' := [some (.inr 31), some (.inl x1), some (.inl x2), some (.inl x3), some (.inl x4), some (.inl x5), none]) ⟨rfl, rfl, rfl, rfl, rfl, rfl, trivial⟩ ?_
    exact hk _ h
  · have h := (if_neg c4).symm.trans h
    refine wv_iload (pc' := 55) (v := x5) dX8_heavy_53 rfl rfl ?_
    refine wv_aload_n (pc' := 56) (i := 0) (v := 31) dX8_heavy_55 rfl rfl rfl ?_
    refine wv_iload (pc' := 58) (v := x6) dX8_heavy_56 rfl rfl ?_
    refine wv_iload_n (pc' := 59) (i := 3) (v := x3) dX8_heavy_58 rfl rfl rfl ?_
    refine wv_iload (pc' := 61) (v := x4) dX8_heavy_59 rfl rfl ?_
    obtain ⟨r5, er5, h⟩ := wd_bind_some h
    refine wv_callVi (pc' := 64) (x := r5) (ν := μ) [.inl x6, .inl x3, .inl x4] ml_X8_161 rc_31 rfl (Nat.le_of_ble_eq_true rfl) dX8_heavy_61 rfl (c_X8_leastOf G d (Nat.le_trans (Nat.le_of_ble_eq_true rfl) hd)  er5) ?_
    refine wv_iadd (pc' := 65) dX8_heavy_64 rfl ?_
    refine wv_istore (pc' := 67) (L' := [some (.inr 31), some (.inl x1), some (.inl x2), some (.inl x3), some (.inl x4), some (.inl (x5 + r5)), some (.inl x6)]) dX8_heavy_65 (by decide) rfl rfl ?_
    refine wv_inc (pc' := 70) (x := x6) (L' := [some (.inr 31), some (.inl x1), some (.inl x2), some (.inl x3), some (.inl x4), some (.inl (x5 + r5)), some (.inl (x6 + (1 : Int32)))]) dX8_heavy_67 ic_1 rfl (by decide) rfl rfl ?_
    refine wv_goto (pc' := 44) dX8_heavy_70 (by decide) ?_
    exact hrec _ _ h
set_option maxRecDepth 100000 in
set_option maxHeartbeats 4000000 in
theorem t_X8_heavy_l44 (G : wd_G) (d : Nat) (hd : 2 ≤ d) {out : Int32 × wd_Mem} (k : Int32 → Option (Int32 × wd_Mem)) (μ : wd_Mem) (x1 x2 x3 x4 : Int32) (hk : ∀ (x5 : Int32), k x5 = some out → wd_V G (d + 1) RX8 cX8_heavy 7 (some .int) (fun r u => r = some (.inl out.1) ∧ u = out.2) 73 [some (.inr 31), some (.inl x1), some (.inl x2), some (.inl x3), some (.inl x4), some (.inl x5), none] [] μ) : ∀ (n : Nat) (x5 x6 : Int32), X8_heavy_l44 k μ x1 x2 x3 x4 n x5 x6 = some out → wd_V G (d + 1) RX8 cX8_heavy 7 (some .int) (fun r u => r = some (.inl out.1) ∧ u = out.2) 44 [some (.inr 31), some (.inl x1), some (.inl x2), some (.inl x3), some (.inl x4), some (.inl x5), some (.inl x6)] [] μ := by
  intro n
  induction n with
  | zero => intro x5 x6 h; exact absurd h (by unfold X8_heavy_l44; simp)
  | succ n ih =>
    intro x5 x6 h
    exact t_X8_heavy_c44 G d hd (X8_heavy_l44 k μ x1 x2 x3 x4 n) k μ x1 x2 x3 x4 x5 x6  (fun x5 x6 h => ih x5 x6 h) hk h
set_option maxRecDepth 100000 in
set_option maxHeartbeats 4000000 in
theorem t_X8_heavy_b103 (G : wd_G) (d : Nat) (hd : 2 ≤ d) {out : Int32 × wd_Mem} (rec : Int32 → Int32 → Int32 → Option (Int32 × wd_Mem)) (k : Int32 → Int32 → Option (Int32 × wd_Mem)) (μ : wd_Mem) (x1 x3 x4 s0 : Int32) (hrec : ∀ (x1 x2 x4 : Int32), rec x1 x2 x4 = some out → wd_V G (d + 1) RX8 cX8_heavy 7 (some .int) (fun r u => r = some (.inl out.1) ∧ u = out.2) 22 [some (.inr 31), some (.inl x1), some (.inl x2), some (.inl x3), some (.inl x4), none, none] [] μ) (hk : ∀ (x1 x2 : Int32), k x1 x2 = some out → wd_V G (d + 1) RX8 cX8_heavy 7 (some .int) (fun r u => r = some (.inl out.1) ∧ u = out.2) 110 [some (.inr 31), some (.inl x1), some (.inl x2), some (.inl x3), none, none, none] [] μ) (h : X8_heavy_b103 rec k μ x1 x3 x4 s0 = some out) : wd_V G (d + 1) RX8 cX8_heavy 7 (some .int) (fun r u => r = some (.inl out.1) ∧ u = out.2) 103 [some (.inr 31), some (.inl x1), none, some (.inl x3), some (.inl x4), none, none] [.inl s0] μ := by
  unfold X8_heavy_b103 at h
  refine wv_istore_n (pc' := 104) (i := 2) (L' := [some (.inr 31), some (.inl x1), some (.inl s0), some (.inl x3), some (.inl x4), none, none]) dX8_heavy_103 rfl (by decide) rfl rfl ?_
  refine wv_inc (pc' := 107) (x := x4) (L' := [some (.inr 31), some (.inl x1), some (.inl s0), some (.inl x3), some (.inl (x4 + (1 : Int32))), none, none]) dX8_heavy_104 ic_1 rfl (by decide) rfl rfl ?_
  refine wv_goto (pc' := 22) dX8_heavy_107 (by decide) ?_
  exact hrec _ _ _ h
set_option maxRecDepth 100000 in
set_option maxHeartbeats 4000000 in
theorem t_X8_heavy_b90 (G : wd_G) (d : Nat) (hd : 2 ≤ d) {out : Int32 × wd_Mem} (rec : Int32 → Int32 → Int32 → Option (Int32 × wd_Mem)) (k : Int32 → Int32 → Option (Int32 × wd_Mem)) (μ : wd_Mem) (x2 x3 x4 x5 s0 : Int32) (hrec : ∀ (x1 x2 x4 : Int32), rec x1 x2 x4 = some out → wd_V G (d + 1) RX8 cX8_heavy 7 (some .int) (fun r u => r = some (.inl out.1) ∧ u = out.2) 22 [some (.inr 31), some (.inl x1), some (.inl x2), some (.inl x3), some (.inl x4), none, none] [] μ) (hk : ∀ (x1 x2 : Int32), k x1 x2 = some out → wd_V G (d + 1) RX8 cX8_heavy 7 (some .int) (fun r u => r = some (.inl out.1) ∧ u = out.2) 110 [some (.inr 31), some (.inl x1), some (.inl x2), some (.inl x3), none, none, none] [] μ) (h : X8_heavy_b90 rec k μ x2 x3 x4 x5 s0 = some out) : wd_V G (d + 1) RX8 cX8_heavy 7 (some .int) (fun r u => r = some (.inl out.1) ∧ u = out.2) 90 [some (.inr 31), none, some (.inl x2), some (.inl x3), some (.inl x4), some (.inl x5), none] [.inl s0] μ := by
  unfold X8_heavy_b90 at h
  refine wv_istore_n (pc' := 91) (i := 1) (L' := [some (.inr 31), some (.inl s0), some (.inl x2), some (.inl x3), some (.inl x4), some (.inl x5), none]) dX8_heavy_90 rfl (by decide) rfl rfl ?_
  refine wv_iload (pc' := 93) (v := x5) dX8_heavy_91 rfl rfl ?_
  refine wv_iload_n (pc' := 94) (i := 2) (v := x2) dX8_heavy_93 rfl rfl rfl ?_
  refine wv_icmp_le (pc' := 97) (tgt := 102) dX8_heavy_94 (by decide) rfl (fun c7 => ?_) (fun c7 => ?_)
  · have h := (if_pos c7).symm.trans h
    refine wv_iload_n (pc' := 103) (i := 2) (v := x2) dX8_heavy_102 rfl rfl rfl ?_
    refine wv_weak (L' := [some (.inr 31), some (.inl s0), none, some (.inl x3), some (.inl x4), none, none]) ⟨rfl, rfl, rfl, rfl, trivial⟩ ?_
    exact t_X8_heavy_b103 G d hd rec k μ s0 x3 x4 x2 hrec hk h
  · have h := (if_neg c7).symm.trans h
    refine wv_iload (pc' := 99) (v := x5) dX8_heavy_97 rfl rfl ?_
    refine wv_goto (pc' := 103) dX8_heavy_99 (by decide) ?_
    refine wv_weak (L' := [some (.inr 31), some (.inl s0), none, some (.inl x3), some (.inl x4), none, none]) ⟨rfl, rfl, rfl, rfl, trivial⟩ ?_
    exact t_X8_heavy_b103 G d hd rec k μ s0 x3 x4 x5 hrec hk h
set_option maxRecDepth 100000 in
set_option maxHeartbeats 4000000 in
theorem t_X8_heavy_b73 (G : wd_G) (d : Nat) (hd : 2 ≤ d) {out : Int32 × wd_Mem} (rec : Int32 → Int32 → Int32 → Option (Int32 × wd_Mem)) (k : Int32 → Int32 → Option (Int32 × wd_Mem)) (μ : wd_Mem) (x1 x2 x3 x4 x5 : Int32) (hrec : ∀ (x1 x2 x4 : Int32), rec x1 x2 x4 = some out → wd_V G (d + 1) RX8 cX8_heavy 7 (some .int) (fun r u => r = some (.inl out.1) ∧ u = out.2) 22 [some (.inr 31), some (.inl x1), some (.inl x2), some (.inl x3), some (.inl x4), none, none] [] μ) (hk : ∀ (x1 x2 : Int32), k x1 x2 = some out → wd_V G (d + 1) RX8 cX8_heavy 7 (some .int) (fun r u => r = some (.inl out.1) ∧ u = out.2) 110 [some (.inr 31), some (.inl x1), some (.inl x2), some (.inl x3), none, none, none] [] μ) (h : X8_heavy_b73 rec k μ x1 x2 x3 x4 x5 = some out) : wd_V G (d + 1) RX8 cX8_heavy 7 (some .int) (fun r u => r = some (.inl out.1) ∧ u = out.2) 73 [some (.inr 31), some (.inl x1), some (.inl x2), some (.inl x3), some (.inl x4), some (.inl x5), none] [] μ := by
  unfold X8_heavy_b73 at h
  refine wv_iload (pc' := 75) (v := x5) dX8_heavy_73 rfl rfl ?_
  refine wv_iload_n (pc' := 76) (i := 2) (v := x2) dX8_heavy_75 rfl rfl rfl ?_
  refine wv_icmp_le (pc' := 79) (tgt := 89) dX8_heavy_76 (by decide) rfl (fun c6 => ?_) (fun c6 => ?_)
  · have h := (if_pos c6).symm.trans h
    refine wv_iload_n (pc' := 90) (i := 1) (v := x1) dX8_heavy_89 rfl rfl rfl ?_
    refine wv_weak (L' := [some (.inr 31), none, some (.inl x2), some (.inl x3), some (.inl x4), some (.inl x5), none]) ⟨rfl, rfl, rfl, rfl, rfl, trivial⟩ ?_
    exact t_X8_heavy_b90 G d hd rec k μ x2 x3 x4 x5 x1 hrec hk h
  · have h := (if_neg c6).symm.trans h
    refine wv_bipush (pc' := 81) dX8_heavy_79 bp_100 rfl ?_
    refine wv_iload_n (pc' := 82) (i := 3) (v := x3) dX8_heavy_81 rfl rfl rfl ?_
    refine wv_imul (pc' := 83) dX8_heavy_82 rfl ?_
    refine wv_iload (pc' := 85) (v := x4) dX8_heavy_83 rfl rfl ?_
    refine wv_iadd (pc' := 86) dX8_heavy_85 rfl ?_
    refine wv_goto (pc' := 90) dX8_heavy_86 (by decide) ?_
    refine wv_weak (L' := [some (.inr 31), none, some (.inl x2), some (.inl x3), some (.inl x4), some (.inl x5), none]) ⟨rfl, rfl, rfl, rfl, rfl, trivial⟩ ?_
    exact t_X8_heavy_b90 G d hd rec k μ x2 x3 x4 x5 (((100 : Int32) * x3) + x4) hrec hk h
set_option maxRecDepth 100000 in
set_option maxHeartbeats 4000000 in
theorem t_X8_heavy_c22 (G : wd_G) (d : Nat) (hd : 2 ≤ d) {out : Int32 × wd_Mem} (rec : Int32 → Int32 → Int32 → Option (Int32 × wd_Mem)) (k : Int32 → Int32 → Option (Int32 × wd_Mem)) (μ : wd_Mem) (x1 x2 x3 x4 : Int32) (hrec : ∀ (x1 x2 x4 : Int32), rec x1 x2 x4 = some out → wd_V G (d + 1) RX8 cX8_heavy 7 (some .int) (fun r u => r = some (.inl out.1) ∧ u = out.2) 22 [some (.inr 31), some (.inl x1), some (.inl x2), some (.inl x3), some (.inl x4), none, none] [] μ) (hk : ∀ (x1 x2 : Int32), k x1 x2 = some out → wd_V G (d + 1) RX8 cX8_heavy 7 (some .int) (fun r u => r = some (.inl out.1) ∧ u = out.2) 110 [some (.inr 31), some (.inl x1), some (.inl x2), some (.inl x3), none, none, none] [] μ) (h : X8_heavy_c22 rec k μ x1 x2 x3 x4 = some out) : wd_V G (d + 1) RX8 cX8_heavy 7 (some .int) (fun r u => r = some (.inl out.1) ∧ u = out.2) 22 [some (.inr 31), some (.inl x1), some (.inl x2), some (.inl x3), some (.inl x4), none, none] [] μ := by
  unfold X8_heavy_c22 at h
  refine wv_iload (pc' := 24) (v := x4) dX8_heavy_22 rfl rfl ?_
  refine wv_bipush (pc' := 26) dX8_heavy_24 bp_16 rfl ?_
  refine wv_icmp_gt (pc' := 29) (tgt := 110) dX8_heavy_26 (by decide) rfl (fun c3 => ?_) (fun c3 => ?_)
  · have h := (if_pos c3).symm.trans h
    refine wv_weak (L' := [some (.inr 31), some (.inl x1), some (.inl x2), some (.inl x3), none, none, none]) ⟨rfl, rfl, rfl, rfl, trivial⟩ ?_
    exact hk _ _ h
  · have h := (if_neg c3).symm.trans h
    refine wv_aload_n (pc' := 30) (i := 0) (v := 31) dX8_heavy_29 rfl rfl rfl ?_
    refine wv_gi (pc' := 33) g_X8_59_31 dX8_heavy_30 rfl ?_
    refine wv_ineg (pc' := 34) dX8_heavy_33 rfl ?_
    refine wv_iload (pc' := 36) (v := x4) dX8_heavy_34 rfl rfl ?_
    refine wv_iload_n (pc' := 37) (i := 3) (v := x3) dX8_heavy_36 rfl rfl rfl ?_
    refine wv_isub (pc' := 38) dX8_heavy_37 rfl ?_
    refine wv_imul (pc' := 39) dX8_heavy_38 rfl ?_
    refine wv_istore (pc' := 41) (L' := [some (.inr 31), some (.inl x1), some (.inl x2), some (.inl x3), some (.inl x4), some (.inl ((-(μ 31 1)) * (x4 - x3))), none]) dX8_heavy_39 (by decide) rfl rfl ?_
    refine wv_iconst (pc' := 42) dX8_heavy_41 ic_0 rfl ?_
    refine wv_istore (pc' := 44) (L' := [some (.inr 31), some (.inl x1), some (.inl x2), some (.inl x3), some (.inl x4), some (.inl ((-(μ 31 1)) * (x4 - x3))), some (.inl (0 : Int32))]) dX8_heavy_42 (by decide) rfl rfl ?_
    exact t_X8_heavy_l44 G d hd (fun x5 => X8_heavy_b73 rec k μ x1 x2 x3 x4 x5) μ x1 x2 x3 x4  (fun x5 h => t_X8_heavy_b73 G d hd rec k μ x1 x2 x3 x4 x5 hrec hk h) wd_big ((-(μ 31 1)) * (x4 - x3)) (0 : Int32) h
set_option maxRecDepth 100000 in
set_option maxHeartbeats 4000000 in
theorem t_X8_heavy_l22 (G : wd_G) (d : Nat) (hd : 2 ≤ d) {out : Int32 × wd_Mem} (k : Int32 → Int32 → Option (Int32 × wd_Mem)) (μ : wd_Mem) (x3 : Int32) (hk : ∀ (x1 x2 : Int32), k x1 x2 = some out → wd_V G (d + 1) RX8 cX8_heavy 7 (some .int) (fun r u => r = some (.inl out.1) ∧ u = out.2) 110 [some (.inr 31), some (.inl x1), some (.inl x2), some (.inl x3), none, none, none] [] μ) : ∀ (n : Nat) (x1 x2 x4 : Int32), X8_heavy_l22 k μ x3 n x1 x2 x4 = some out → wd_V G (d + 1) RX8 cX8_heavy 7 (some .int) (fun r u => r = some (.inl out.1) ∧ u = out.2) 22 [some (.inr 31), some (.inl x1), some (.inl x2), some (.inl x3), some (.inl x4), none, none] [] μ := by
  intro n
  induction n with
  | zero => intro x1 x2 x4 h; exact absurd h (by unfold X8_heavy_l22; simp)
  | succ n ih =>
    intro x1 x2 x4 h
    exact t_X8_heavy_c22 G d hd (X8_heavy_l22 k μ x3 n) k μ x1 x2 x3 x4  (fun x1 x2 x4 h => ih x1 x2 x4 h) hk h
set_option maxRecDepth 100000 in
set_option maxHeartbeats 4000000 in
theorem t_X8_heavy_b110 (G : wd_G) (d : Nat) (hd : 2 ≤ d) {out : Int32 × wd_Mem} (rec : Int32 → Int32 → Int32 → Option (Int32 × wd_Mem)) (k : Int32 → Option (Int32 × wd_Mem)) (μ : wd_Mem) (x1 x2 x3 : Int32) (hrec : ∀ (x1 x2 x3 : Int32), rec x1 x2 x3 = some out → wd_V G (d + 1) RX8 cX8_heavy 7 (some .int) (fun r u => r = some (.inl out.1) ∧ u = out.2) 11 [some (.inr 31), some (.inl x1), some (.inl x2), some (.inl x3), none, none, none] [] μ) (hk : ∀ (x1 : Int32), k x1 = some out → wd_V G (d + 1) RX8 cX8_heavy 7 (some .int) (fun r u => r = some (.inl out.1) ∧ u = out.2) 116 [some (.inr 31), some (.inl x1), none, none, none, none, none] [] μ) (h : X8_heavy_b110 rec k μ x1 x2 x3 = some out) : wd_V G (d + 1) RX8 cX8_heavy 7 (some .int) (fun r u => r = some (.inl out.1) ∧ u = out.2) 110 [some (.inr 31), some (.inl x1), some (.inl x2), some (.inl x3), none, none, none] [] μ := by
  unfold X8_heavy_b110 at h
  refine wv_inc (pc' := 113) (x := x3) (L' := [some (.inr 31), some (.inl x1), some (.inl x2), some (.inl (x3 + (1 : Int32))), none, none, none]) dX8_heavy_110 ic_1 rfl (by decide) rfl rfl ?_
  refine wv_goto (pc' := 11) dX8_heavy_113 (by decide) ?_
  exact hrec _ _ _ h
set_option maxRecDepth 100000 in
set_option maxHeartbeats 4000000 in
theorem t_X8_heavy_c11 (G : wd_G) (d : Nat) (hd : 2 ≤ d) {out : Int32 × wd_Mem} (rec : Int32 → Int32 → Int32 → Option (Int32 × wd_Mem)) (k : Int32 → Option (Int32 × wd_Mem)) (μ : wd_Mem) (x1 x2 x3 : Int32) (hrec : ∀ (x1 x2 x3 : Int32), rec x1 x2 x3 = some out → wd_V G (d + 1) RX8 cX8_heavy 7 (some .int) (fun r u => r = some (.inl out.1) ∧ u = out.2) 11 [some (.inr 31), some (.inl x1), some (.inl x2), some (.inl x3), none, none, none] [] μ) (hk : ∀ (x1 : Int32), k x1 = some out → wd_V G (d + 1) RX8 cX8_heavy 7 (some .int) (fun r u => r = some (.inl out.1) ∧ u = out.2) 116 [some (.inr 31), some (.inl x1), none, none, none, none, none] [] μ) (h : X8_heavy_c11 rec k μ x1 x2 x3 = some out) : wd_V G (d + 1) RX8 cX8_heavy 7 (some .int) (fun r u => r = some (.inl out.1) ∧ u = out.2) 11 [some (.inr 31), some (.inl x1), some (.inl x2), some (.inl x3), none, none, none] [] μ := by
  unfold X8_heavy_c11 at h
  refine wv_iload_n (pc' := 12) (i := 3) (v := x3) dX8_heavy_11 rfl rfl rfl ?_
  refine wv_bipush (pc' := 14) dX8_heavy_12 bp_16 rfl ?_
  refine wv_icmp_ge (pc' := 17) (tgt := 116) dX8_heavy_14 (by decide) rfl (fun c2 => ?_) (fun c2 => ?_)
  · have h := (if_pos c2).symm.trans h
    refine wv_weak (L' := [some (.inr 31), some (.inl x1), none, none, none, none, none]) ⟨rfl, rfl, trivial⟩ ?_
    exact hk _ h
  · have h := (if_neg c2).symm.trans h
    refine wv_iload_n (pc' := 18) (i := 3) (v := x3) dX8_heavy_17 rfl rfl rfl ?_
    refine wv_iconst (pc' := 19) dX8_heavy_18 ic_1 rfl ?_
    refine wv_iadd (pc' := 20) dX8_heavy_19 rfl ?_
    refine wv_istore (pc' := 22) (L' := [some (.inr 31), some (.inl x1), some (.inl x2), some (.inl x3), some (.inl (x3 + (1 : Int32))), none, none]) dX8_heavy_20 (by decide) rfl rfl ?_
    exact t_X8_heavy_l22 G d hd (fun x1 x2 => X8_heavy_b110 rec k μ x1 x2 x3) μ x3  (fun x1 x2 h => t_X8_heavy_b110 G d hd rec k μ x1 x2 x3 hrec hk h) wd_big x1 x2 (x3 + (1 : Int32)) h
set_option maxRecDepth 100000 in
set_option maxHeartbeats 4000000 in
theorem t_X8_heavy_l11 (G : wd_G) (d : Nat) (hd : 2 ≤ d) {out : Int32 × wd_Mem} (k : Int32 → Option (Int32 × wd_Mem)) (μ : wd_Mem) (hk : ∀ (x1 : Int32), k x1 = some out → wd_V G (d + 1) RX8 cX8_heavy 7 (some .int) (fun r u => r = some (.inl out.1) ∧ u = out.2) 116 [some (.inr 31), some (.inl x1), none, none, none, none, none] [] μ) : ∀ (n : Nat) (x1 x2 x3 : Int32), X8_heavy_l11 k μ n x1 x2 x3 = some out → wd_V G (d + 1) RX8 cX8_heavy 7 (some .int) (fun r u => r = some (.inl out.1) ∧ u = out.2) 11 [some (.inr 31), some (.inl x1), some (.inl x2), some (.inl x3), none, none, none] [] μ := by
  intro n
  induction n with
  | zero => intro x1 x2 x3 h; exact absurd h (by unfold X8_heavy_l11; simp)
  | succ n ih =>
    intro x1 x2 x3 h
    exact t_X8_heavy_c11 G d hd (X8_heavy_l11 k μ n) k μ x1 x2 x3  (fun x1 x2 x3 h => ih x1 x2 x3 h) hk h
set_option maxRecDepth 100000 in
set_option maxHeartbeats 4000000 in
theorem t_X8_heavy_b116 (G : wd_G) (d : Nat) (hd : 2 ≤ d) {out : Int32 × wd_Mem} (μ : wd_Mem) (x1 : Int32)  (h : X8_heavy_b116 μ x1 = some out) : wd_V G (d + 1) RX8 cX8_heavy 7 (some .int) (fun r u => r = some (.inl out.1) ∧ u = out.2) 116 [some (.inr 31), some (.inl x1), none, none, none, none, none] [] μ := by
  unfold X8_heavy_b116 at h
  refine wv_iload_n (pc' := 117) (i := 1) (v := x1) dX8_heavy_116 rfl rfl rfl ?_
  exact wv_ireturn rfl dX8_heavy_117 (wd_liv h)
set_option maxRecDepth 100000 in
set_option maxHeartbeats 4000000 in
theorem t_X8_heavy_b0 (G : wd_G) (d : Nat) (hd : 2 ≤ d) {out : Int32 × wd_Mem} (μ : wd_Mem)  (h : X8_heavy_b0 μ = some out) : wd_V G (d + 1) RX8 cX8_heavy 7 (some .int) (fun r u => r = some (.inl out.1) ∧ u = out.2) 0 [some (.inr 31), none, none, none, none, none, none] [] μ := by
  unfold X8_heavy_b0 at h
  refine wv_aload_n (pc' := 1) (i := 0) (v := 31) dX8_heavy_0 rfl rfl rfl ?_
  obtain ⟨r1, er1, h⟩ := wd_bind_some h
  refine wv_callVv (pc' := 4) (ν := r1) [] ml_X8_223 rc_31 rfl (Nat.le_of_ble_eq_true rfl) dX8_heavy_1 rfl (c_X8_asIs G d (Nat.le_trans (Nat.le_of_ble_eq_true rfl) hd)  er1) ?_
  refine wv_bipush (pc' := 6) dX8_heavy_4 bp_m9 rfl ?_
  refine wv_istore_n (pc' := 7) (i := 1) (L' := [some (.inr 31), some (.inl (-9 : Int32)), none, none, none, none, none]) dX8_heavy_6 rfl (by decide) rfl rfl ?_
  refine wv_iconst (pc' := 8) dX8_heavy_7 ic_0 rfl ?_
  refine wv_istore_n (pc' := 9) (i := 2) (L' := [some (.inr 31), some (.inl (-9 : Int32)), some (.inl (0 : Int32)), none, none, none, none]) dX8_heavy_8 rfl (by decide) rfl rfl ?_
  refine wv_iconst (pc' := 10) dX8_heavy_9 ic_0 rfl ?_
  refine wv_istore_n (pc' := 11) (i := 3) (L' := [some (.inr 31), some (.inl (-9 : Int32)), some (.inl (0 : Int32)), some (.inl (0 : Int32)), none, none, none]) dX8_heavy_10 rfl (by decide) rfl rfl ?_
  exact t_X8_heavy_l11 G d hd (fun x1 => X8_heavy_b116 r1 x1) r1  (fun x1 h => t_X8_heavy_b116 G d hd r1 x1  h) wd_big (-9 : Int32) (0 : Int32) (0 : Int32) h
set_option maxRecDepth 100000 in
set_option maxHeartbeats 4000000 in
theorem c_X8_heavy (G : wd_G) (d : Nat) (hd : 3 ≤ d) {μ : wd_Mem} {out : Int32 × wd_Mem}  (h : X8_heavy μ = some out) : wd_C G d yX8_heavy [.inr 31] μ (fun r u => r = some (.inl out.1) ∧ u = out.2) := by
  obtain ⟨d, rfl⟩ : ∃ e, d = e + 1 := ⟨d - 1, by omega⟩
  refine wd_enter mc_X8_heavy (by decide) (by decide +kernel) rfl (Nat.le_of_ble_eq_true rfl) (L0 := [some (.inr 31), none, none, none, none, none, none]) rfl ?_
  exact t_X8_heavy_b0 G d (by omega) μ  h
set_option maxRecDepth 100000 in
set_option maxHeartbeats 4000000 in
theorem t_X8_count_b0 (G : wd_G) (d : Nat) (hd : 3 ≤ d) {out : Int32 × wd_Mem} (μ : wd_Mem) (x1 : Int32)  (h : X8_count_b0 μ x1 = some out) : wd_V G (d + 1) RX8 cX8_count 2 (some .int) (fun r u => r = some (.inl out.1) ∧ u = out.2) 0 [some (.inr 31), some (.inl x1)] [] μ := by
  unfold X8_count_b0 at h
  refine wv_iload_n (pc' := 1) (i := 1) (v := x1) dX8_count_0 rfl rfl rfl ?_
  by_cases n1_0 : x1 = nI 0
  · have h := (if_pos n1_0).symm.trans h
    refine wv_case (i := 0) (tgt := 52) dX8_count_1 n1_0 (by decide) (by decide) rfl (by decide) ?_
    refine wv_aload_n (pc' := 53) (i := 0) (v := 31) dX8_count_52 rfl rfl rfl ?_
    refine wv_gi (pc' := 56) g_X8_118_31 dX8_count_53 rfl ?_
    exact wv_ireturn rfl dX8_count_56 (wd_liv h)
  · have h := (if_neg n1_0).symm.trans h
    by_cases n1_1 : x1 = nI 1
    · have h := (if_pos n1_1).symm.trans h
      refine wv_case (i := 1) (tgt := 57) dX8_count_1 n1_1 (by decide) (by decide) rfl (by decide) ?_
      refine wv_aload_n (pc' := 58) (i := 0) (v := 31) dX8_count_57 rfl rfl rfl ?_
      refine wv_gi (pc' := 61) g_X8_59_31 dX8_count_58 rfl ?_
      exact wv_ireturn rfl dX8_count_61 (wd_liv h)
    · have h := (if_neg n1_1).symm.trans h
      by_cases n1_2 : x1 = nI 2
      · have h := (if_pos n1_2).symm.trans h
        refine wv_case (i := 2) (tgt := 62) dX8_count_1 n1_2 (by decide) (by decide) rfl (by decide) ?_
        refine wv_aload_n (pc' := 63) (i := 0) (v := 31) dX8_count_62 rfl rfl rfl ?_
        obtain ⟨r1, er1, h⟩ := wd_bind_some h
        refine wv_callVi (pc' := 66) (x := r1) (ν := μ) [] ml_X8_182 rc_31 rfl (Nat.le_of_ble_eq_true rfl) dX8_count_63 rfl (c_X8_isBroken G d (Nat.le_trans (Nat.le_of_ble_eq_true rfl) hd)  er1) ?_
        refine wv_if_eq (pc' := 69) (tgt := 73) dX8_count_66 (by decide) rfl (fun c2 => ?_) (fun c2 => ?_)
        · have h := (if_pos c2).symm.trans h
          refine wv_iconst (pc' := 74) dX8_count_73 ic_0 rfl ?_
          exact wv_ireturn rfl dX8_count_74 (wd_liv h)
        · have h := (if_neg c2).symm.trans h
          refine wv_iconst (pc' := 70) dX8_count_69 ic_1 rfl ?_
          refine wv_goto (pc' := 74) dX8_count_70 (by decide) ?_
          exact wv_ireturn rfl dX8_count_74 (wd_liv h)
      · have h := (if_neg n1_2).symm.trans h
        by_cases n1_3 : x1 = nI 3
        · have h := (if_pos n1_3).symm.trans h
          refine wv_case (i := 3) (tgt := 75) dX8_count_1 n1_3 (by decide) (by decide) rfl (by decide) ?_
          refine wv_aload_n (pc' := 76) (i := 0) (v := 31) dX8_count_75 rfl rfl rfl ?_
          obtain ⟨r3, er3, h⟩ := wd_bind_some h
          refine wv_callVi (pc' := 79) (x := r3.1) (ν := r3.2) [] ml_X8_229 rc_31 rfl (Nat.le_of_ble_eq_true rfl) dX8_count_76 rfl (c_X8_countSchedules G d (Nat.le_trans (Nat.le_of_ble_eq_true rfl) hd)  er3) ?_
          exact wv_ireturn rfl dX8_count_79 (wd_liv h)
        · have h := (if_neg n1_3).symm.trans h
          by_cases n1_4 : x1 = nI 4
          · have h := (if_pos n1_4).symm.trans h
            refine wv_case (i := 4) (tgt := 80) dX8_count_1 n1_4 (by decide) (by decide) rfl (by decide) ?_
            refine wv_aload_n (pc' := 81) (i := 0) (v := 31) dX8_count_80 rfl rfl rfl ?_
            obtain ⟨r4, er4, h⟩ := wd_bind_some h
            refine wv_callVi (pc' := 84) (x := r4.1) (ν := r4.2) [] ml_X8_232 rc_31 rfl (Nat.le_of_ble_eq_true rfl) dX8_count_81 rfl (c_X8_shortest G d (Nat.le_trans (Nat.le_of_ble_eq_true rfl) hd)  er4) ?_
            exact wv_ireturn rfl dX8_count_84 (wd_liv h)
          · have h := (if_neg n1_4).symm.trans h
            by_cases n1_5 : x1 = nI 5
            · have h := (if_pos n1_5).symm.trans h
              refine wv_case (i := 5) (tgt := 85) dX8_count_1 n1_5 (by decide) (by decide) rfl (by decide) ?_
              refine wv_aload_n (pc' := 86) (i := 0) (v := 31) dX8_count_85 rfl rfl rfl ?_
              obtain ⟨r5, er5, h⟩ := wd_bind_some h
              refine wv_callVi (pc' := 89) (x := r5.1) (ν := r5.2) [] ml_X8_235 rc_31 rfl (Nat.le_of_ble_eq_true rfl) dX8_count_86 rfl (c_X8_heavy G d (Nat.le_trans (Nat.le_of_ble_eq_true rfl) hd)  er5) ?_
              exact wv_ireturn rfl dX8_count_89 (wd_liv h)
            · have h := (if_neg n1_5).symm.trans h
              by_cases n1_6 : x1 = nI 6
              · have h := (if_pos n1_6).symm.trans h
                refine wv_case (i := 6) (tgt := 90) dX8_count_1 n1_6 (by decide) (by decide) rfl (by decide) ?_
                refine wv_aload_n (pc' := 91) (i := 0) (v := 31) dX8_count_90 rfl rfl rfl ?_
                refine wv_aload_n (pc' := 92) (i := 0) (v := 31) dX8_count_91 rfl rfl rfl ?_
                refine wv_callVi (pc' := 95) (x := (X8_all μ)) (ν := μ) [] ml_X8_141 rc_31 rfl (Nat.le_of_ble_eq_true rfl) dX8_count_92 rfl (c_X8_all G d (Nat.le_trans (Nat.le_of_ble_eq_true rfl) hd)  rfl) ?_
                obtain ⟨r6, er6, h⟩ := wd_bind_some h
                refine wv_callVi (pc' := 98) (x := r6) (ν := μ) [.inl (X8_all μ)] ml_X8_148 rc_31 rfl (Nat.le_of_ble_eq_true rfl) dX8_count_95 rfl (c_X8_energy G d (Nat.le_trans (Nat.le_of_ble_eq_true rfl) hd)  er6) ?_
                exact wv_ireturn rfl dX8_count_98 (wd_liv h)
              · have h := (if_neg n1_6).symm.trans h
                by_cases n1_7 : x1 = nI 7
                · have h := (if_pos n1_7).symm.trans h
                  refine wv_case (i := 7) (tgt := 99) dX8_count_1 n1_7 (by decide) (by decide) rfl (by decide) ?_
                  refine wv_aload_n (pc' := 100) (i := 0) (v := 31) dX8_count_99 rfl rfl rfl ?_
                  refine wv_gi (pc' := 103) g_X8_67_31 dX8_count_100 rfl ?_
                  exact wv_ireturn rfl dX8_count_103 (wd_liv h)
                · have h := (if_neg n1_7).symm.trans h
                  by_cases n1_8 : x1 = nI 8
                  · have h := (if_pos n1_8).symm.trans h
                    refine wv_case (i := 8) (tgt := 104) dX8_count_1 n1_8 (by decide) (by decide) rfl (by decide) ?_
                    refine wv_aload_n (pc' := 105) (i := 0) (v := 31) dX8_count_104 rfl rfl rfl ?_
                    refine wv_gi (pc' := 108) g_X8_121_31 dX8_count_105 rfl ?_
                    exact wv_ireturn rfl dX8_count_108 (wd_liv h)
                  · have h := (if_neg n1_8).symm.trans h
                    refine wv_dflt (N := 9) (tgt := 109) dX8_count_1 (by decide) (fun i hi => by
                      rcases (show i = 0 ∨ i = 1 ∨ i = 2 ∨ i = 3 ∨ i = 4 ∨ i = 5 ∨ i = 6 ∨ i = 7 ∨ i = 8 by omega) with rfl|rfl|rfl|rfl|rfl|rfl|rfl|rfl|rfl
                      · exact n1_0
                      · exact n1_1
                      · exact n1_2
                      · exact n1_3
                      · exact n1_4
                      · exact n1_5
                      · exact n1_6
                      · exact n1_7
                      · exact n1_8) (by decide) ?_
                    refine wv_iconst (pc' := 110) dX8_count_109 ic_m1 rfl ?_
                    exact wv_ireturn rfl dX8_count_110 (wd_liv h)
set_option maxRecDepth 100000 in
set_option maxHeartbeats 4000000 in
theorem c_X8_count (G : wd_G) (d : Nat) (hd : 4 ≤ d) {μ : wd_Mem} {x1 : Int32} {out : Int32 × wd_Mem}  (h : X8_count μ x1 = some out) : wd_C G d yX8_count [.inr 31, .inl x1] μ (fun r u => r = some (.inl out.1) ∧ u = out.2) := by
  obtain ⟨d, rfl⟩ : ∃ e, d = e + 1 := ⟨d - 1, by omega⟩
  refine wd_enter mc_X8_count (by decide) (by decide +kernel) rfl (Nat.le_of_ble_eq_true rfl) (L0 := [some (.inr 31), some (.inl x1)]) rfl ?_
  exact t_X8_count_b0 G d (by omega) μ x1 h
