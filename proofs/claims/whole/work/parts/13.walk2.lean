set_option maxRecDepth 100000 in
set_option maxHeartbeats 4000000 in
theorem t_X2_countFrom_b120 (G : wd_G) (d : Nat) (hd : 2 ≤ d) {out : wd_Mem} {D : Nat} (self : wd_Mem → Int32 → Option (wd_Mem)) (rec : Int32 → Int32 → wd_Mem → Option (wd_Mem)) (k : wd_Mem → Option (wd_Mem)) (μ : wd_Mem) (x1 x2 x3 x4 : Int32) (hself : ∀ (ν : wd_Mem) (y0 : Int32) (o : wd_Mem), self ν y0 = some o → ∀ e, D ≤ e → wd_C G e yX2_countFrom [.inr 21, .inl y0] ν (fun r u => r = none ∧ u = o)) (hD : D + 1 ≤ d) (hrec : ∀ (x3 x4 : Int32) (μ : wd_Mem), rec x3 x4 μ = some out → wd_V G (d + 1) RX2 cX2_countFrom 5 none (fun r u => r = none ∧ u = out) 43 [some (.inr 21), some (.inl x1), some (.inl x2), some (.inl x3), some (.inl x4)] [] μ) (hk : ∀  (μ : wd_Mem), k μ = some out → wd_V G (d + 1) RX2 cX2_countFrom 5 none (fun r u => r = none ∧ u = out) 126 [some (.inr 21), none, none, none, none] [] μ) (h : X2_countFrom_b120 self rec k μ x1 x2 x3 x4 = some out) : wd_V G (d + 1) RX2 cX2_countFrom 5 none (fun r u => r = none ∧ u = out) 120 [some (.inr 21), some (.inl x1), some (.inl x2), some (.inl x3), some (.inl x4)] [] μ := by
  unfold X2_countFrom_b120 at h
  refine wv_inc (pc' := 123) (x := x4) (L' := [some (.inr 21), some (.inl x1), some (.inl x2), some (.inl x3), some (.inl (x4 + (1 : Int32)))]) dX2_countFrom_120 ic_1 rfl (by decide) rfl rfl ?_
  refine wv_goto (pc' := 43) dX2_countFrom_123 (by decide) ?_
  exact hrec _ _ _ h
set_option maxRecDepth 100000 in
set_option maxHeartbeats 4000000 in
theorem t_X2_countFrom_b76 (G : wd_G) (d : Nat) (hd : 2 ≤ d) {out : wd_Mem} {D : Nat} (self : wd_Mem → Int32 → Option (wd_Mem)) (rec : Int32 → Int32 → wd_Mem → Option (wd_Mem)) (k : wd_Mem → Option (wd_Mem)) (μ : wd_Mem) (x1 x2 x4 s0 : Int32) (hself : ∀ (ν : wd_Mem) (y0 : Int32) (o : wd_Mem), self ν y0 = some o → ∀ e, D ≤ e → wd_C G e yX2_countFrom [.inr 21, .inl y0] ν (fun r u => r = none ∧ u = o)) (hD : D + 1 ≤ d) (hrec : ∀ (x3 x4 : Int32) (μ : wd_Mem), rec x3 x4 μ = some out → wd_V G (d + 1) RX2 cX2_countFrom 5 none (fun r u => r = none ∧ u = out) 43 [some (.inr 21), some (.inl x1), some (.inl x2), some (.inl x3), some (.inl x4)] [] μ) (hk : ∀  (μ : wd_Mem), k μ = some out → wd_V G (d + 1) RX2 cX2_countFrom 5 none (fun r u => r = none ∧ u = out) 126 [some (.inr 21), none, none, none, none] [] μ) (h : X2_countFrom_b76 self rec k μ x1 x2 x4 s0 = some out) : wd_V G (d + 1) RX2 cX2_countFrom 5 none (fun r u => r = none ∧ u = out) 76 [some (.inr 21), some (.inl x1), some (.inl x2), none, some (.inl x4)] [.inl s0] μ := by
  unfold X2_countFrom_b76 at h
  refine wv_istore_n (pc' := 77) (i := 3) (L' := [some (.inr 21), some (.inl x1), some (.inl x2), some (.inl s0), some (.inl x4)]) dX2_countFrom_76 rfl (by decide) rfl rfl ?_
  refine wv_iload_n (pc' := 78) (i := 3) (v := s0) dX2_countFrom_77 rfl rfl rfl ?_
  refine wv_aload_n (pc' := 79) (i := 0) (v := 21) dX2_countFrom_78 rfl rfl rfl ?_
  refine wv_gr (pc' := 82) g_X2_27_21 dX2_countFrom_79 rfl ?_
  refine wv_gr (pc' := 85) g_X2_44_3 dX2_countFrom_82 rfl ?_
  refine wv_iload_n (pc' := 86) (i := 2) (v := x2) dX2_countFrom_85 rfl rfl rfl ?_
  obtain ⟨g8, h⟩ := wd_chk_some h
  refine wv_iald (pc' := 87) sa_4 (wd_in_vp g8) dX2_countFrom_86 rfl ?_
  refine wv_icmp_lt (pc' := 90) (tgt := 120) dX2_countFrom_87 (by decide) rfl (fun c9 => ?_) (fun c9 => ?_)
  · have h := (if_pos c9).symm.trans h
    exact t_X2_countFrom_b120 G d hd self rec k μ x1 x2 s0 x4 hself hD hrec hk h
  · have h := (if_neg c9).symm.trans h
    refine wv_aload_n (pc' := 91) (i := 0) (v := 21) dX2_countFrom_90 rfl rfl rfl ?_
    refine wv_gi (pc' := 94) g_X2_51_21 dX2_countFrom_91 rfl ?_
    refine wv_sipush (pc' := 97) dX2_countFrom_94 sp_9999 rfl ?_
    refine wv_icmp_ge (pc' := 100) (tgt := 120) dX2_countFrom_97 (by decide) rfl (fun c10 => ?_) (fun c10 => ?_)
    · have h := (if_pos c10).symm.trans h
      exact t_X2_countFrom_b120 G d hd self rec k μ x1 x2 s0 x4 hself hD hrec hk h
    · have h := (if_neg c10).symm.trans h
      refine wv_aload_n (pc' := 101) (i := 0) (v := 21) dX2_countFrom_100 rfl rfl rfl ?_
      refine wv_iload_n (pc' := 102) (i := 2) (v := x2) dX2_countFrom_101 rfl rfl rfl ?_
      refine wv_iload (pc' := 104) (v := x4) dX2_countFrom_102 rfl rfl ?_
      refine wv_iconst (pc' := 105) dX2_countFrom_104 ic_1 rfl ?_
      refine wv_iadd (pc' := 106) dX2_countFrom_105 rfl ?_
      refine wv_aload_n (pc' := 107) (i := 0) (v := 21) dX2_countFrom_106 rfl rfl rfl ?_
      refine wv_gr (pc' := 110) g_X2_27_21 dX2_countFrom_107 rfl ?_
      refine wv_gr (pc' := 113) g_X2_44_3 dX2_countFrom_110 rfl ?_
      refine wv_iload_n (pc' := 114) (i := 2) (v := x2) dX2_countFrom_113 rfl rfl rfl ?_
      refine wv_iald (pc' := 115) sa_4 (wd_in_vp g8) dX2_countFrom_114 rfl ?_
      refine wv_isub (pc' := 116) dX2_countFrom_115 rfl ?_
      refine wv_iload_n (pc' := 117) (i := 1) (v := x1) dX2_countFrom_116 rfl rfl rfl ?_
      obtain ⟨r11, er11, h⟩ := wd_bind_some h
      refine wv_callVv (pc' := 120) (ν := r11) [.inl x2, .inl ((x4 + (1 : Int32)) - (μ 4 (Int32.toNatClampNeg x2))), .inl x1] ml_X2_81 rc_21 rfl (Nat.le_of_ble_eq_true rfl) dX2_countFrom_117 rfl (c_X2_countWith G d (by omega) (D := _) (self := self) hself (by omega)  er11) ?_
      exact t_X2_countFrom_b120 G d hd self rec k r11 x1 x2 s0 x4 hself hD hrec hk h
set_option maxRecDepth 100000 in
set_option maxHeartbeats 4000000 in
theorem t_X2_countFrom_c43 (G : wd_G) (d : Nat) (hd : 2 ≤ d) {out : wd_Mem} {D : Nat} (self : wd_Mem → Int32 → Option (wd_Mem)) (rec : Int32 → Int32 → wd_Mem → Option (wd_Mem)) (k : wd_Mem → Option (wd_Mem)) (μ : wd_Mem) (x1 x2 x3 x4 : Int32) (hself : ∀ (ν : wd_Mem) (y0 : Int32) (o : wd_Mem), self ν y0 = some o → ∀ e, D ≤ e → wd_C G e yX2_countFrom [.inr 21, .inl y0] ν (fun r u => r = none ∧ u = o)) (hD : D + 1 ≤ d) (hrec : ∀ (x3 x4 : Int32) (μ : wd_Mem), rec x3 x4 μ = some out → wd_V G (d + 1) RX2 cX2_countFrom 5 none (fun r u => r = none ∧ u = out) 43 [some (.inr 21), some (.inl x1), some (.inl x2), some (.inl x3), some (.inl x4)] [] μ) (hk : ∀  (μ : wd_Mem), k μ = some out → wd_V G (d + 1) RX2 cX2_countFrom 5 none (fun r u => r = none ∧ u = out) 126 [some (.inr 21), none, none, none, none] [] μ) (h : X2_countFrom_c43 self rec k μ x1 x2 x3 x4 = some out) : wd_V G (d + 1) RX2 cX2_countFrom 5 none (fun r u => r = none ∧ u = out) 43 [some (.inr 21), some (.inl x1), some (.inl x2), some (.inl x3), some (.inl x4)] [] μ := by
  unfold X2_countFrom_c43 at h
  refine wv_iload (pc' := 45) (v := x4) dX2_countFrom_43 rfl rfl ?_
  refine wv_bipush (pc' := 47) dX2_countFrom_45 bp_16 rfl ?_
  refine wv_aload_n (pc' := 48) (i := 0) (v := 21) dX2_countFrom_47 rfl rfl rfl ?_
  refine wv_gr (pc' := 51) g_X2_15_21 dX2_countFrom_48 rfl ?_
  refine wv_iload_n (pc' := 52) (i := 2) (v := x2) dX2_countFrom_51 rfl rfl rfl ?_
  obtain ⟨g4, h⟩ := wd_chk_some h
  refine wv_iald (pc' := 53) sa_23 (wd_in_vp g4) dX2_countFrom_52 rfl ?_
  refine wv_min (pc' := 56) mm_X2_74 (Nat.le_of_ble_eq_true rfl) dX2_countFrom_53 rfl ?_
  refine wv_icmp_ge (pc' := 59) (tgt := 126) dX2_countFrom_56 (by decide) rfl (fun c5 => ?_) (fun c5 => ?_)
  · have h := (if_pos c5).symm.trans h
    refine wv_weak (L' := [some (.inr 21), none, none, none, none]) ⟨rfl, trivial⟩ ?_
    exact hk _ h
  · have h := (if_neg c5).symm.trans h
    refine wv_aload_n (pc' := 60) (i := 0) (v := 21) dX2_countFrom_59 rfl rfl rfl ?_
    refine wv_iload_n (pc' := 61) (i := 2) (v := x2) dX2_countFrom_60 rfl rfl rfl ?_
    refine wv_iload (pc' := 63) (v := x4) dX2_countFrom_61 rfl rfl ?_
    obtain ⟨r6, er6, h⟩ := wd_bind_some h
    refine wv_callVi (pc' := 66) (x := r6) (ν := μ) [.inl x2, .inl x4] ml_X2_77 rc_21 rfl (Nat.le_of_ble_eq_true rfl) dX2_countFrom_63 rfl (c_X2_hasRoom G d (Nat.le_trans (Nat.le_of_ble_eq_true rfl) hd)  er6) ?_
    refine wv_if_eq (pc' := 69) (tgt := 75) dX2_countFrom_66 (by decide) rfl (fun c7 => ?_) (fun c7 => ?_)
    · have h := (if_pos c7).symm.trans h
      refine wv_iconst (pc' := 76) dX2_countFrom_75 ic_0 rfl ?_
      refine wv_weak (L' := [some (.inr 21), some (.inl x1), some (.inl x2), none, some (.inl x4)]) ⟨rfl, rfl, rfl, rfl, trivial⟩ ?_
      exact t_X2_countFrom_b76 G d hd self rec k μ x1 x2 x4 (0 : Int32) hself hD hrec hk h
    · have h := (if_neg c7).symm.trans h
      refine wv_iload_n (pc' := 70) (i := 3) (v := x3) dX2_countFrom_69 rfl rfl rfl ?_
      refine wv_iconst (pc' := 71) dX2_countFrom_70 ic_1 rfl ?_
      refine wv_iadd (pc' := 72) dX2_countFrom_71 rfl ?_
      refine wv_goto (pc' := 76) dX2_countFrom_72 (by decide) ?_
      refine wv_weak (L' := [some (.inr 21), some (.inl x1), some (.inl x2), none, some (.inl x4)]) ⟨rfl, rfl, rfl, rfl, trivial⟩ ?_
      exact t_X2_countFrom_b76 G d hd self rec k μ x1 x2 x4 (x3 + (1 : Int32)) hself hD hrec hk h
set_option maxRecDepth 100000 in
set_option maxHeartbeats 4000000 in
theorem t_X2_countFrom_l43 (G : wd_G) (d : Nat) (hd : 2 ≤ d) {out : wd_Mem} {D : Nat} (self : wd_Mem → Int32 → Option (wd_Mem)) (k : wd_Mem → Option (wd_Mem)) (x1 x2 : Int32) (hself : ∀ (ν : wd_Mem) (y0 : Int32) (o : wd_Mem), self ν y0 = some o → ∀ e, D ≤ e → wd_C G e yX2_countFrom [.inr 21, .inl y0] ν (fun r u => r = none ∧ u = o)) (hD : D + 1 ≤ d) (hk : ∀  (μ : wd_Mem), k μ = some out → wd_V G (d + 1) RX2 cX2_countFrom 5 none (fun r u => r = none ∧ u = out) 126 [some (.inr 21), none, none, none, none] [] μ) : ∀ (n : Nat) (x3 x4 : Int32) (μ : wd_Mem), X2_countFrom_l43 self k x1 x2 n x3 x4 μ = some out → wd_V G (d + 1) RX2 cX2_countFrom 5 none (fun r u => r = none ∧ u = out) 43 [some (.inr 21), some (.inl x1), some (.inl x2), some (.inl x3), some (.inl x4)] [] μ := by
  intro n
  induction n with
  | zero => intro x3 x4 μ h; exact absurd h (by unfold X2_countFrom_l43; simp)
  | succ n ih =>
    intro x3 x4 μ h
    exact t_X2_countFrom_c43 G d hd self (X2_countFrom_l43 self k x1 x2 n) k μ x1 x2 x3 x4 hself hD (fun x3 x4 μ h => ih x3 x4 μ h) hk h
set_option maxRecDepth 100000 in
set_option maxHeartbeats 4000000 in
theorem t_X2_countFrom_b126 (G : wd_G) (d : Nat) (hd : 2 ≤ d) {out : wd_Mem} {D : Nat} (self : wd_Mem → Int32 → Option (wd_Mem)) (μ : wd_Mem) (hself : ∀ (ν : wd_Mem) (y0 : Int32) (o : wd_Mem), self ν y0 = some o → ∀ e, D ≤ e → wd_C G e yX2_countFrom [.inr 21, .inl y0] ν (fun r u => r = none ∧ u = o)) (hD : D + 1 ≤ d) (h : X2_countFrom_b126 self μ = some out) : wd_V G (d + 1) RX2 cX2_countFrom 5 none (fun r u => r = none ∧ u = out) 126 [some (.inr 21), none, none, none, none] [] μ := by
  unfold X2_countFrom_b126 at h
  exact wv_return rfl dX2_countFrom_126 (wd_lv h)
set_option maxRecDepth 100000 in
set_option maxHeartbeats 4000000 in
theorem t_X2_countFrom_b0 (G : wd_G) (d : Nat) (hd : 2 ≤ d) {out : wd_Mem} {D : Nat} (self : wd_Mem → Int32 → Option (wd_Mem)) (μ : wd_Mem) (x1 : Int32) (hself : ∀ (ν : wd_Mem) (y0 : Int32) (o : wd_Mem), self ν y0 = some o → ∀ e, D ≤ e → wd_C G e yX2_countFrom [.inr 21, .inl y0] ν (fun r u => r = none ∧ u = o)) (hD : D + 1 ≤ d) (h : X2_countFrom_b0 self μ x1 = some out) : wd_V G (d + 1) RX2 cX2_countFrom 5 none (fun r u => r = none ∧ u = out) 0 [some (.inr 21), some (.inl x1), none, none, none] [] μ := by
  unfold X2_countFrom_b0 at h
  refine wv_iload_n (pc' := 1) (i := 1) (v := x1) dX2_countFrom_0 rfl rfl rfl ?_
  refine wv_aload_n (pc' := 2) (i := 0) (v := 21) dX2_countFrom_1 rfl rfl rfl ?_
  refine wv_gr (pc' := 5) g_X2_27_21 dX2_countFrom_2 rfl ?_
  refine wv_gi (pc' := 8) g_X2_31_3 dX2_countFrom_5 rfl ?_
  refine wv_icmp_lt (pc' := 11) (tgt := 22) dX2_countFrom_8 (by decide) rfl (fun c1 => ?_) (fun c1 => ?_)
  · have h := (if_pos c1).symm.trans h
    refine wv_aload_n (pc' := 23) (i := 0) (v := 21) dX2_countFrom_22 rfl rfl rfl ?_
    refine wv_gr (pc' := 26) g_X2_21_21 dX2_countFrom_23 rfl ?_
    refine wv_iload_n (pc' := 27) (i := 1) (v := x1) dX2_countFrom_26 rfl rfl rfl ?_
    obtain ⟨g2, h⟩ := wd_chk_some h
    refine wv_iald (pc' := 28) sa_25 (wd_in_vp g2) dX2_countFrom_27 rfl ?_
    refine wv_istore_n (pc' := 29) (i := 2) (L' := [some (.inr 21), some (.inl x1), some (.inl (μ 25 (Int32.toNatClampNeg x1))), none, none]) dX2_countFrom_28 rfl (by decide) rfl rfl ?_
    refine wv_iconst (pc' := 30) dX2_countFrom_29 ic_0 rfl ?_
    refine wv_istore_n (pc' := 31) (i := 3) (L' := [some (.inr 21), some (.inl x1), some (.inl (μ 25 (Int32.toNatClampNeg x1))), some (.inl (0 : Int32)), none]) dX2_countFrom_30 rfl (by decide) rfl rfl ?_
    refine wv_iconst (pc' := 32) dX2_countFrom_31 ic_0 rfl ?_
    refine wv_aload_n (pc' := 33) (i := 0) (v := 21) dX2_countFrom_32 rfl rfl rfl ?_
    refine wv_gr (pc' := 36) g_X2_9_21 dX2_countFrom_33 rfl ?_
    refine wv_iload_n (pc' := 37) (i := 2) (v := (μ 25 (Int32.toNatClampNeg x1))) dX2_countFrom_36 rfl rfl rfl ?_
    obtain ⟨g3, h⟩ := wd_chk_some h
    refine wv_iald (pc' := 38) sa_22 (wd_in_vp g3) dX2_countFrom_37 rfl ?_
    refine wv_max (pc' := 41) mm_X2_69 (Nat.le_of_ble_eq_true rfl) dX2_countFrom_38 rfl ?_
    refine wv_istore (pc' := 43) (L' := [some (.inr 21), some (.inl x1), some (.inl (μ 25 (Int32.toNatClampNeg x1))), some (.inl (0 : Int32)), some (.inl (if (0 : Int32) < (μ 22 (Int32.toNatClampNeg (μ 25 (Int32.toNatClampNeg x1)))) then (μ 22 (Int32.toNatClampNeg (μ 25 (Int32.toNatClampNeg x1)))) else (0 : Int32)))]) dX2_countFrom_41 (by decide) rfl rfl ?_
    exact t_X2_countFrom_l43 G d hd self (fun μ => X2_countFrom_b126 self μ) x1 (μ 25 (Int32.toNatClampNeg x1)) hself hD (fun μ h => t_X2_countFrom_b126 G d hd self μ hself hD h) wd_big (0 : Int32) (if (0 : Int32) < (μ 22 (Int32.toNatClampNeg (μ 25 (Int32.toNatClampNeg x1)))) then (μ 22 (Int32.toNatClampNeg (μ 25 (Int32.toNatClampNeg x1)))) else (0 : Int32)) μ h
  · have h := (if_neg c1).symm.trans h
    refine wv_aload_n (pc' := 12) (i := 0) (v := 21) dX2_countFrom_11 rfl rfl rfl ?_
    refine wv_dup (pc' := 13) dX2_countFrom_12 rfl ?_
    refine wv_gi (pc' := 16) g_X2_51_21 dX2_countFrom_13 rfl ?_
    refine wv_iconst (pc' := 17) dX2_countFrom_16 ic_1 rfl ?_
    refine wv_iadd (pc' := 18) dX2_countFrom_17 rfl ?_
    refine wv_pi (pc' := 21) p_X2_51_21 dX2_countFrom_18 rfl ?_
    exact wv_return rfl dX2_countFrom_21 (wd_lv h)
set_option maxRecDepth 100000 in
set_option maxHeartbeats 4000000 in
theorem cs_X2_countFrom (G : wd_G) (d : Nat) (hd : 3 ≤ d) {D : Nat} {self : wd_Mem → Int32 → Option (wd_Mem)} {μ : wd_Mem} {x1 : Int32} {out : wd_Mem} (hself : ∀ (ν : wd_Mem) (y0 : Int32) (o : wd_Mem), self ν y0 = some o → ∀ e, D ≤ e → wd_C G e yX2_countFrom [.inr 21, .inl y0] ν (fun r u => r = none ∧ u = o)) (hD : D + 1 + 1 ≤ d)  (h : X2_countFrom_b0 self μ x1 = some out) : wd_C G d yX2_countFrom [.inr 21, .inl x1] μ (fun r u => r = none ∧ u = out) := by
  obtain ⟨d, rfl⟩ : ∃ e, d = e + 1 := ⟨d - 1, by omega⟩
  refine wd_enter mc_X2_countFrom (by decide) (by decide +kernel) rfl (Nat.le_of_ble_eq_true rfl) (L0 := [some (.inr 21), some (.inl x1), none, none, none]) rfl ?_
  exact t_X2_countFrom_b0 G d (by omega) self μ x1 hself (by omega)  h
set_option maxRecDepth 100000 in
set_option maxHeartbeats 4000000 in
theorem c_X2_countFrom_all (G : wd_G) : ∀ (n d : Nat), 3 + 2 * n ≤ d → ∀ (μ : wd_Mem) (x1 : Int32) (out : wd_Mem), X2_countFrom n μ x1 = some out → wd_C G d yX2_countFrom [.inr 21, .inl x1] μ (fun r u => r = none ∧ u = out) := by
  intro n
  induction n with
  | zero => intro d hd μ x1 out h; exact absurd h (by unfold X2_countFrom; simp)
  | succ n ih =>
    intro d hd μ x1 out h
    exact cs_X2_countFrom G d (by omega) (D := 3 + 2 * n) (self := X2_countFrom n) (fun ν y0 o e e2 h2 => ih e2 h2 ν y0 o e) (by omega) h
set_option maxRecDepth 100000 in
set_option maxHeartbeats 4000000 in
theorem c_X2_countFrom (G : wd_G) (n d : Nat) (hd : 3 + 2 * n ≤ d) {μ : wd_Mem} {x1 : Int32} {out : wd_Mem} (h : X2_countFrom n μ x1 = some out) : wd_C G d yX2_countFrom [.inr 21, .inl x1] μ (fun r u => r = none ∧ u = out) := c_X2_countFrom_all G n d hd μ x1 out h
set_option maxRecDepth 100000 in
set_option maxHeartbeats 4000000 in
theorem t_X2_schedules_b26 (G : wd_G) (d : Nat) (hd : 19 ≤ d) {out : Int32 × wd_Mem} (h1 : Nat) (μ : wd_Mem) (w1 : wd_isW h1) (h : X2_schedules_b26 h1 μ = some out) : wd_V G (d + 1) RX2 cX2_schedules 2 (some .int) (fun r u => r = some (.inl out.1) ∧ u = out.2) 26 [some (.inr 21), some (.inr h1)] [] μ := by
  unfold X2_schedules_b26 at h
  refine wv_aload_n (pc' := 27) (i := 0) (v := 21) dX2_schedules_26 rfl rfl rfl ?_
  refine wv_gi (pc' := 30) g_X2_51_21 dX2_schedules_27 rfl ?_
  exact wv_ireturn rfl dX2_schedules_30 (wd_liv h)
set_option maxRecDepth 100000 in
set_option maxHeartbeats 4000000 in
theorem t_X2_schedules_b0 (G : wd_G) (d : Nat) (hd : 19 ≤ d) {out : Int32 × wd_Mem} (h1 : Nat) (μ : wd_Mem) (w1 : wd_isW h1) (h : X2_schedules_b0 h1 μ = some out) : wd_V G (d + 1) RX2 cX2_schedules 2 (some .int) (fun r u => r = some (.inl out.1) ∧ u = out.2) 0 [some (.inr 21), some (.inr h1)] [] μ := by
  unfold X2_schedules_b0 at h
  refine wv_aload_n (pc' := 1) (i := 0) (v := 21) dX2_schedules_0 rfl rfl rfl ?_
  refine wv_aload_n (pc' := 2) (i := 1) (v := h1) dX2_schedules_1 rfl rfl rfl ?_
  obtain ⟨r1, er1, h⟩ := wd_bind_some h
  refine wv_callVv (pc' := 5) (ν := r1) [.inr h1] ml_X2_47 rc_21 rfl (Nat.le_of_ble_eq_true rfl) dX2_schedules_2 rfl (c_X2_open G d (Nat.le_trans (Nat.le_of_ble_eq_true rfl) hd) w1 er1) ?_
  refine wv_aload_n (pc' := 6) (i := 0) (v := 21) dX2_schedules_5 rfl rfl rfl ?_
  refine wv_iconst (pc' := 7) dX2_schedules_6 ic_0 rfl ?_
  refine wv_pi (pc' := 10) p_X2_51_21 dX2_schedules_7 rfl ?_
  refine wv_aload_n (pc' := 11) (i := 0) (v := 21) dX2_schedules_10 rfl rfl rfl ?_
  obtain ⟨r2, er2, h⟩ := wd_bind_some h
  refine wv_callVi (pc' := 14) (x := r2.1) (ν := r2.2) [] ml_X2_54 rc_21 rfl (Nat.le_of_ble_eq_true rfl) dX2_schedules_11 rfl (c_X2_isAny G d (Nat.le_trans (Nat.le_of_ble_eq_true rfl) hd)  er2) ?_
  refine wv_if_eq (pc' := 17) (tgt := 26) dX2_schedules_14 (by decide) rfl (fun c3 => ?_) (fun c3 => ?_)
  · have h := (if_pos c3).symm.trans h
    exact t_X2_schedules_b26 G d hd h1 r2.2 w1 h
  · have h := (if_neg c3).symm.trans h
    refine wv_aload_n (pc' := 18) (i := 0) (v := 21) dX2_schedules_17 rfl rfl rfl ?_
    obtain ⟨r4, er4, h⟩ := wd_bind_some h
    refine wv_callVv (pc' := 21) (ν := r4) [] ml_X2_58 rc_21 rfl (Nat.le_of_ble_eq_true rfl) dX2_schedules_18 rfl (c_X2_putInOrder G d (Nat.le_trans (Nat.le_of_ble_eq_true rfl) hd)  er4) ?_
    refine wv_aload_n (pc' := 22) (i := 0) (v := 21) dX2_schedules_21 rfl rfl rfl ?_
    refine wv_iconst (pc' := 23) dX2_schedules_22 ic_0 rfl ?_
    obtain ⟨r5, er5, h⟩ := wd_bind_some h
    refine wv_callVv (pc' := 26) (ν := r5) [.inl (0 : Int32)] ml_X2_61 rc_21 rfl (Nat.le_of_ble_eq_true rfl) dX2_schedules_23 rfl (c_X2_countFrom G 8 d (by omega)  er5) ?_
    exact t_X2_schedules_b26 G d hd h1 r5 w1 h
set_option maxRecDepth 100000 in
set_option maxHeartbeats 4000000 in
theorem c_X2_schedules (G : wd_G) (d : Nat) (hd : 20 ≤ d) {h1 : Nat} {μ : wd_Mem} {out : Int32 × wd_Mem} (w1 : wd_isW h1) (h : X2_schedules h1 μ = some out) : wd_C G d yX2_schedules [.inr 21, .inr h1] μ (fun r u => r = some (.inl out.1) ∧ u = out.2) := by
  obtain ⟨d, rfl⟩ : ∃ e, d = e + 1 := ⟨d - 1, by omega⟩
  refine wd_enter mc_X2_schedules (by decide) (by decide +kernel) rfl (Nat.le_of_ble_eq_true rfl) (L0 := [some (.inr 21), some (.inr h1)]) rfl ?_
  exact t_X2_schedules_b0 G d (by omega) h1 μ  w1 h
set_option maxRecDepth 100000 in
set_option maxHeartbeats 4000000 in
theorem t_X2_shortest_c15 (G : wd_G) (d : Nat) (hd : 12 ≤ d) {out : Int32 × wd_Mem} (rec : Int32 → wd_Mem → Option (Int32 × wd_Mem)) (k : wd_Mem → Option (Int32 × wd_Mem)) (h1 : Nat) (μ : wd_Mem) (x2 x3 : Int32) (w1 : wd_isW h1) (hrec : ∀ (x3 : Int32) (μ : wd_Mem), rec x3 μ = some out → wd_V G (d + 1) RX2 cX2_shortest 4 (some .int) (fun r u => r = some (.inl out.1) ∧ u = out.2) 15 [some (.inr 21), some (.inr h1), some (.inl x2), some (.inl x3)] [] μ) (hk : ∀  (μ : wd_Mem), k μ = some out → wd_V G (d + 1) RX2 cX2_shortest 4 (some .int) (fun r u => r = some (.inl out.1) ∧ u = out.2) 48 [some (.inr 21), some (.inr h1), some (.inl x2), none] [] μ) (h : X2_shortest_c15 rec k h1 μ x2 x3 = some out) : wd_V G (d + 1) RX2 cX2_shortest 4 (some .int) (fun r u => r = some (.inl out.1) ∧ u = out.2) 15 [some (.inr 21), some (.inr h1), some (.inl x2), some (.inl x3)] [] μ := by
  unfold X2_shortest_c15 at h
  refine wv_iload_n (pc' := 16) (i := 3) (v := x3) dX2_shortest_15 rfl rfl rfl ?_
  refine wv_aload_n (pc' := 17) (i := 0) (v := 21) dX2_shortest_16 rfl rfl rfl ?_
  refine wv_gr (pc' := 20) g_X2_27_21 dX2_shortest_17 rfl ?_
  refine wv_gi (pc' := 23) g_X2_31_3 dX2_shortest_20 rfl ?_
  refine wv_icmp_ge (pc' := 26) (tgt := 48) dX2_shortest_23 (by decide) rfl (fun c3 => ?_) (fun c3 => ?_)
  · have h := (if_pos c3).symm.trans h
    refine wv_weak (L' := [some (.inr 21), some (.inr h1), some (.inl x2), none]) ⟨rfl, rfl, rfl, trivial⟩ ?_
    exact hk _ h
  · have h := (if_neg c3).symm.trans h
    refine wv_aload_n (pc' := 27) (i := 0) (v := 21) dX2_shortest_26 rfl rfl rfl ?_
    refine wv_gr (pc' := 30) g_X2_15_21 dX2_shortest_27 rfl ?_
    refine wv_iload_n (pc' := 31) (i := 3) (v := x3) dX2_shortest_30 rfl rfl rfl ?_
    refine wv_aload_n (pc' := 32) (i := 0) (v := 21) dX2_shortest_31 rfl rfl rfl ?_
    refine wv_gr (pc' := 35) g_X2_15_21 dX2_shortest_32 rfl ?_
    refine wv_iload_n (pc' := 36) (i := 3) (v := x3) dX2_shortest_35 rfl rfl rfl ?_
    obtain ⟨g4, h⟩ := wd_chk_some h
    refine wv_iald (pc' := 37) sa_23 (wd_in_vp g4) dX2_shortest_36 rfl ?_
    refine wv_iload_n (pc' := 38) (i := 2) (v := x2) dX2_shortest_37 rfl rfl rfl ?_
    refine wv_min (pc' := 41) mm_X2_74 (Nat.le_of_ble_eq_true rfl) dX2_shortest_38 rfl ?_
    refine wv_iast (pc' := 42) sa_23 (wd_in_vp g4) dX2_shortest_41 rfl ?_
    refine wv_inc (pc' := 45) (x := x3) (L' := [some (.inr 21), some (.inr h1), some (.inl x2), some (.inl (x3 + (1 : Int32)))]) dX2_shortest_42 ic_1 rfl (by decide) rfl rfl ?_
    refine wv_goto (pc' := 15) dX2_shortest_45 (by decide) ?_
    exact hrec _ _ h
set_option maxRecDepth 100000 in
set_option maxHeartbeats 4000000 in
theorem t_X2_shortest_l15 (G : wd_G) (d : Nat) (hd : 12 ≤ d) {out : Int32 × wd_Mem} (k : wd_Mem → Option (Int32 × wd_Mem)) (h1 : Nat) (x2 : Int32) (w1 : wd_isW h1) (hk : ∀  (μ : wd_Mem), k μ = some out → wd_V G (d + 1) RX2 cX2_shortest 4 (some .int) (fun r u => r = some (.inl out.1) ∧ u = out.2) 48 [some (.inr 21), some (.inr h1), some (.inl x2), none] [] μ) : ∀ (n : Nat) (x3 : Int32) (μ : wd_Mem), X2_shortest_l15 k h1 x2 n x3 μ = some out → wd_V G (d + 1) RX2 cX2_shortest 4 (some .int) (fun r u => r = some (.inl out.1) ∧ u = out.2) 15 [some (.inr 21), some (.inr h1), some (.inl x2), some (.inl x3)] [] μ := by
  intro n
  induction n with
  | zero => intro x3 μ h; exact absurd h (by unfold X2_shortest_l15; simp)
  | succ n ih =>
    intro x3 μ h
    exact t_X2_shortest_c15 G d hd (X2_shortest_l15 k h1 x2 n) k h1 μ x2 x3 w1 (fun x3 μ h => ih x3 μ h) hk h
set_option maxRecDepth 100000 in
set_option maxHeartbeats 4000000 in
theorem t_X2_shortest_b48 (G : wd_G) (d : Nat) (hd : 12 ≤ d) {out : Int32 × wd_Mem} (rec : Int32 → wd_Mem → Option (Int32 × wd_Mem)) (k : wd_Mem → Option (Int32 × wd_Mem)) (h1 : Nat) (μ : wd_Mem) (x2 : Int32) (w1 : wd_isW h1) (hrec : ∀ (x2 : Int32) (μ : wd_Mem), rec x2 μ = some out → wd_V G (d + 1) RX2 cX2_shortest 4 (some .int) (fun r u => r = some (.inl out.1) ∧ u = out.2) 2 [some (.inr 21), some (.inr h1), some (.inl x2), none] [] μ) (hk : ∀  (μ : wd_Mem), k μ = some out → wd_V G (d + 1) RX2 cX2_shortest 4 (some .int) (fun r u => r = some (.inl out.1) ∧ u = out.2) 63 [some (.inr 21), some (.inr h1), none, none] [] μ) (h : X2_shortest_b48 rec k h1 μ x2 = some out) : wd_V G (d + 1) RX2 cX2_shortest 4 (some .int) (fun r u => r = some (.inl out.1) ∧ u = out.2) 48 [some (.inr 21), some (.inr h1), some (.inl x2), none] [] μ := by
  unfold X2_shortest_b48 at h
  refine wv_aload_n (pc' := 49) (i := 0) (v := 21) dX2_shortest_48 rfl rfl rfl ?_
  obtain ⟨r5, er5, h⟩ := wd_bind_some h
  refine wv_callVi (pc' := 52) (x := r5.1) (ν := r5.2) [] ml_X2_54 rc_21 rfl (Nat.le_of_ble_eq_true rfl) dX2_shortest_49 rfl (c_X2_isAny G d (Nat.le_trans (Nat.le_of_ble_eq_true rfl) hd)  er5) ?_
  refine wv_if_eq (pc' := 55) (tgt := 57) dX2_shortest_52 (by decide) rfl (fun c6 => ?_) (fun c6 => ?_)
  · have h := (if_pos c6).symm.trans h
    refine wv_inc (pc' := 60) (x := x2) (L' := [some (.inr 21), some (.inr h1), some (.inl (x2 + (1 : Int32))), none]) dX2_shortest_57 ic_1 rfl (by decide) rfl rfl ?_
    refine wv_goto (pc' := 2) dX2_shortest_60 (by decide) ?_
    exact hrec _ _ h
  · have h := (if_neg c6).symm.trans h
    refine wv_iload_n (pc' := 56) (i := 2) (v := x2) dX2_shortest_55 rfl rfl rfl ?_
    exact wv_ireturn rfl dX2_shortest_56 (wd_liv h)
set_option maxRecDepth 100000 in
set_option maxHeartbeats 4000000 in
theorem t_X2_shortest_c2 (G : wd_G) (d : Nat) (hd : 12 ≤ d) {out : Int32 × wd_Mem} (rec : Int32 → wd_Mem → Option (Int32 × wd_Mem)) (k : wd_Mem → Option (Int32 × wd_Mem)) (h1 : Nat) (μ : wd_Mem) (x2 : Int32) (w1 : wd_isW h1) (hrec : ∀ (x2 : Int32) (μ : wd_Mem), rec x2 μ = some out → wd_V G (d + 1) RX2 cX2_shortest 4 (some .int) (fun r u => r = some (.inl out.1) ∧ u = out.2) 2 [some (.inr 21), some (.inr h1), some (.inl x2), none] [] μ) (hk : ∀  (μ : wd_Mem), k μ = some out → wd_V G (d + 1) RX2 cX2_shortest 4 (some .int) (fun r u => r = some (.inl out.1) ∧ u = out.2) 63 [some (.inr 21), some (.inr h1), none, none] [] μ) (h : X2_shortest_c2 rec k h1 μ x2 = some out) : wd_V G (d + 1) RX2 cX2_shortest 4 (some .int) (fun r u => r = some (.inl out.1) ∧ u = out.2) 2 [some (.inr 21), some (.inr h1), some (.inl x2), none] [] μ := by
  unfold X2_shortest_c2 at h
  refine wv_iload_n (pc' := 3) (i := 2) (v := x2) dX2_shortest_2 rfl rfl rfl ?_
  refine wv_bipush (pc' := 5) dX2_shortest_3 bp_16 rfl ?_
  refine wv_icmp_gt (pc' := 8) (tgt := 63) dX2_shortest_5 (by decide) rfl (fun c1 => ?_) (fun c1 => ?_)
  · have h := (if_pos c1).symm.trans h
    refine wv_weak (L' := [some (.inr 21), some (.inr h1), none, none]) ⟨rfl, rfl, trivial⟩ ?_
    exact hk _ h
  · have h := (if_neg c1).symm.trans h
    refine wv_aload_n (pc' := 9) (i := 0) (v := 21) dX2_shortest_8 rfl rfl rfl ?_
    refine wv_aload_n (pc' := 10) (i := 1) (v := h1) dX2_shortest_9 rfl rfl rfl ?_
    obtain ⟨r2, er2, h⟩ := wd_bind_some h
    refine wv_callVv (pc' := 13) (ν := r2) [.inr h1] ml_X2_47 rc_21 rfl (Nat.le_of_ble_eq_true rfl) dX2_shortest_10 rfl (c_X2_open G d (Nat.le_trans (Nat.le_of_ble_eq_true rfl) hd) w1 er2) ?_
    refine wv_iconst (pc' := 14) dX2_shortest_13 ic_0 rfl ?_
    refine wv_istore_n (pc' := 15) (i := 3) (L' := [some (.inr 21), some (.inr h1), some (.inl x2), some (.inl (0 : Int32))]) dX2_shortest_14 rfl (by decide) rfl rfl ?_
    exact t_X2_shortest_l15 G d hd (fun μ => X2_shortest_b48 rec k h1 μ x2) h1 x2 w1 (fun μ h => t_X2_shortest_b48 G d hd rec k h1 μ x2 w1 hrec hk h) wd_big (0 : Int32) r2 h
set_option maxRecDepth 100000 in
set_option maxHeartbeats 4000000 in
theorem t_X2_shortest_l2 (G : wd_G) (d : Nat) (hd : 12 ≤ d) {out : Int32 × wd_Mem} (k : wd_Mem → Option (Int32 × wd_Mem)) (h1 : Nat) (w1 : wd_isW h1) (hk : ∀  (μ : wd_Mem), k μ = some out → wd_V G (d + 1) RX2 cX2_shortest 4 (some .int) (fun r u => r = some (.inl out.1) ∧ u = out.2) 63 [some (.inr 21), some (.inr h1), none, none] [] μ) : ∀ (n : Nat) (x2 : Int32) (μ : wd_Mem), X2_shortest_l2 k h1 n x2 μ = some out → wd_V G (d + 1) RX2 cX2_shortest 4 (some .int) (fun r u => r = some (.inl out.1) ∧ u = out.2) 2 [some (.inr 21), some (.inr h1), some (.inl x2), none] [] μ := by
  intro n
  induction n with
  | zero => intro x2 μ h; exact absurd h (by unfold X2_shortest_l2; simp)
  | succ n ih =>
    intro x2 μ h
    exact t_X2_shortest_c2 G d hd (X2_shortest_l2 k h1 n) k h1 μ x2 w1 (fun x2 μ h => ih x2 μ h) hk h
set_option maxRecDepth 100000 in
set_option maxHeartbeats 4000000 in
theorem t_X2_shortest_b63 (G : wd_G) (d : Nat) (hd : 12 ≤ d) {out : Int32 × wd_Mem} (h1 : Nat) (μ : wd_Mem) (w1 : wd_isW h1) (h : X2_shortest_b63 h1 μ = some out) : wd_V G (d + 1) RX2 cX2_shortest 4 (some .int) (fun r u => r = some (.inl out.1) ∧ u = out.2) 63 [some (.inr 21), some (.inr h1), none, none] [] μ := by
  unfold X2_shortest_b63 at h
  refine wv_bipush (pc' := 65) dX2_shortest_63 bp_m9 rfl ?_
  exact wv_ireturn rfl dX2_shortest_65 (wd_liv h)
set_option maxRecDepth 100000 in
set_option maxHeartbeats 4000000 in
theorem t_X2_shortest_b0 (G : wd_G) (d : Nat) (hd : 12 ≤ d) {out : Int32 × wd_Mem} (h1 : Nat) (μ : wd_Mem) (w1 : wd_isW h1) (h : X2_shortest_b0 h1 μ = some out) : wd_V G (d + 1) RX2 cX2_shortest 4 (some .int) (fun r u => r = some (.inl out.1) ∧ u = out.2) 0 [some (.inr 21), some (.inr h1), none, none] [] μ := by
  unfold X2_shortest_b0 at h
  refine wv_iconst (pc' := 1) dX2_shortest_0 ic_0 rfl ?_
  refine wv_istore_n (pc' := 2) (i := 2) (L' := [some (.inr 21), some (.inr h1), some (.inl (0 : Int32)), none]) dX2_shortest_1 rfl (by decide) rfl rfl ?_
  exact t_X2_shortest_l2 G d hd (fun μ => X2_shortest_b63 h1 μ) h1 w1 (fun μ h => t_X2_shortest_b63 G d hd h1 μ w1 h) wd_big (0 : Int32) μ h
set_option maxRecDepth 100000 in
set_option maxHeartbeats 4000000 in
theorem c_X2_shortest (G : wd_G) (d : Nat) (hd : 13 ≤ d) {h1 : Nat} {μ : wd_Mem} {out : Int32 × wd_Mem} (w1 : wd_isW h1) (h : X2_shortest h1 μ = some out) : wd_C G d yX2_shortest [.inr 21, .inr h1] μ (fun r u => r = some (.inl out.1) ∧ u = out.2) := by
  obtain ⟨d, rfl⟩ : ∃ e, d = e + 1 := ⟨d - 1, by omega⟩
  refine wd_enter mc_X2_shortest (by decide) (by decide +kernel) rfl (Nat.le_of_ble_eq_true rfl) (L0 := [some (.inr 21), some (.inr h1), none, none]) rfl ?_
  exact t_X2_shortest_b0 G d (by omega) h1 μ  w1 h
set_option maxRecDepth 100000 in
set_option maxHeartbeats 4000000 in
theorem t_X3_heaviest_b53 (G : wd_G) (d : Nat) (hd : 2 ≤ d) {out : Int32} (rec : Int32 → Int32 → Int32 → Option (Int32)) (k : Int32 → Int32 → Option (Int32)) (μ : wd_Mem) (x1 x2 x3 x4 : Int32) (hrec : ∀ (x1 x2 x4 : Int32), rec x1 x2 x4 = some out → wd_V G (d + 1) RX3 cX3_heaviest 6 (some .int) (fun r u => r = some (.inl out) ∧ u = μ) 18 [some (.inr 9), some (.inl x1), some (.inl x2), some (.inl x3), some (.inl x4), none] [] μ) (hk : ∀ (x1 x2 : Int32), k x1 x2 = some out → wd_V G (d + 1) RX3 cX3_heaviest 6 (some .int) (fun r u => r = some (.inl out) ∧ u = μ) 59 [some (.inr 9), some (.inl x1), some (.inl x2), some (.inl x3), none, none] [] μ) (h : X3_heaviest_b53 rec k μ x1 x2 x3 x4 = some out) : wd_V G (d + 1) RX3 cX3_heaviest 6 (some .int) (fun r u => r = some (.inl out) ∧ u = μ) 53 [some (.inr 9), some (.inl x1), some (.inl x2), some (.inl x3), some (.inl x4), none] [] μ := by
  unfold X3_heaviest_b53 at h
  refine wv_inc (pc' := 56) (x := x4) (L' := [some (.inr 9), some (.inl x1), some (.inl x2), some (.inl x3), some (.inl (x4 + (1 : Int32))), none]) dX3_heaviest_53 ic_1 rfl (by decide) rfl rfl ?_
  refine wv_goto (pc' := 18) dX3_heaviest_56 (by decide) ?_
  exact hrec _ _ _ h
set_option maxRecDepth 100000 in
set_option maxHeartbeats 4000000 in
theorem t_X3_heaviest_c18 (G : wd_G) (d : Nat) (hd : 2 ≤ d) {out : Int32} (rec : Int32 → Int32 → Int32 → Option (Int32)) (k : Int32 → Int32 → Option (Int32)) (μ : wd_Mem) (x1 x2 x3 x4 : Int32) (hrec : ∀ (x1 x2 x4 : Int32), rec x1 x2 x4 = some out → wd_V G (d + 1) RX3 cX3_heaviest 6 (some .int) (fun r u => r = some (.inl out) ∧ u = μ) 18 [some (.inr 9), some (.inl x1), some (.inl x2), some (.inl x3), some (.inl x4), none] [] μ) (hk : ∀ (x1 x2 : Int32), k x1 x2 = some out → wd_V G (d + 1) RX3 cX3_heaviest 6 (some .int) (fun r u => r = some (.inl out) ∧ u = μ) 59 [some (.inr 9), some (.inl x1), some (.inl x2), some (.inl x3), none, none] [] μ) (h : X3_heaviest_c18 rec k μ x1 x2 x3 x4 = some out) : wd_V G (d + 1) RX3 cX3_heaviest 6 (some .int) (fun r u => r = some (.inl out) ∧ u = μ) 18 [some (.inr 9), some (.inl x1), some (.inl x2), some (.inl x3), some (.inl x4), none] [] μ := by
  unfold X3_heaviest_c18 at h
  refine wv_iload (pc' := 20) (v := x4) dX3_heaviest_18 rfl rfl ?_
  refine wv_bipush (pc' := 22) dX3_heaviest_20 bp_16 rfl ?_
  refine wv_icmp_gt (pc' := 25) (tgt := 59) dX3_heaviest_22 (by decide) rfl (fun c2 => ?_) (fun c2 => ?_)
  · have h := (if_pos c2).symm.trans h
    refine wv_weak (L' := [some (.inr 9), some (.inl x1), some (.inl x2), some (.inl x3), none, none]) ⟨rfl, rfl, rfl, rfl, trivial⟩ ?_
    exact hk _ _ h
  · have h := (if_neg c2).symm.trans h
    refine wv_aload_n (pc' := 26) (i := 0) (v := 9) dX3_heaviest_25 rfl rfl rfl ?_
    refine wv_bipush (pc' := 28) dX3_heaviest_26 bp_m9 rfl ?_
    refine wv_iload_n (pc' := 29) (i := 3) (v := x3) dX3_heaviest_28 rfl rfl rfl ?_
    refine wv_iload (pc' := 31) (v := x4) dX3_heaviest_29 rfl rfl ?_
    obtain ⟨r3, er3, h⟩ := wd_bind_some h
    refine wv_callVi (pc' := 34) (x := r3) (ν := μ) [.inl (-9 : Int32), .inl x3, .inl x4] ml_X3_81 rc_9 rfl (Nat.le_of_ble_eq_true rfl) dX3_heaviest_31 rfl (c_X3_free G d (Nat.le_trans (Nat.le_of_ble_eq_true rfl) hd)  er3) ?_
    refine wv_istore (pc' := 36) (L' := [some (.inr 9), some (.inl x1), some (.inl x2), some (.inl x3), some (.inl x4), some (.inl r3)]) dX3_heaviest_34 (by decide) rfl rfl ?_
    refine wv_iload (pc' := 38) (v := r3) dX3_heaviest_36 rfl rfl ?_
    refine wv_iload_n (pc' := 39) (i := 2) (v := x2) dX3_heaviest_38 rfl rfl rfl ?_
    refine wv_icmp_ge (pc' := 42) (tgt := 53) dX3_heaviest_39 (by decide) rfl (fun c4 => ?_) (fun c4 => ?_)
    · have h := (if_pos c4).symm.trans h
      refine wv_weak (L' := [some (.inr 9), some (.inl x1), some (.inl x2), some (.inl x3), some (.inl x4), none]) ⟨rfl, rfl, rfl, rfl, rfl, trivial⟩ ?_
      exact t_X3_heaviest_b53 G d hd rec k μ x1 x2 x3 x4 hrec hk h
    · have h := (if_neg c4).symm.trans h
      refine wv_iload (pc' := 44) (v := r3) dX3_heaviest_42 rfl rfl ?_
      refine wv_istore_n (pc' := 45) (i := 2) (L' := [some (.inr 9), some (.inl x1), some (.inl r3), some (.inl x3), some (.inl x4), some (.inl r3)]) dX3_heaviest_44 rfl (by decide) rfl rfl ?_
      refine wv_bipush (pc' := 47) dX3_heaviest_45 bp_100 rfl ?_
      refine wv_iload_n (pc' := 48) (i := 3) (v := x3) dX3_heaviest_47 rfl rfl rfl ?_
      refine wv_imul (pc' := 49) dX3_heaviest_48 rfl ?_
      refine wv_iload (pc' := 51) (v := x4) dX3_heaviest_49 rfl rfl ?_
      refine wv_iadd (pc' := 52) dX3_heaviest_51 rfl ?_
      refine wv_istore_n (pc' := 53) (i := 1) (L' := [some (.inr 9), some (.inl (((100 : Int32) * x3) + x4)), some (.inl r3), some (.inl x3), some (.inl x4), some (.inl r3)]) dX3_heaviest_52 rfl (by decide) rfl rfl ?_
      refine wv_weak (L' := [some (.inr 9), some (.inl (((100 : Int32) * x3) + x4)), some (.inl r3), some (.inl x3), some (.inl x4), none]) ⟨rfl, rfl, rfl, rfl, rfl, trivial⟩ ?_
      exact t_X3_heaviest_b53 G d hd rec k μ (((100 : Int32) * x3) + x4) r3 x3 x4 hrec hk h
set_option maxRecDepth 100000 in
set_option maxHeartbeats 4000000 in
theorem t_X3_heaviest_l18 (G : wd_G) (d : Nat) (hd : 2 ≤ d) {out : Int32} (k : Int32 → Int32 → Option (Int32)) (μ : wd_Mem) (x3 : Int32) (hk : ∀ (x1 x2 : Int32), k x1 x2 = some out → wd_V G (d + 1) RX3 cX3_heaviest 6 (some .int) (fun r u => r = some (.inl out) ∧ u = μ) 59 [some (.inr 9), some (.inl x1), some (.inl x2), some (.inl x3), none, none] [] μ) : ∀ (n : Nat) (x1 x2 x4 : Int32), X3_heaviest_l18 k μ x3 n x1 x2 x4 = some out → wd_V G (d + 1) RX3 cX3_heaviest 6 (some .int) (fun r u => r = some (.inl out) ∧ u = μ) 18 [some (.inr 9), some (.inl x1), some (.inl x2), some (.inl x3), some (.inl x4), none] [] μ := by
  intro n
  induction n with
  | zero => intro x1 x2 x4 h; exact absurd h (by unfold X3_heaviest_l18; simp)
  | succ n ih =>
    intro x1 x2 x4 h
    exact t_X3_heaviest_c18 G d hd (X3_heaviest_l18 k μ x3 n) k μ x1 x2 x3 x4  (fun x1 x2 x4 h => ih x1 x2 x4 h) hk h
set_option maxRecDepth 100000 in
set_option maxHeartbeats 4000000 in
theorem t_X3_heaviest_b59 (G : wd_G) (d : Nat) (hd : 2 ≤ d) {out : Int32} (rec : Int32 → Int32 → Int32 → Option (Int32)) (k : Int32 → Option (Int32)) (μ : wd_Mem) (x1 x2 x3 : Int32) (hrec : ∀ (x1 x2 x3 : Int32), rec x1 x2 x3 = some out → wd_V G (d + 1) RX3 cX3_heaviest 6 (some .int) (fun r u => r = some (.inl out) ∧ u = μ) 7 [some (.inr 9), some (.inl x1), some (.inl x2), some (.inl x3), none, none] [] μ) (hk : ∀ (x1 : Int32), k x1 = some out → wd_V G (d + 1) RX3 cX3_heaviest 6 (some .int) (fun r u => r = some (.inl out) ∧ u = μ) 65 [some (.inr 9), some (.inl x1), none, none, none, none] [] μ) (h : X3_heaviest_b59 rec k μ x1 x2 x3 = some out) : wd_V G (d + 1) RX3 cX3_heaviest 6 (some .int) (fun r u => r = some (.inl out) ∧ u = μ) 59 [some (.inr 9), some (.inl x1), some (.inl x2), some (.inl x3), none, none] [] μ := by
  unfold X3_heaviest_b59 at h
  refine wv_inc (pc' := 62) (x := x3) (L' := [some (.inr 9), some (.inl x1), some (.inl x2), some (.inl (x3 + (1 : Int32))), none, none]) dX3_heaviest_59 ic_1 rfl (by decide) rfl rfl ?_
  refine wv_goto (pc' := 7) dX3_heaviest_62 (by decide) ?_
  exact hrec _ _ _ h
set_option maxRecDepth 100000 in
set_option maxHeartbeats 4000000 in
theorem t_X3_heaviest_c7 (G : wd_G) (d : Nat) (hd : 2 ≤ d) {out : Int32} (rec : Int32 → Int32 → Int32 → Option (Int32)) (k : Int32 → Option (Int32)) (μ : wd_Mem) (x1 x2 x3 : Int32) (hrec : ∀ (x1 x2 x3 : Int32), rec x1 x2 x3 = some out → wd_V G (d + 1) RX3 cX3_heaviest 6 (some .int) (fun r u => r = some (.inl out) ∧ u = μ) 7 [some (.inr 9), some (.inl x1), some (.inl x2), some (.inl x3), none, none] [] μ) (hk : ∀ (x1 : Int32), k x1 = some out → wd_V G (d + 1) RX3 cX3_heaviest 6 (some .int) (fun r u => r = some (.inl out) ∧ u = μ) 65 [some (.inr 9), some (.inl x1), none, none, none, none] [] μ) (h : X3_heaviest_c7 rec k μ x1 x2 x3 = some out) : wd_V G (d + 1) RX3 cX3_heaviest 6 (some .int) (fun r u => r = some (.inl out) ∧ u = μ) 7 [some (.inr 9), some (.inl x1), some (.inl x2), some (.inl x3), none, none] [] μ := by
  unfold X3_heaviest_c7 at h
  refine wv_iload_n (pc' := 8) (i := 3) (v := x3) dX3_heaviest_7 rfl rfl rfl ?_
  refine wv_bipush (pc' := 10) dX3_heaviest_8 bp_16 rfl ?_
  refine wv_icmp_ge (pc' := 13) (tgt := 65) dX3_heaviest_10 (by decide) rfl (fun c1 => ?_) (fun c1 => ?_)
  · have h := (if_pos c1).symm.trans h
    refine wv_weak (L' := [some (.inr 9), some (.inl x1), none, none, none, none]) ⟨rfl, rfl, trivial⟩ ?_
    exact hk _ h
  · have h := (if_neg c1).symm.trans h
    refine wv_iload_n (pc' := 14) (i := 3) (v := x3) dX3_heaviest_13 rfl rfl rfl ?_
    refine wv_iconst (pc' := 15) dX3_heaviest_14 ic_1 rfl ?_
    refine wv_iadd (pc' := 16) dX3_heaviest_15 rfl ?_
    refine wv_istore (pc' := 18) (L' := [some (.inr 9), some (.inl x1), some (.inl x2), some (.inl x3), some (.inl (x3 + (1 : Int32))), none]) dX3_heaviest_16 (by decide) rfl rfl ?_
    exact t_X3_heaviest_l18 G d hd (fun x1 x2 => X3_heaviest_b59 rec k μ x1 x2 x3) μ x3  (fun x1 x2 h => t_X3_heaviest_b59 G d hd rec k μ x1 x2 x3 hrec hk h) wd_big x1 x2 (x3 + (1 : Int32)) h
set_option maxRecDepth 100000 in
set_option maxHeartbeats 4000000 in
theorem t_X3_heaviest_l7 (G : wd_G) (d : Nat) (hd : 2 ≤ d) {out : Int32} (k : Int32 → Option (Int32)) (μ : wd_Mem) (hk : ∀ (x1 : Int32), k x1 = some out → wd_V G (d + 1) RX3 cX3_heaviest 6 (some .int) (fun r u => r = some (.inl out) ∧ u = μ) 65 [some (.inr 9), some (.inl x1), none, none, none, none] [] μ) : ∀ (n : Nat) (x1 x2 x3 : Int32), X3_heaviest_l7 k μ n x1 x2 x3 = some out → wd_V G (d + 1) RX3 cX3_heaviest 6 (some .int) (fun r u => r = some (.inl out) ∧ u = μ) 7 [some (.inr 9), some (.inl x1), some (.inl x2), some (.inl x3), none, none] [] μ := by
  intro n
  induction n with
  | zero => intro x1 x2 x3 h; exact absurd h (by unfold X3_heaviest_l7; simp)
  | succ n ih =>
    intro x1 x2 x3 h
    exact t_X3_heaviest_c7 G d hd (X3_heaviest_l7 k μ n) k μ x1 x2 x3  (fun x1 x2 x3 h => ih x1 x2 x3 h) hk h
set_option maxRecDepth 100000 in
set_option maxHeartbeats 4000000 in
theorem t_X3_heaviest_b65 (G : wd_G) (d : Nat) (hd : 2 ≤ d) {out : Int32} (μ : wd_Mem) (x1 : Int32)  (h : X3_heaviest_b65 μ x1 = some out) : wd_V G (d + 1) RX3 cX3_heaviest 6 (some .int) (fun r u => r = some (.inl out) ∧ u = μ) 65 [some (.inr 9), some (.inl x1), none, none, none, none] [] μ := by
  unfold X3_heaviest_b65 at h
  refine wv_iload_n (pc' := 66) (i := 1) (v := x1) dX3_heaviest_65 rfl rfl rfl ?_
  exact wv_ireturn rfl dX3_heaviest_66 (wd_li h)
set_option maxRecDepth 100000 in
set_option maxHeartbeats 4000000 in
theorem t_X3_heaviest_b0 (G : wd_G) (d : Nat) (hd : 2 ≤ d) {out : Int32} (μ : wd_Mem)  (h : X3_heaviest_b0 μ = some out) : wd_V G (d + 1) RX3 cX3_heaviest 6 (some .int) (fun r u => r = some (.inl out) ∧ u = μ) 0 [some (.inr 9), none, none, none, none, none] [] μ := by
  unfold X3_heaviest_b0 at h
  refine wv_bipush (pc' := 2) dX3_heaviest_0 bp_m9 rfl ?_
  refine wv_istore_n (pc' := 3) (i := 1) (L' := [some (.inr 9), some (.inl (-9 : Int32)), none, none, none, none]) dX3_heaviest_2 rfl (by decide) rfl rfl ?_
  refine wv_iconst (pc' := 4) dX3_heaviest_3 ic_0 rfl ?_
  refine wv_istore_n (pc' := 5) (i := 2) (L' := [some (.inr 9), some (.inl (-9 : Int32)), some (.inl (0 : Int32)), none, none, none]) dX3_heaviest_4 rfl (by decide) rfl rfl ?_
  refine wv_iconst (pc' := 6) dX3_heaviest_5 ic_0 rfl ?_
  refine wv_istore_n (pc' := 7) (i := 3) (L' := [some (.inr 9), some (.inl (-9 : Int32)), some (.inl (0 : Int32)), some (.inl (0 : Int32)), none, none]) dX3_heaviest_6 rfl (by decide) rfl rfl ?_
  exact t_X3_heaviest_l7 G d hd (fun x1 => X3_heaviest_b65 μ x1) μ  (fun x1 h => t_X3_heaviest_b65 G d hd μ x1  h) wd_big (-9 : Int32) (0 : Int32) (0 : Int32) h
set_option maxRecDepth 100000 in
set_option maxHeartbeats 4000000 in
theorem c_X3_heaviest (G : wd_G) (d : Nat) (hd : 3 ≤ d) {μ : wd_Mem} {out : Int32}  (h : X3_heaviest μ = some out) : wd_C G d yX3_heaviest [.inr 9] μ (fun r u => r = some (.inl out) ∧ u = μ) := by
  obtain ⟨d, rfl⟩ : ∃ e, d = e + 1 := ⟨d - 1, by omega⟩
  refine wd_enter mc_X3_heaviest (by decide) (by decide +kernel) rfl (Nat.le_of_ble_eq_true rfl) (L0 := [some (.inr 9), none, none, none, none, none]) rfl ?_
  exact t_X3_heaviest_b0 G d (by omega) μ  h
set_option maxRecDepth 100000 in
set_option maxHeartbeats 4000000 in
theorem t_X4_energyOfAll_c4 (G : wd_G) (d : Nat) (hd : 1 ≤ d) {out : Int32} (rec : Int32 → Int32 → Option (Int32)) (k : Int32 → Option (Int32)) (h0 : Nat) (μ : wd_Mem) (x1 x2 : Int32) (w0 : wd_isT h0) (hrec : ∀ (x1 x2 : Int32), rec x1 x2 = some out → wd_V G (d + 1) RX4 cX4_energyOfAll 3 (some .int) (fun r u => r = some (.inl out) ∧ u = μ) 4 [some (.inr h0), some (.inl x1), some (.inl x2)] [] μ) (hk : ∀ (x1 : Int32), k x1 = some out → wd_V G (d + 1) RX4 cX4_energyOfAll 3 (some .int) (fun r u => r = some (.inl out) ∧ u = μ) 26 [some (.inr h0), some (.inl x1), none] [] μ) (h : X4_energyOfAll_c4 rec k h0 μ x1 x2 = some out) : wd_V G (d + 1) RX4 cX4_energyOfAll 3 (some .int) (fun r u => r = some (.inl out) ∧ u = μ) 4 [some (.inr h0), some (.inl x1), some (.inl x2)] [] μ := by
  unfold X4_energyOfAll_c4 at h
  refine wv_iload_n (pc' := 5) (i := 2) (v := x2) dX4_energyOfAll_4 rfl rfl rfl ?_
  refine wv_aload_n (pc' := 6) (i := 0) (v := h0) dX4_energyOfAll_5 rfl rfl rfl ?_
  refine wv_gi (pc' := 9) (g_X4_22_T w0) dX4_energyOfAll_6 rfl ?_
  refine wv_icmp_ge (pc' := 12) (tgt := 26) dX4_energyOfAll_9 (by decide) rfl (fun c1 => ?_) (fun c1 => ?_)
  · have h := (if_pos c1).symm.trans h
    refine wv_weak (L' := [some (.inr h0), some (.inl x1), none]) ⟨rfl, rfl, trivial⟩ ?_
    exact hk _ h
  · have h := (if_neg c1).symm.trans h
    refine wv_iload_n (pc' := 13) (i := 1) (v := x1) dX4_energyOfAll_12 rfl rfl rfl ?_
    refine wv_aload_n (pc' := 14) (i := 0) (v := h0) dX4_energyOfAll_13 rfl rfl rfl ?_
    refine wv_iload_n (pc' := 15) (i := 2) (v := x2) dX4_energyOfAll_14 rfl rfl rfl ?_
    obtain ⟨r2, er2, h⟩ := wd_bind_some h
    refine wv_callVi (pc' := 18) (x := r2) (ν := μ) [.inl x2] ml_X4_25 (wd_rcT w0) rfl (Nat.le_of_ble_eq_true rfl) dX4_energyOfAll_15 rfl (c_X4_energy G d (Nat.le_trans (Nat.le_of_ble_eq_true rfl) hd) w0 er2) ?_
    refine wv_iadd (pc' := 19) dX4_energyOfAll_18 rfl ?_
    refine wv_istore_n (pc' := 20) (i := 1) (L' := [some (.inr h0), some (.inl (x1 + r2)), some (.inl x2)]) dX4_energyOfAll_19 rfl (by decide) rfl rfl ?_
    refine wv_inc (pc' := 23) (x := x2) (L' := [some (.inr h0), some (.inl (x1 + r2)), some (.inl (x2 + (1 : Int32)))]) dX4_energyOfAll_20 ic_1 rfl (by decide) rfl rfl ?_
    refine wv_goto (pc' := 4) dX4_energyOfAll_23 (by decide) ?_
    exact hrec _ _ h
set_option maxRecDepth 100000 in
set_option maxHeartbeats 4000000 in
theorem t_X4_energyOfAll_l4 (G : wd_G) (d : Nat) (hd : 1 ≤ d) {out : Int32} (k : Int32 → Option (Int32)) (h0 : Nat) (μ : wd_Mem) (w0 : wd_isT h0) (hk : ∀ (x1 : Int32), k x1 = some out → wd_V G (d + 1) RX4 cX4_energyOfAll 3 (some .int) (fun r u => r = some (.inl out) ∧ u = μ) 26 [some (.inr h0), some (.inl x1), none] [] μ) : ∀ (n : Nat) (x1 x2 : Int32), X4_energyOfAll_l4 k h0 μ n x1 x2 = some out → wd_V G (d + 1) RX4 cX4_energyOfAll 3 (some .int) (fun r u => r = some (.inl out) ∧ u = μ) 4 [some (.inr h0), some (.inl x1), some (.inl x2)] [] μ := by
  intro n
  induction n with
  | zero => intro x1 x2 h; exact absurd h (by unfold X4_energyOfAll_l4; simp)
  | succ n ih =>
    intro x1 x2 h
    exact t_X4_energyOfAll_c4 G d hd (X4_energyOfAll_l4 k h0 μ n) k h0 μ x1 x2 w0 (fun x1 x2 h => ih x1 x2 h) hk h
set_option maxRecDepth 100000 in
set_option maxHeartbeats 4000000 in
theorem t_X4_energyOfAll_b26 (G : wd_G) (d : Nat) (hd : 1 ≤ d) {out : Int32} (h0 : Nat) (μ : wd_Mem) (x1 : Int32) (w0 : wd_isT h0) (h : X4_energyOfAll_b26 h0 μ x1 = some out) : wd_V G (d + 1) RX4 cX4_energyOfAll 3 (some .int) (fun r u => r = some (.inl out) ∧ u = μ) 26 [some (.inr h0), some (.inl x1), none] [] μ := by
  unfold X4_energyOfAll_b26 at h
  refine wv_iload_n (pc' := 27) (i := 1) (v := x1) dX4_energyOfAll_26 rfl rfl rfl ?_
  exact wv_ireturn rfl dX4_energyOfAll_27 (wd_li h)
set_option maxRecDepth 100000 in
set_option maxHeartbeats 4000000 in
theorem t_X4_energyOfAll_b0 (G : wd_G) (d : Nat) (hd : 1 ≤ d) {out : Int32} (h0 : Nat) (μ : wd_Mem) (w0 : wd_isT h0) (h : X4_energyOfAll_b0 h0 μ = some out) : wd_V G (d + 1) RX4 cX4_energyOfAll 3 (some .int) (fun r u => r = some (.inl out) ∧ u = μ) 0 [some (.inr h0), none, none] [] μ := by
  unfold X4_energyOfAll_b0 at h
  refine wv_iconst (pc' := 1) dX4_energyOfAll_0 ic_0 rfl ?_
  refine wv_istore_n (pc' := 2) (i := 1) (L' := [some (.inr h0), some (.inl (0 : Int32)), none]) dX4_energyOfAll_1 rfl (by decide) rfl rfl ?_
  refine wv_iconst (pc' := 3) dX4_energyOfAll_2 ic_0 rfl ?_
  refine wv_istore_n (pc' := 4) (i := 2) (L' := [some (.inr h0), some (.inl (0 : Int32)), some (.inl (0 : Int32))]) dX4_energyOfAll_3 rfl (by decide) rfl rfl ?_
  exact t_X4_energyOfAll_l4 G d hd (fun x1 => X4_energyOfAll_b26 h0 μ x1) h0 μ w0 (fun x1 h => t_X4_energyOfAll_b26 G d hd h0 μ x1 w0 h) wd_big (0 : Int32) (0 : Int32) h
set_option maxRecDepth 100000 in
set_option maxHeartbeats 4000000 in
theorem c_X4_energyOfAll (G : wd_G) (d : Nat) (hd : 2 ≤ d) {h0 : Nat} {μ : wd_Mem} {out : Int32} (w0 : wd_isT h0) (h : X4_energyOfAll h0 μ = some out) : wd_C G d yX4_energyOfAll [.inr h0] μ (fun r u => r = some (.inl out) ∧ u = μ) := by
  obtain ⟨d, rfl⟩ : ∃ e, d = e + 1 := ⟨d - 1, by omega⟩
  refine wd_enter mc_X4_energyOfAll (by decide) (by decide +kernel) rfl (Nat.le_of_ble_eq_true rfl) (L0 := [some (.inr h0), none, none]) rfl ?_
  exact t_X4_energyOfAll_b0 G d (by omega) h0 μ  w0 h
set_option maxRecDepth 100000 in
set_option maxHeartbeats 4000000 in
theorem t_X7_count_b0 (G : wd_G) (d : Nat) (hd : 20 ≤ d) {out : Int32 × wd_Mem} (μ : wd_Mem) (x1 : Int32)  (h : X7_count_b0 μ x1 = some out) : wd_V G (d + 1) RX7 cX7_count 2 (some .int) (fun r u => r = some (.inl out.1) ∧ u = out.2) 0 [some (.inr 0), some (.inl x1)] [] μ := by
  unfold X7_count_b0 at h
  refine wv_iload_n (pc' := 1) (i := 1) (v := x1) dX7_count_0 rfl rfl rfl ?_
  by_cases n1_0 : x1 = nI 0
  · have h := (if_pos n1_0).symm.trans h
    refine wv_case (i := 0) (tgt := 52) dX7_count_1 n1_0 (by decide) (by decide) rfl (by decide) ?_
    refine wv_aload_n (pc' := 53) (i := 0) (v := 0) dX7_count_52 rfl rfl rfl ?_
    refine wv_gr (pc' := 56) g_X7_19_0 dX7_count_53 rfl ?_
    refine wv_gi (pc' := 59) g_X7_151_3 dX7_count_56 rfl ?_
    exact wv_ireturn rfl dX7_count_59 (wd_liv h)
  · have h := (if_neg n1_0).symm.trans h
    by_cases n1_1 : x1 = nI 1
    · have h := (if_pos n1_1).symm.trans h
      refine wv_case (i := 1) (tgt := 60) dX7_count_1 n1_1 (by decide) (by decide) rfl (by decide) ?_
      refine wv_aload_n (pc' := 61) (i := 0) (v := 0) dX7_count_60 rfl rfl rfl ?_
      refine wv_gr (pc' := 64) g_X7_19_0 dX7_count_61 rfl ?_
      refine wv_gi (pc' := 67) g_X7_187_3 dX7_count_64 rfl ?_
      exact wv_ireturn rfl dX7_count_67 (wd_liv h)
    · have h := (if_neg n1_1).symm.trans h
      by_cases n1_2 : x1 = nI 2
      · have h := (if_pos n1_2).symm.trans h
        refine wv_case (i := 2) (tgt := 68) dX7_count_1 n1_2 (by decide) (by decide) rfl (by decide) ?_
        refine wv_aload_n (pc' := 69) (i := 0) (v := 0) dX7_count_68 rfl rfl rfl ?_
        refine wv_gr (pc' := 72) g_X7_29_0 dX7_count_69 rfl ?_
        refine wv_aload_n (pc' := 73) (i := 0) (v := 0) dX7_count_72 rfl rfl rfl ?_
        refine wv_gr (pc' := 76) g_X7_19_0 dX7_count_73 rfl ?_
        obtain ⟨r1, er1, h⟩ := wd_bind_some h
        refine wv_callVi (pc' := 79) (x := r1) (ν := μ) [.inr 3] ml_X7_134 (wd_rcW sh_48) rfl (Nat.le_of_ble_eq_true rfl) dX7_count_76 rfl (c_X6_isBroken G d (Nat.le_trans (Nat.le_of_ble_eq_true rfl) hd) sh_48 (Or.inl rfl) er1) ?_
        refine wv_if_eq (pc' := 82) (tgt := 86) dX7_count_79 (by decide) rfl (fun c2 => ?_) (fun c2 => ?_)
        · have h := (if_pos c2).symm.trans h
          refine wv_iconst (pc' := 87) dX7_count_86 ic_0 rfl ?_
          exact wv_ireturn rfl dX7_count_87 (wd_liv h)
        · have h := (if_neg c2).symm.trans h
          refine wv_iconst (pc' := 83) dX7_count_82 ic_1 rfl ?_
          refine wv_goto (pc' := 87) dX7_count_83 (by decide) ?_
          exact wv_ireturn rfl dX7_count_87 (wd_liv h)
      · have h := (if_neg n1_2).symm.trans h
        by_cases n1_3 : x1 = nI 3
        · have h := (if_pos n1_3).symm.trans h
          refine wv_case (i := 3) (tgt := 88) dX7_count_1 n1_3 (by decide) (by decide) rfl (by decide) ?_
          refine wv_aload_n (pc' := 89) (i := 0) (v := 0) dX7_count_88 rfl rfl rfl ?_
          refine wv_gr (pc' := 92) g_X7_72_0 dX7_count_89 rfl ?_
          refine wv_aload_n (pc' := 93) (i := 0) (v := 0) dX7_count_92 rfl rfl rfl ?_
          refine wv_gr (pc' := 96) g_X7_29_0 dX7_count_93 rfl ?_
          obtain ⟨r3, er3, h⟩ := wd_bind_some h
          refine wv_callVi (pc' := 99) (x := r3.1) (ν := r3.2) [.inr 48] ml_X7_190 rc_21 rfl (Nat.le_of_ble_eq_true rfl) dX7_count_96 rfl (c_X2_schedules G d (Nat.le_trans (Nat.le_of_ble_eq_true rfl) hd) sh_48 er3) ?_
          exact wv_ireturn rfl dX7_count_99 (wd_liv h)
        · have h := (if_neg n1_3).symm.trans h
          by_cases n1_4 : x1 = nI 4
          · have h := (if_pos n1_4).symm.trans h
            refine wv_case (i := 4) (tgt := 100) dX7_count_1 n1_4 (by decide) (by decide) rfl (by decide) ?_
            refine wv_aload_n (pc' := 101) (i := 0) (v := 0) dX7_count_100 rfl rfl rfl ?_
            refine wv_gr (pc' := 104) g_X7_72_0 dX7_count_101 rfl ?_
            refine wv_aload_n (pc' := 105) (i := 0) (v := 0) dX7_count_104 rfl rfl rfl ?_
            refine wv_gr (pc' := 108) g_X7_29_0 dX7_count_105 rfl ?_
            obtain ⟨r4, er4, h⟩ := wd_bind_some h
            refine wv_callVi (pc' := 111) (x := r4.1) (ν := r4.2) [.inr 48] ml_X7_194 rc_21 rfl (Nat.le_of_ble_eq_true rfl) dX7_count_108 rfl (c_X2_shortest G d (Nat.le_trans (Nat.le_of_ble_eq_true rfl) hd) sh_48 er4) ?_
            exact wv_ireturn rfl dX7_count_111 (wd_liv h)
          · have h := (if_neg n1_4).symm.trans h
            by_cases n1_5 : x1 = nI 5
            · have h := (if_pos n1_5).symm.trans h
              refine wv_case (i := 5) (tgt := 112) dX7_count_1 n1_5 (by decide) (by decide) rfl (by decide) ?_
              refine wv_aload_n (pc' := 113) (i := 0) (v := 0) dX7_count_112 rfl rfl rfl ?_
              refine wv_gr (pc' := 116) g_X7_56_0 dX7_count_113 rfl ?_
              refine wv_aload_n (pc' := 117) (i := 0) (v := 0) dX7_count_116 rfl rfl rfl ?_
              refine wv_gr (pc' := 120) g_X7_29_0 dX7_count_117 rfl ?_
              refine wv_iconst (pc' := 121) dX7_count_120 ic_0 rfl ?_
              obtain ⟨r5, er5, h⟩ := wd_bind_some h
              refine wv_callVv (pc' := 124) (ν := r5) [.inr 48, .inl (0 : Int32)] ml_X7_127 rc_9 rfl (Nat.le_of_ble_eq_true rfl) dX7_count_121 rfl (c_X3_look G d (Nat.le_trans (Nat.le_of_ble_eq_true rfl) hd) sh_48 er5) ?_
              refine wv_aload_n (pc' := 125) (i := 0) (v := 0) dX7_count_124 rfl rfl rfl ?_
              refine wv_gr (pc' := 128) g_X7_56_0 dX7_count_125 rfl ?_
              obtain ⟨r6, er6, h⟩ := wd_bind_some h
              refine wv_callVi (pc' := 131) (x := r6) (ν := r5) [] ml_X7_197 rc_9 rfl (Nat.le_of_ble_eq_true rfl) dX7_count_128 rfl (c_X3_heaviest G d (Nat.le_trans (Nat.le_of_ble_eq_true rfl) hd)  er6) ?_
              exact wv_ireturn rfl dX7_count_131 (wd_liv h)
            · have h := (if_neg n1_5).symm.trans h
              by_cases n1_6 : x1 = nI 6
              · have h := (if_pos n1_6).symm.trans h
                refine wv_case (i := 6) (tgt := 132) dX7_count_1 n1_6 (by decide) (by decide) rfl (by decide) ?_
                refine wv_aload_n (pc' := 133) (i := 0) (v := 0) dX7_count_132 rfl rfl rfl ?_
                refine wv_gr (pc' := 136) g_X7_19_0 dX7_count_133 rfl ?_
                obtain ⟨r7, er7, h⟩ := wd_bind_some h
                refine wv_callVi (pc' := 139) (x := r7) (ν := μ) [] ml_X7_201 rc_3 rfl (Nat.le_of_ble_eq_true rfl) dX7_count_136 rfl (c_X4_energyOfAll G d (Nat.le_trans (Nat.le_of_ble_eq_true rfl) hd) (Or.inl rfl) er7) ?_
                exact wv_ireturn rfl dX7_count_139 (wd_liv h)
              · have h := (if_neg n1_6).symm.trans h
                by_cases n1_7 : x1 = nI 7
                · have h := (if_pos n1_7).symm.trans h
                  refine wv_case (i := 7) (tgt := 140) dX7_count_1 n1_7 (by decide) (by decide) rfl (by decide) ?_
                  refine wv_aload_n (pc' := 141) (i := 0) (v := 0) dX7_count_140 rfl rfl rfl ?_
                  refine wv_gr (pc' := 144) g_X7_12_0 dX7_count_141 rfl ?_
                  refine wv_gi (pc' := 147) g_X7_80_1 dX7_count_144 rfl ?_
                  exact wv_ireturn rfl dX7_count_147 (wd_liv h)
                · have h := (if_neg n1_7).symm.trans h
                  by_cases n1_8 : x1 = nI 8
                  · have h := (if_pos n1_8).symm.trans h
                    refine wv_case (i := 8) (tgt := 148) dX7_count_1 n1_8 (by decide) (by decide) rfl (by decide) ?_
                    refine wv_aload_n (pc' := 149) (i := 0) (v := 0) dX7_count_148 rfl rfl rfl ?_
                    refine wv_gr (pc' := 152) g_X7_47_0 dX7_count_149 rfl ?_
                    refine wv_gi (pc' := 155) g_X7_94_27 dX7_count_152 rfl ?_
                    exact wv_ireturn rfl dX7_count_155 (wd_liv h)
                  · have h := (if_neg n1_8).symm.trans h
                    refine wv_dflt (N := 9) (tgt := 156) dX7_count_1 (by decide) (fun i hi => by
                      rcases (show i = 0 ∨ i = 1 ∨ i = 2 ∨ i = 3 ∨ i = 4 ∨ i = 5 ∨ i = 6 ∨ i = 7 ∨ i = 8 by omega) with rfl|rfl|rfl|rfl|rfl|rfl|rfl|rfl|rfl
                      · exact n1_0
                      · exact n1_1
                      · exact n1_2
                      · exact n1_3
                      · exact n1_4
                      · exact n1_5
                      · exact n1_6
                      · exact n1_7
                      · exact n1_8) (by decide) ?_
                    refine wv_iconst (pc' := 157) dX7_count_156 ic_m1 rfl ?_
                    exact wv_ireturn rfl dX7_count_157 (wd_liv h)
set_option maxRecDepth 100000 in
set_option maxHeartbeats 4000000 in
theorem c_X7_count (G : wd_G) (d : Nat) (hd : 21 ≤ d) {μ : wd_Mem} {x1 : Int32} {out : Int32 × wd_Mem}  (h : X7_count μ x1 = some out) : wd_C G d yX7_count [.inr 0, .inl x1] μ (fun r u => r = some (.inl out.1) ∧ u = out.2) := by
  obtain ⟨d, rfl⟩ : ∃ e, d = e + 1 := ⟨d - 1, by omega⟩
  refine wd_enter mc_X7_count (by decide) (by decide +kernel) rfl (Nat.le_of_ble_eq_true rfl) (L0 := [some (.inr 0), some (.inl x1)]) rfl ?_
  exact t_X7_count_b0 G d (by omega) μ x1 h
set_option maxRecDepth 100000 in
set_option maxHeartbeats 4000000 in
theorem t_X8_in_b14 (G : wd_G) (d : Nat) (hd : 0 ≤ d) {out : Int32} (μ : wd_Mem)  (h : X8_in_b14 μ = out) : wd_V G (d + 1) RX8 cX8_in 3 (some .boolean) (fun r u => r = some (.inl out) ∧ u = μ) 14 [none, none, none] [] μ := by
  unfold X8_in_b14 at h
  refine wv_iconst (pc' := 15) dX8_in_14 ic_0 rfl ?_
  exact wv_zreturn rfl rfl dX8_in_15 (wd_lt h)
set_option maxRecDepth 100000 in
set_option maxHeartbeats 4000000 in
theorem t_X8_in_b0 (G : wd_G) (d : Nat) (hd : 0 ≤ d) {out : Int32} (μ : wd_Mem) (x0 x1 x2 : Int32)  (h : X8_in_b0 μ x0 x1 x2 = out) : wd_V G (d + 1) RX8 cX8_in 3 (some .boolean) (fun r u => r = some (.inl out) ∧ u = μ) 0 [some (.inl x0), some (.inl x1), some (.inl x2)] [] μ := by
  unfold X8_in_b0 at h
  refine wv_iload_n (pc' := 1) (i := 0) (v := x0) dX8_in_0 rfl rfl rfl ?_
  refine wv_iload_n (pc' := 2) (i := 1) (v := x1) dX8_in_1 rfl rfl rfl ?_
  refine wv_icmp_lt (pc' := 5) (tgt := 14) dX8_in_2 (by decide) rfl (fun c1 => ?_) (fun c1 => ?_)
  · have h := (if_pos c1).symm.trans h
    refine wv_weak (L' := [none, none, none]) trivial ?_
    exact t_X8_in_b14 G d hd μ  h
  · have h := (if_neg c1).symm.trans h
    refine wv_iload_n (pc' := 6) (i := 0) (v := x0) dX8_in_5 rfl rfl rfl ?_
    refine wv_iload_n (pc' := 7) (i := 2) (v := x2) dX8_in_6 rfl rfl rfl ?_
    refine wv_icmp_gt (pc' := 10) (tgt := 14) dX8_in_7 (by decide) rfl (fun c2 => ?_) (fun c2 => ?_)
    · have h := (if_pos c2).symm.trans h
      refine wv_weak (L' := [none, none, none]) trivial ?_
      exact t_X8_in_b14 G d hd μ  h
    · have h := (if_neg c2).symm.trans h
      refine wv_iconst (pc' := 11) dX8_in_10 ic_1 rfl ?_
      refine wv_goto (pc' := 15) dX8_in_11 (by decide) ?_
      exact wv_zreturn rfl rfl dX8_in_15 (wd_lt h)
set_option maxRecDepth 100000 in
set_option maxHeartbeats 4000000 in
theorem c_X8_in (G : wd_G) (d : Nat) (hd : 1 ≤ d) {μ : wd_Mem} {x0 x1 x2 : Int32} {out : Int32}  (h : X8_in μ x0 x1 x2 = out) : wd_C G d yX8_in [.inl x0, .inl x1, .inl x2] μ (fun r u => r = some (.inl out) ∧ u = μ) := by
  obtain ⟨d, rfl⟩ : ∃ e, d = e + 1 := ⟨d - 1, by omega⟩
  refine wd_enter mc_X8_in (by decide) (by decide +kernel) rfl (Nat.le_of_ble_eq_true rfl) (L0 := [some (.inl x0), some (.inl x1), some (.inl x2)]) rfl ?_
  exact t_X8_in_b0 G d (by omega) μ x0 x1 x2 h
set_option maxRecDepth 100000 in
set_option maxHeartbeats 4000000 in
theorem t_X8_type_b0 (G : wd_G) (d : Nat) (hd : 1 ≤ d) {out : Int32 × wd_Mem} (μ : wd_Mem) (x1 : Int32)  (h : X8_type_b0 μ x1 = some out) : wd_V G (d + 1) RX8 cX8_type 2 (some .int) (fun r u => r = some (.inl out.1) ∧ u = out.2) 0 [some (.inr 31), some (.inl x1)] [] μ := by
  unfold X8_type_b0 at h
  refine wv_iload_n (pc' := 1) (i := 1) (v := x1) dX8_type_0 rfl rfl rfl ?_
  refine wv_iconst (pc' := 2) dX8_type_1 ic_0 rfl ?_
  refine wv_sipush (pc' := 5) dX8_type_2 sp_255 rfl ?_
  refine wv_callSi (pc' := 8) (x := (X8_in μ x1 (0 : Int32) (255 : Int32))) (ν := μ) [.inl x1, .inl (0 : Int32), .inl (255 : Int32)] ml_X8_63 rfl (Nat.le_of_ble_eq_true rfl) dX8_type_5 rfl (c_X8_in G d (Nat.le_trans (Nat.le_of_ble_eq_true rfl) hd)  rfl) ?_
  refine wv_if_ne (pc' := 11) (tgt := 13) dX8_type_8 (by decide) rfl (fun c1 => ?_) (fun c1 => ?_)
  · have h := (if_neg c1).symm.trans h
    refine wv_aload_n (pc' := 14) (i := 0) (v := 31) dX8_type_13 rfl rfl rfl ?_
    refine wv_gi (pc' := 17) g_X8_67_31 dX8_type_14 rfl ?_
    refine wv_bipush (pc' := 19) dX8_type_17 bp_100 rfl ?_
    refine wv_icmp_ne (pc' := 22) (tgt := 25) dX8_type_19 (by decide) rfl (fun c2 => ?_) (fun c2 => ?_)
    · have h := (if_neg c2).symm.trans h
      refine wv_aload_n (pc' := 26) (i := 0) (v := 31) dX8_type_25 rfl rfl rfl ?_
      refine wv_gr (pc' := 29) g_X8_29_31 dX8_type_26 rfl ?_
      refine wv_aload_n (pc' := 30) (i := 0) (v := 31) dX8_type_29 rfl rfl rfl ?_
      refine wv_gi (pc' := 33) g_X8_67_31 dX8_type_30 rfl ?_
      refine wv_iload_n (pc' := 34) (i := 1) (v := x1) dX8_type_33 rfl rfl rfl ?_
      obtain ⟨g3, h⟩ := wd_chk_some h
      refine wv_iast (pc' := 35) sa_38 (wd_in_vp g3) dX8_type_34 rfl ?_
      refine wv_aload_n (pc' := 36) (i := 0) (v := 31) dX8_type_35 rfl rfl rfl ?_
      refine wv_dup (pc' := 37) dX8_type_36 rfl ?_
      refine wv_giE (pc' := 40) (v := (μ 31 10)) g_X8_67_31 dX8_type_37 rfl rfl ?_
      refine wv_iconst (pc' := 41) dX8_type_40 ic_1 rfl ?_
      refine wv_iadd (pc' := 42) dX8_type_41 rfl ?_
      refine wv_pi (pc' := 45) p_X8_67_31 dX8_type_42 rfl ?_
      refine wv_aload_n (pc' := 46) (i := 0) (v := 31) dX8_type_45 rfl rfl rfl ?_
      refine wv_giE (pc' := 49) (v := ((μ 31 10) + (1 : Int32))) g_X8_67_31 dX8_type_46 rfl rfl ?_
      exact wv_ireturn rfl dX8_type_49 (wd_liv h)
    · have h := (if_pos c2).symm.trans h
      refine wv_bipush (pc' := 24) dX8_type_22 bp_m3 rfl ?_
      exact wv_ireturn rfl dX8_type_24 (wd_liv h)
  · have h := (if_pos c1).symm.trans h
    refine wv_iconst (pc' := 12) dX8_type_11 ic_m1 rfl ?_
    exact wv_ireturn rfl dX8_type_12 (wd_liv h)
set_option maxRecDepth 100000 in
set_option maxHeartbeats 4000000 in
theorem c_X8_type (G : wd_G) (d : Nat) (hd : 2 ≤ d) {μ : wd_Mem} {x1 : Int32} {out : Int32 × wd_Mem}  (h : X8_type μ x1 = some out) : wd_C G d yX8_type [.inr 31, .inl x1] μ (fun r u => r = some (.inl out.1) ∧ u = out.2) := by
  obtain ⟨d, rfl⟩ : ∃ e, d = e + 1 := ⟨d - 1, by omega⟩
  refine wd_enter mc_X8_type (by decide) (by decide +kernel) rfl (Nat.le_of_ble_eq_true rfl) (L0 := [some (.inr 31), some (.inl x1)]) rfl ?_
  exact t_X8_type_b0 G d (by omega) μ x1 h
set_option maxRecDepth 100000 in
set_option maxHeartbeats 4000000 in
theorem t_X8_clear_b0 (G : wd_G) (d : Nat) (hd : 0 ≤ d) {out : Int32 × wd_Mem} (μ : wd_Mem)  (h : X8_clear_b0 μ = some out) : wd_V G (d + 1) RX8 cX8_clear 2 (some .int) (fun r u => r = some (.inl out.1) ∧ u = out.2) 0 [some (.inr 31), none] [] μ := by
  unfold X8_clear_b0 at h
  refine wv_aload_n (pc' := 1) (i := 0) (v := 31) dX8_clear_0 rfl rfl rfl ?_
  refine wv_gi (pc' := 4) g_X8_67_31 dX8_clear_1 rfl ?_
  refine wv_istore_n (pc' := 5) (i := 1) (L' := [some (.inr 31), some (.inl (μ 31 10))]) dX8_clear_4 rfl (by decide) rfl rfl ?_
  refine wv_aload_n (pc' := 6) (i := 0) (v := 31) dX8_clear_5 rfl rfl rfl ?_
  refine wv_iconst (pc' := 7) dX8_clear_6 ic_0 rfl ?_
  refine wv_pi (pc' := 10) p_X8_67_31 dX8_clear_7 rfl ?_
  refine wv_iload_n (pc' := 11) (i := 1) (v := (μ 31 10)) dX8_clear_10 rfl rfl rfl ?_
  exact wv_ireturn rfl dX8_clear_11 (wd_liv h)
set_option maxRecDepth 100000 in
set_option maxHeartbeats 4000000 in
theorem c_X8_clear (G : wd_G) (d : Nat) (hd : 1 ≤ d) {μ : wd_Mem} {out : Int32 × wd_Mem}  (h : X8_clear μ = some out) : wd_C G d yX8_clear [.inr 31] μ (fun r u => r = some (.inl out.1) ∧ u = out.2) := by
  obtain ⟨d, rfl⟩ : ∃ e, d = e + 1 := ⟨d - 1, by omega⟩
  refine wd_enter mc_X8_clear (by decide) (by decide +kernel) rfl (Nat.le_of_ble_eq_true rfl) (L0 := [some (.inr 31), none]) rfl ?_
  exact t_X8_clear_b0 G d (by omega) μ  h
set_option maxRecDepth 100000 in
set_option maxHeartbeats 4000000 in
theorem t_X8_blanks_c0 (G : wd_G) (d : Nat) (hd : 0 ≤ d) {out : wd_Mem} (rec : wd_Mem → Option (wd_Mem)) (k : wd_Mem → Option (wd_Mem)) (μ : wd_Mem) (hrec : ∀  (μ : wd_Mem), rec μ = some out → wd_V G (d + 1) RX8 cX8_blanks 1 none (fun r u => r = none ∧ u = out) 0 [some (.inr 31)] [] μ) (hk : ∀  (μ : wd_Mem), k μ = some out → wd_V G (d + 1) RX8 cX8_blanks 1 none (fun r u => r = none ∧ u = out) 38 [some (.inr 31)] [] μ) (h : X8_blanks_c0 rec k μ = some out) : wd_V G (d + 1) RX8 cX8_blanks 1 none (fun r u => r = none ∧ u = out) 0 [some (.inr 31)] [] μ := by
  unfold X8_blanks_c0 at h
  refine wv_aload_n (pc' := 1) (i := 0) (v := 31) dX8_blanks_0 rfl rfl rfl ?_
  refine wv_gi (pc' := 4) g_X8_70_31 dX8_blanks_1 rfl ?_
  refine wv_aload_n (pc' := 5) (i := 0) (v := 31) dX8_blanks_4 rfl rfl rfl ?_
  refine wv_gi (pc' := 8) g_X8_67_31 dX8_blanks_5 rfl ?_
  refine wv_icmp_ge (pc' := 11) (tgt := 38) dX8_blanks_8 (by decide) rfl (fun c1 => ?_) (fun c1 => ?_)
  · have h := (if_pos c1).symm.trans h
    exact hk _ h
  · have h := (if_neg c1).symm.trans h
    refine wv_aload_n (pc' := 12) (i := 0) (v := 31) dX8_blanks_11 rfl rfl rfl ?_
    refine wv_gr (pc' := 15) g_X8_29_31 dX8_blanks_12 rfl ?_
    refine wv_aload_n (pc' := 16) (i := 0) (v := 31) dX8_blanks_15 rfl rfl rfl ?_
    refine wv_gi (pc' := 19) g_X8_70_31 dX8_blanks_16 rfl ?_
    obtain ⟨g2, h⟩ := wd_chk_some h
    refine wv_iald (pc' := 20) sa_38 (wd_in_vp g2) dX8_blanks_19 rfl ?_
    refine wv_bipush (pc' := 22) dX8_blanks_20 bp_32 rfl ?_
    refine wv_icmp_ne (pc' := 25) (tgt := 38) dX8_blanks_22 (by decide) rfl (fun c3 => ?_) (fun c3 => ?_)
    · have h := (if_neg c3).symm.trans h
      exact hk _ h
    · have h := (if_pos c3).symm.trans h
      refine wv_aload_n (pc' := 26) (i := 0) (v := 31) dX8_blanks_25 rfl rfl rfl ?_
      refine wv_dup (pc' := 27) dX8_blanks_26 rfl ?_
      refine wv_gi (pc' := 30) g_X8_70_31 dX8_blanks_27 rfl ?_
      refine wv_iconst (pc' := 31) dX8_blanks_30 ic_1 rfl ?_
      refine wv_iadd (pc' := 32) dX8_blanks_31 rfl ?_
      refine wv_pi (pc' := 35) p_X8_70_31 dX8_blanks_32 rfl ?_
      refine wv_goto (pc' := 0) dX8_blanks_35 (by decide) ?_
      exact hrec _ h
set_option maxRecDepth 100000 in
set_option maxHeartbeats 4000000 in
theorem t_X8_blanks_l0 (G : wd_G) (d : Nat) (hd : 0 ≤ d) {out : wd_Mem} (k : wd_Mem → Option (wd_Mem)) (hk : ∀  (μ : wd_Mem), k μ = some out → wd_V G (d + 1) RX8 cX8_blanks 1 none (fun r u => r = none ∧ u = out) 38 [some (.inr 31)] [] μ) : ∀ (n : Nat)  (μ : wd_Mem), X8_blanks_l0 k n μ = some out → wd_V G (d + 1) RX8 cX8_blanks 1 none (fun r u => r = none ∧ u = out) 0 [some (.inr 31)] [] μ := by
  intro n
  induction n with
  | zero => intro μ h; exact absurd h (by unfold X8_blanks_l0; simp)
  | succ n ih =>
    intro μ h
    exact t_X8_blanks_c0 G d hd (X8_blanks_l0 k n) k μ  (fun μ h => ih μ h) hk h
set_option maxRecDepth 100000 in
set_option maxHeartbeats 4000000 in
theorem t_X8_blanks_b38 (G : wd_G) (d : Nat) (hd : 0 ≤ d) {out : wd_Mem} (μ : wd_Mem)  (h : X8_blanks_b38 μ = some out) : wd_V G (d + 1) RX8 cX8_blanks 1 none (fun r u => r = none ∧ u = out) 38 [some (.inr 31)] [] μ := by
  unfold X8_blanks_b38 at h
  exact wv_return rfl dX8_blanks_38 (wd_lv h)
set_option maxRecDepth 100000 in
set_option maxHeartbeats 4000000 in
theorem t_X8_blanks_b0 (G : wd_G) (d : Nat) (hd : 0 ≤ d) {out : wd_Mem} (μ : wd_Mem)  (h : X8_blanks_b0 μ = some out) : wd_V G (d + 1) RX8 cX8_blanks 1 none (fun r u => r = none ∧ u = out) 0 [some (.inr 31)] [] μ := by
  unfold X8_blanks_b0 at h
  exact t_X8_blanks_l0 G d hd (fun μ => X8_blanks_b38 μ)  (fun μ h => t_X8_blanks_b38 G d hd μ  h) wd_big μ h
set_option maxRecDepth 100000 in
set_option maxHeartbeats 4000000 in
theorem c_X8_blanks (G : wd_G) (d : Nat) (hd : 1 ≤ d) {μ : wd_Mem} {out : wd_Mem}  (h : X8_blanks μ = some out) : wd_C G d yX8_blanks [.inr 31] μ (fun r u => r = none ∧ u = out) := by
  obtain ⟨d, rfl⟩ : ∃ e, d = e + 1 := ⟨d - 1, by omega⟩
  refine wd_enter mc_X8_blanks (by decide) (by decide +kernel) rfl (Nat.le_of_ble_eq_true rfl) (L0 := [some (.inr 31)]) rfl ?_
  exact t_X8_blanks_b0 G d (by omega) μ  h
set_option maxRecDepth 100000 in
set_option maxHeartbeats 4000000 in
theorem t_X8_isFigure_b34 (G : wd_G) (d : Nat) (hd : 1 ≤ d) {out : Int32} (μ : wd_Mem)  (h : X8_isFigure_b34 μ = some out) : wd_V G (d + 1) RX8 cX8_isFigure 1 (some .boolean) (fun r u => r = some (.inl out) ∧ u = μ) 34 [some (.inr 31)] [] μ := by
  unfold X8_isFigure_b34 at h
  refine wv_iconst (pc' := 35) dX8_isFigure_34 ic_0 rfl ?_
  exact wv_zreturn rfl rfl dX8_isFigure_35 (wd_li h)
set_option maxRecDepth 100000 in
set_option maxHeartbeats 4000000 in
theorem t_X8_isFigure_b0 (G : wd_G) (d : Nat) (hd : 1 ≤ d) {out : Int32} (μ : wd_Mem)  (h : X8_isFigure_b0 μ = some out) : wd_V G (d + 1) RX8 cX8_isFigure 1 (some .boolean) (fun r u => r = some (.inl out) ∧ u = μ) 0 [some (.inr 31)] [] μ := by
  unfold X8_isFigure_b0 at h
  refine wv_aload_n (pc' := 1) (i := 0) (v := 31) dX8_isFigure_0 rfl rfl rfl ?_
  refine wv_gi (pc' := 4) g_X8_70_31 dX8_isFigure_1 rfl ?_
  refine wv_aload_n (pc' := 5) (i := 0) (v := 31) dX8_isFigure_4 rfl rfl rfl ?_
  refine wv_gi (pc' := 8) g_X8_67_31 dX8_isFigure_5 rfl ?_
  refine wv_icmp_ge (pc' := 11) (tgt := 34) dX8_isFigure_8 (by decide) rfl (fun c1 => ?_) (fun c1 => ?_)
  · have h := (if_pos c1).symm.trans h
    exact t_X8_isFigure_b34 G d hd μ  h
  · have h := (if_neg c1).symm.trans h
    refine wv_aload_n (pc' := 12) (i := 0) (v := 31) dX8_isFigure_11 rfl rfl rfl ?_
    refine wv_gr (pc' := 15) g_X8_29_31 dX8_isFigure_12 rfl ?_
    refine wv_aload_n (pc' := 16) (i := 0) (v := 31) dX8_isFigure_15 rfl rfl rfl ?_
    refine wv_gi (pc' := 19) g_X8_70_31 dX8_isFigure_16 rfl ?_
    obtain ⟨g2, h⟩ := wd_chk_some h
    refine wv_iald (pc' := 20) sa_38 (wd_in_vp g2) dX8_isFigure_19 rfl ?_
    refine wv_bipush (pc' := 22) dX8_isFigure_20 bp_48 rfl ?_
    refine wv_bipush (pc' := 24) dX8_isFigure_22 bp_57 rfl ?_
    refine wv_callSi (pc' := 27) (x := (X8_in μ (μ 38 (Int32.toNatClampNeg (μ 31 12))) (48 : Int32) (57 : Int32))) (ν := μ) [.inl (μ 38 (Int32.toNatClampNeg (μ 31 12))), .inl (48 : Int32), .inl (57 : Int32)] ml_X8_63 rfl (Nat.le_of_ble_eq_true rfl) dX8_isFigure_24 rfl (c_X8_in G d (Nat.le_trans (Nat.le_of_ble_eq_true rfl) hd)  rfl) ?_
    refine wv_if_eq (pc' := 30) (tgt := 34) dX8_isFigure_27 (by decide) rfl (fun c3 => ?_) (fun c3 => ?_)
    · have h := (if_pos c3).symm.trans h
      exact t_X8_isFigure_b34 G d hd μ  h
    · have h := (if_neg c3).symm.trans h
      refine wv_iconst (pc' := 31) dX8_isFigure_30 ic_1 rfl ?_
      refine wv_goto (pc' := 35) dX8_isFigure_31 (by decide) ?_
      exact wv_zreturn rfl rfl dX8_isFigure_35 (wd_li h)
set_option maxRecDepth 100000 in
set_option maxHeartbeats 4000000 in
theorem c_X8_isFigure (G : wd_G) (d : Nat) (hd : 2 ≤ d) {μ : wd_Mem} {out : Int32}  (h : X8_isFigure μ = some out) : wd_C G d yX8_isFigure [.inr 31] μ (fun r u => r = some (.inl out) ∧ u = μ) := by
  obtain ⟨d, rfl⟩ : ∃ e, d = e + 1 := ⟨d - 1, by omega⟩
  refine wd_enter mc_X8_isFigure (by decide) (by decide +kernel) rfl (Nat.le_of_ble_eq_true rfl) (L0 := [some (.inr 31)]) rfl ?_
  exact t_X8_isFigure_b0 G d (by omega) μ  h
set_option maxRecDepth 100000 in
set_option maxHeartbeats 4000000 in
theorem t_X8_next_b187 (G : wd_G) (d : Nat) (hd : 2 ≤ d) {out : wd_Mem} (μ : wd_Mem) (s1 : Int32)  (h : X8_next_b187 μ s1 = some out) : wd_V G (d + 1) RX8 cX8_next 2 none (fun r u => r = none ∧ u = out) 187 [some (.inr 31), none] [.inl s1, .inr 31] μ := by
  unfold X8_next_b187 at h
  refine wv_pi (pc' := 190) p_X8_79_31 dX8_next_187 rfl ?_
  refine wv_aload_n (pc' := 191) (i := 0) (v := 31) dX8_next_190 rfl rfl rfl ?_
  refine wv_dup (pc' := 192) dX8_next_191 rfl ?_
  refine wv_giE (pc' := 195) (v := (μ 31 12)) g_X8_70_31 dX8_next_192 rfl rfl ?_
  refine wv_iconst (pc' := 196) dX8_next_195 ic_1 rfl ?_
  refine wv_iadd (pc' := 197) dX8_next_196 rfl ?_
  refine wv_pi (pc' := 200) p_X8_70_31 dX8_next_197 rfl ?_
  exact wv_return rfl dX8_next_200 (wd_lv h)
set_option maxRecDepth 100000 in
set_option maxHeartbeats 4000000 in
theorem t_X8_next_b181 (G : wd_G) (d : Nat) (hd : 2 ≤ d) {out : wd_Mem} (μ : wd_Mem) (x1 : Int32)  (h : X8_next_b181 μ x1 = some out) : wd_V G (d + 1) RX8 cX8_next 2 none (fun r u => r = none ∧ u = out) 181 [some (.inr 31), some (.inl x1)] [.inr 31] μ := by
  unfold X8_next_b181 at h
  refine wv_iload_n (pc' := 182) (i := 1) (v := x1) dX8_next_181 rfl rfl rfl ?_
  refine wv_goto (pc' := 187) dX8_next_182 (by decide) ?_
  refine wv_weak (L' := [some (.inr 31), none]) ⟨rfl, trivial⟩ ?_
  exact t_X8_next_b187 G d hd μ x1  h
set_option maxRecDepth 100000 in
set_option maxHeartbeats 4000000 in
theorem t_X8_next_b87 (G : wd_G) (d : Nat) (hd : 2 ≤ d) {out : wd_Mem} (rec : wd_Mem → Option (wd_Mem)) (k : wd_Mem → Option (wd_Mem)) (μ : wd_Mem) (s1 : Int32) (hrec : ∀  (μ : wd_Mem), rec μ = some out → wd_V G (d + 1) RX8 cX8_next 2 none (fun r u => r = none ∧ u = out) 43 [some (.inr 31), none] [] μ) (hk : ∀  (μ : wd_Mem), k μ = some out → wd_V G (d + 1) RX8 cX8_next 2 none (fun r u => r = none ∧ u = out) 103 [some (.inr 31), none] [] μ) (h : X8_next_b87 rec k μ s1 = some out) : wd_V G (d + 1) RX8 cX8_next 2 none (fun r u => r = none ∧ u = out) 87 [some (.inr 31), none] [.inl s1, .inr 31] μ := by
  unfold X8_next_b87 at h
  refine wv_pi (pc' := 90) p_X8_86_31 dX8_next_87 rfl ?_
  refine wv_aload_n (pc' := 91) (i := 0) (v := 31) dX8_next_90 rfl rfl rfl ?_
  refine wv_dup (pc' := 92) dX8_next_91 rfl ?_
  refine wv_giE (pc' := 95) (v := (μ 31 12)) g_X8_70_31 dX8_next_92 rfl rfl ?_
  refine wv_iconst (pc' := 96) dX8_next_95 ic_1 rfl ?_
  refine wv_iadd (pc' := 97) dX8_next_96 rfl ?_
  refine wv_pi (pc' := 100) p_X8_70_31 dX8_next_97 rfl ?_
  refine wv_goto (pc' := 43) dX8_next_100 (by decide) ?_
  exact hrec _ h
set_option maxRecDepth 100000 in
set_option maxHeartbeats 4000000 in
theorem t_X8_next_c43 (G : wd_G) (d : Nat) (hd : 2 ≤ d) {out : wd_Mem} (rec : wd_Mem → Option (wd_Mem)) (k : wd_Mem → Option (wd_Mem)) (μ : wd_Mem) (hrec : ∀  (μ : wd_Mem), rec μ = some out → wd_V G (d + 1) RX8 cX8_next 2 none (fun r u => r = none ∧ u = out) 43 [some (.inr 31), none] [] μ) (hk : ∀  (μ : wd_Mem), k μ = some out → wd_V G (d + 1) RX8 cX8_next 2 none (fun r u => r = none ∧ u = out) 103 [some (.inr 31), none] [] μ) (h : X8_next_c43 rec k μ = some out) : wd_V G (d + 1) RX8 cX8_next 2 none (fun r u => r = none ∧ u = out) 43 [some (.inr 31), none] [] μ := by
  unfold X8_next_c43 at h
  refine wv_aload_n (pc' := 44) (i := 0) (v := 31) dX8_next_43 rfl rfl rfl ?_
  obtain ⟨r9, er9, h⟩ := wd_bind_some h
  refine wv_callVi (pc' := 47) (x := r9) (ν := μ) [] ml_X8_82 rc_31 rfl (Nat.le_of_ble_eq_true rfl) dX8_next_44 rfl (c_X8_isFigure G d (Nat.le_trans (Nat.le_of_ble_eq_true rfl) hd)  er9) ?_
  refine wv_if_eq (pc' := 50) (tgt := 103) dX8_next_47 (by decide) rfl (fun c10 => ?_) (fun c10 => ?_)
  · have h := (if_pos c10).symm.trans h
    exact hk _ h
  · have h := (if_neg c10).symm.trans h
    refine wv_aload_n (pc' := 51) (i := 0) (v := 31) dX8_next_50 rfl rfl rfl ?_
    refine wv_aload_n (pc' := 52) (i := 0) (v := 31) dX8_next_51 rfl rfl rfl ?_
    refine wv_gi (pc' := 55) g_X8_86_31 dX8_next_52 rfl ?_
    refine wv_bipush (pc' := 57) dX8_next_55 bp_99 rfl ?_
    refine wv_icmp_le (pc' := 60) (tgt := 67) dX8_next_57 (by decide) rfl (fun c11 => ?_) (fun c11 => ?_)
    · have h := (if_pos c11).symm.trans h
      refine wv_bipush (pc' := 69) dX8_next_67 bp_10 rfl ?_
      refine wv_aload_n (pc' := 70) (i := 0) (v := 31) dX8_next_69 rfl rfl rfl ?_
      refine wv_gi (pc' := 73) g_X8_86_31 dX8_next_70 rfl ?_
      refine wv_imul (pc' := 74) dX8_next_73 rfl ?_
      refine wv_aload_n (pc' := 75) (i := 0) (v := 31) dX8_next_74 rfl rfl rfl ?_
      refine wv_gr (pc' := 78) g_X8_29_31 dX8_next_75 rfl ?_
      refine wv_aload_n (pc' := 79) (i := 0) (v := 31) dX8_next_78 rfl rfl rfl ?_
      refine wv_gi (pc' := 82) g_X8_70_31 dX8_next_79 rfl ?_
      obtain ⟨g12, h⟩ := wd_chk_some h
      refine wv_iald (pc' := 83) sa_38 (wd_in_vp g12) dX8_next_82 rfl ?_
      refine wv_iadd (pc' := 84) dX8_next_83 rfl ?_
      refine wv_bipush (pc' := 86) dX8_next_84 bp_48 rfl ?_
      refine wv_isub (pc' := 87) dX8_next_86 rfl ?_
      exact t_X8_next_b87 G d hd rec k μ ((((10 : Int32) * (μ 31 15)) + (μ 38 (Int32.toNatClampNeg (μ 31 12)))) - (48 : Int32)) hrec hk h
    · have h := (if_neg c11).symm.trans h
      refine wv_aload_n (pc' := 61) (i := 0) (v := 31) dX8_next_60 rfl rfl rfl ?_
      refine wv_gi (pc' := 64) g_X8_86_31 dX8_next_61 rfl ?_
      refine wv_goto (pc' := 87) dX8_next_64 (by decide) ?_
      exact t_X8_next_b87 G d hd rec k μ (μ 31 15) hrec hk h
set_option maxRecDepth 100000 in
set_option maxHeartbeats 4000000 in
theorem t_X8_next_l43 (G : wd_G) (d : Nat) (hd : 2 ≤ d) {out : wd_Mem} (k : wd_Mem → Option (wd_Mem)) (hk : ∀  (μ : wd_Mem), k μ = some out → wd_V G (d + 1) RX8 cX8_next 2 none (fun r u => r = none ∧ u = out) 103 [some (.inr 31), none] [] μ) : ∀ (n : Nat)  (μ : wd_Mem), X8_next_l43 k n μ = some out → wd_V G (d + 1) RX8 cX8_next 2 none (fun r u => r = none ∧ u = out) 43 [some (.inr 31), none] [] μ := by
  intro n
  induction n with
  | zero => intro μ h; exact absurd h (by unfold X8_next_l43; simp)
  | succ n ih =>
    intro μ h
    exact t_X8_next_c43 G d hd (X8_next_l43 k n) k μ  (fun μ h => ih μ h) hk h
set_option maxRecDepth 100000 in
set_option maxHeartbeats 4000000 in
theorem t_X8_next_b146 (G : wd_G) (d : Nat) (hd : 2 ≤ d) {out : wd_Mem} (μ : wd_Mem) (s1 : Int32)  (h : X8_next_b146 μ s1 = some out) : wd_V G (d + 1) RX8 cX8_next 2 none (fun r u => r = none ∧ u = out) 146 [some (.inr 31), none] [.inl s1, .inr 31] μ := by
  unfold X8_next_b146 at h
  refine wv_pi (pc' := 149) p_X8_79_31 dX8_next_146 rfl ?_
  refine wv_goto (pc' := 200) dX8_next_149 (by decide) ?_
  exact wv_return rfl dX8_next_200 (wd_lv h)
set_option maxRecDepth 100000 in
set_option maxHeartbeats 4000000 in
theorem t_X8_next_b140 (G : wd_G) (d : Nat) (hd : 2 ≤ d) {out : wd_Mem} (μ : wd_Mem)  (h : X8_next_b140 μ = some out) : wd_V G (d + 1) RX8 cX8_next 2 none (fun r u => r = none ∧ u = out) 140 [some (.inr 31), none] [.inr 31] μ := by
  unfold X8_next_b140 at h
  refine wv_bipush (pc' := 142) dX8_next_140 bp_m2 rfl ?_
  refine wv_goto (pc' := 146) dX8_next_142 (by decide) ?_
  exact t_X8_next_b146 G d hd μ (-2 : Int32)  h
set_option maxRecDepth 100000 in
set_option maxHeartbeats 4000000 in
theorem t_X8_next_b145 (G : wd_G) (d : Nat) (hd : 2 ≤ d) {out : wd_Mem} (μ : wd_Mem)  (h : X8_next_b145 μ = some out) : wd_V G (d + 1) RX8 cX8_next 2 none (fun r u => r = none ∧ u = out) 145 [some (.inr 31), none] [.inr 31] μ := by
  unfold X8_next_b145 at h
  refine wv_iconst (pc' := 146) dX8_next_145 ic_0 rfl ?_
  exact t_X8_next_b146 G d hd μ (0 : Int32)  h
set_option maxRecDepth 100000 in
set_option maxHeartbeats 4000000 in
theorem t_X8_next_b103 (G : wd_G) (d : Nat) (hd : 2 ≤ d) {out : wd_Mem} (μ : wd_Mem)  (h : X8_next_b103 μ = some out) : wd_V G (d + 1) RX8 cX8_next 2 none (fun r u => r = none ∧ u = out) 103 [some (.inr 31), none] [] μ := by
  unfold X8_next_b103 at h
  refine wv_aload_n (pc' := 104) (i := 0) (v := 31) dX8_next_103 rfl rfl rfl ?_
  refine wv_aload_n (pc' := 105) (i := 0) (v := 31) dX8_next_104 rfl rfl rfl ?_
  refine wv_gi (pc' := 108) g_X8_86_31 dX8_next_105 rfl ?_
  refine wv_bipush (pc' := 110) dX8_next_108 bp_99 rfl ?_
  refine wv_icmp_gt (pc' := 113) (tgt := 140) dX8_next_110 (by decide) rfl (fun c13 => ?_) (fun c13 => ?_)
  · have h := (if_pos c13).symm.trans h
    exact t_X8_next_b140 G d hd μ  h
  · have h := (if_neg c13).symm.trans h
    refine wv_aload_n (pc' := 114) (i := 0) (v := 31) dX8_next_113 rfl rfl rfl ?_
    refine wv_gr (pc' := 117) g_X8_29_31 dX8_next_114 rfl ?_
    refine wv_aload_n (pc' := 118) (i := 0) (v := 31) dX8_next_117 rfl rfl rfl ?_
    refine wv_gi (pc' := 121) g_X8_76_31 dX8_next_118 rfl ?_
    obtain ⟨g14, h⟩ := wd_chk_some h
    refine wv_iald (pc' := 122) sa_38 (wd_in_vp g14) dX8_next_121 rfl ?_
    refine wv_bipush (pc' := 124) dX8_next_122 bp_48 rfl ?_
    refine wv_icmp_ne (pc' := 127) (tgt := 145) dX8_next_124 (by decide) rfl (fun c15 => ?_) (fun c15 => ?_)
    · have h := (if_neg c15).symm.trans h
      exact t_X8_next_b145 G d hd μ  h
    · have h := (if_pos c15).symm.trans h
      refine wv_aload_n (pc' := 128) (i := 0) (v := 31) dX8_next_127 rfl rfl rfl ?_
      refine wv_gi (pc' := 131) g_X8_70_31 dX8_next_128 rfl ?_
      refine wv_aload_n (pc' := 132) (i := 0) (v := 31) dX8_next_131 rfl rfl rfl ?_
      refine wv_gi (pc' := 135) g_X8_76_31 dX8_next_132 rfl ?_
      refine wv_isub (pc' := 136) dX8_next_135 rfl ?_
      refine wv_iconst (pc' := 137) dX8_next_136 ic_1 rfl ?_
      refine wv_icmp_le (pc' := 140) (tgt := 145) dX8_next_137 (by decide) rfl (fun c16 => ?_) (fun c16 => ?_)
      · have h := (if_pos c16).symm.trans h
        exact t_X8_next_b145 G d hd μ  h
      · have h := (if_neg c16).symm.trans h
        exact t_X8_next_b140 G d hd μ  h
set_option maxRecDepth 100000 in
set_option maxHeartbeats 4000000 in
theorem t_X8_next_b0 (G : wd_G) (d : Nat) (hd : 2 ≤ d) {out : wd_Mem} (μ : wd_Mem)  (h : X8_next_b0 μ = some out) : wd_V G (d + 1) RX8 cX8_next 2 none (fun r u => r = none ∧ u = out) 0 [some (.inr 31), none] [] μ := by
  unfold X8_next_b0 at h
  refine wv_aload_n (pc' := 1) (i := 0) (v := 31) dX8_next_0 rfl rfl rfl ?_
  obtain ⟨r1, er1, h⟩ := wd_bind_some h
  refine wv_callVv (pc' := 4) (ν := r1) [] ml_X8_73 rc_31 rfl (Nat.le_of_ble_eq_true rfl) dX8_next_1 rfl (c_X8_blanks G d (Nat.le_trans (Nat.le_of_ble_eq_true rfl) hd)  er1) ?_
  refine wv_aload_n (pc' := 5) (i := 0) (v := 31) dX8_next_4 rfl rfl rfl ?_
  refine wv_aload_n (pc' := 6) (i := 0) (v := 31) dX8_next_5 rfl rfl rfl ?_
  refine wv_gi (pc' := 9) g_X8_70_31 dX8_next_6 rfl ?_
  refine wv_pi (pc' := 12) p_X8_76_31 dX8_next_9 rfl ?_
  refine wv_aload_n (pc' := 13) (i := 0) (v := 31) dX8_next_12 rfl rfl rfl ?_
  refine wv_giE (pc' := 16) (v := (r1 31 12)) g_X8_70_31 dX8_next_13 rfl rfl ?_
  refine wv_aload_n (pc' := 17) (i := 0) (v := 31) dX8_next_16 rfl rfl rfl ?_
  refine wv_giE (pc' := 20) (v := (r1 31 10)) g_X8_67_31 dX8_next_17 rfl rfl ?_
  refine wv_icmp_ne (pc' := 23) (tgt := 31) dX8_next_20 (by decide) rfl (fun c2 => ?_) (fun c2 => ?_)
  · have h := (if_neg c2).symm.trans h
    refine wv_aload_n (pc' := 32) (i := 0) (v := 31) dX8_next_31 rfl rfl rfl ?_
    obtain ⟨r3, er3, h⟩ := wd_bind_some h
    refine wv_callVi (pc' := 35) (x := r3) (ν := (mset r1 31 13 (r1 31 12))) [] ml_X8_82 rc_31 rfl (Nat.le_of_ble_eq_true rfl) dX8_next_32 rfl (c_X8_isFigure G d (Nat.le_trans (Nat.le_of_ble_eq_true rfl) hd)  er3) ?_
    refine wv_if_eq (pc' := 38) (tgt := 152) dX8_next_35 (by decide) rfl (fun c4 => ?_) (fun c4 => ?_)
    · have h := (if_pos c4).symm.trans h
      refine wv_aload_n (pc' := 153) (i := 0) (v := 31) dX8_next_152 rfl rfl rfl ?_
      refine wv_gr (pc' := 156) g_X8_29_31 dX8_next_153 rfl ?_
      refine wv_aload_n (pc' := 157) (i := 0) (v := 31) dX8_next_156 rfl rfl rfl ?_
      refine wv_giE (pc' := 160) (v := (r1 31 12)) g_X8_70_31 dX8_next_157 rfl rfl ?_
      obtain ⟨g5, h⟩ := wd_chk_some h
      refine wv_ialdE (pc' := 161) (v := (r1 38 (Int32.toNatClampNeg (r1 31 12)))) sa_38 (wd_in_vp g5) dX8_next_160 rfl rfl ?_
      refine wv_istore_n (pc' := 162) (i := 1) (L' := [some (.inr 31), some (.inl (r1 38 (Int32.toNatClampNeg (r1 31 12))))]) dX8_next_161 rfl (by decide) rfl rfl ?_
      refine wv_aload_n (pc' := 163) (i := 0) (v := 31) dX8_next_162 rfl rfl rfl ?_
      refine wv_iload_n (pc' := 164) (i := 1) (v := (r1 38 (Int32.toNatClampNeg (r1 31 12)))) dX8_next_163 rfl rfl rfl ?_
      refine wv_bipush (pc' := 166) dX8_next_164 bp_99 rfl ?_
      refine wv_icmp_eq (pc' := 169) (tgt := 181) dX8_next_166 (by decide) rfl (fun c6 => ?_) (fun c6 => ?_)
      · have h := (if_pos c6).symm.trans h
        exact t_X8_next_b181 G d hd (mset r1 31 13 (r1 31 12)) (r1 38 (Int32.toNatClampNeg (r1 31 12)))  h
      · have h := (if_neg c6).symm.trans h
        refine wv_iload_n (pc' := 170) (i := 1) (v := (r1 38 (Int32.toNatClampNeg (r1 31 12)))) dX8_next_169 rfl rfl rfl ?_
        refine wv_bipush (pc' := 172) dX8_next_170 bp_116 rfl ?_
        refine wv_icmp_eq (pc' := 175) (tgt := 181) dX8_next_172 (by decide) rfl (fun c7 => ?_) (fun c7 => ?_)
        · have h := (if_pos c7).symm.trans h
          exact t_X8_next_b181 G d hd (mset r1 31 13 (r1 31 12)) (r1 38 (Int32.toNatClampNeg (r1 31 12)))  h
        · have h := (if_neg c7).symm.trans h
          refine wv_iload_n (pc' := 176) (i := 1) (v := (r1 38 (Int32.toNatClampNeg (r1 31 12)))) dX8_next_175 rfl rfl rfl ?_
          refine wv_bipush (pc' := 178) dX8_next_176 bp_59 rfl ?_
          refine wv_icmp_ne (pc' := 181) (tgt := 185) dX8_next_178 (by decide) rfl (fun c8 => ?_) (fun c8 => ?_)
          · have h := (if_neg c8).symm.trans h
            refine wv_bipush (pc' := 187) dX8_next_185 bp_m2 rfl ?_
            refine wv_weak (L' := [some (.inr 31), none]) ⟨rfl, trivial⟩ ?_
            exact t_X8_next_b187 G d hd (mset r1 31 13 (r1 31 12)) (-2 : Int32)  h
          · have h := (if_pos c8).symm.trans h
            exact t_X8_next_b181 G d hd (mset r1 31 13 (r1 31 12)) (r1 38 (Int32.toNatClampNeg (r1 31 12)))  h
    · have h := (if_neg c4).symm.trans h
      refine wv_aload_n (pc' := 39) (i := 0) (v := 31) dX8_next_38 rfl rfl rfl ?_
      refine wv_iconst (pc' := 40) dX8_next_39 ic_0 rfl ?_
      refine wv_pi (pc' := 43) p_X8_86_31 dX8_next_40 rfl ?_
      exact t_X8_next_l43 G d hd (fun μ => X8_next_b103 μ)  (fun μ h => t_X8_next_b103 G d hd μ  h) wd_big (mset (mset r1 31 13 (r1 31 12)) 31 15 (0 : Int32)) h
  · have h := (if_pos c2).symm.trans h
    refine wv_aload_n (pc' := 24) (i := 0) (v := 31) dX8_next_23 rfl rfl rfl ?_
    refine wv_iconst (pc' := 25) dX8_next_24 ic_m1 rfl ?_
    refine wv_pi (pc' := 28) p_X8_79_31 dX8_next_25 rfl ?_
    refine wv_goto (pc' := 200) dX8_next_28 (by decide) ?_
    exact wv_return rfl dX8_next_200 (wd_lv h)
set_option maxRecDepth 100000 in
set_option maxHeartbeats 4000000 in
theorem c_X8_next (G : wd_G) (d : Nat) (hd : 3 ≤ d) {μ : wd_Mem} {out : wd_Mem}  (h : X8_next μ = some out) : wd_C G d yX8_next [.inr 31] μ (fun r u => r = none ∧ u = out) := by
  obtain ⟨d, rfl⟩ : ∃ e, d = e + 1 := ⟨d - 1, by omega⟩
  refine wd_enter mc_X8_next (by decide) (by decide +kernel) rfl (Nat.le_of_ble_eq_true rfl) (L0 := [some (.inr 31), none]) rfl ?_
  exact t_X8_next_b0 G d (by omega) μ  h
set_option maxRecDepth 100000 in
set_option maxHeartbeats 4000000 in
theorem t_X8_fails_b0 (G : wd_G) (d : Nat) (hd : 0 ≤ d) {out : Int32 × wd_Mem} (μ : wd_Mem)  (h : X8_fails_b0 μ = some out) : wd_V G (d + 1) RX8 cX8_fails 1 (some .boolean) (fun r u => r = some (.inl out.1) ∧ u = out.2) 0 [some (.inr 31)] [] μ := by
  unfold X8_fails_b0 at h
  refine wv_aload_n (pc' := 1) (i := 0) (v := 31) dX8_fails_0 rfl rfl rfl ?_
  refine wv_aload_n (pc' := 2) (i := 0) (v := 31) dX8_fails_1 rfl rfl rfl ?_
  refine wv_gi (pc' := 5) g_X8_76_31 dX8_fails_2 rfl ?_
  refine wv_pi (pc' := 8) p_X8_89_31 dX8_fails_5 rfl ?_
  refine wv_iconst (pc' := 9) dX8_fails_8 ic_0 rfl ?_
  exact wv_zreturn rfl rfl dX8_fails_9 (wd_liv h)
set_option maxRecDepth 100000 in
set_option maxHeartbeats 4000000 in
theorem c_X8_fails (G : wd_G) (d : Nat) (hd : 1 ≤ d) {μ : wd_Mem} {out : Int32 × wd_Mem}  (h : X8_fails μ = some out) : wd_C G d yX8_fails [.inr 31] μ (fun r u => r = some (.inl out.1) ∧ u = out.2) := by
  obtain ⟨d, rfl⟩ : ∃ e, d = e + 1 := ⟨d - 1, by omega⟩
  refine wd_enter mc_X8_fails (by decide) (by decide +kernel) rfl (Nat.le_of_ble_eq_true rfl) (L0 := [some (.inr 31)]) rfl ?_
  exact t_X8_fails_b0 G d (by omega) μ  h
set_option maxRecDepth 100000 in
set_option maxHeartbeats 4000000 in
theorem t_X8_number_b30 (G : wd_G) (d : Nat) (hd : 3 ≤ d) {out : Int32 × wd_Mem} (μ : wd_Mem)  (h : X8_number_b30 μ = some out) : wd_V G (d + 1) RX8 cX8_number 3 (some .boolean) (fun r u => r = some (.inl out.1) ∧ u = out.2) 30 [some (.inr 31), none, none] [] μ := by
  unfold X8_number_b30 at h
  refine wv_iconst (pc' := 31) dX8_number_30 ic_1 rfl ?_
  refine wv_goto (pc' := 35) dX8_number_31 (by decide) ?_
  exact wv_zreturn rfl rfl dX8_number_35 (wd_liv h)
set_option maxRecDepth 100000 in
set_option maxHeartbeats 4000000 in
theorem t_X8_number_b23 (G : wd_G) (d : Nat) (hd : 3 ≤ d) {out : Int32 × wd_Mem} (μ : wd_Mem)  (h : X8_number_b23 μ = some out) : wd_V G (d + 1) RX8 cX8_number 3 (some .boolean) (fun r u => r = some (.inl out.1) ∧ u = out.2) 23 [some (.inr 31), none, none] [] μ := by
  unfold X8_number_b23 at h
  refine wv_aload_n (pc' := 24) (i := 0) (v := 31) dX8_number_23 rfl rfl rfl ?_
  obtain ⟨r3, er3, h⟩ := wd_bind_some h
  refine wv_callVi (pc' := 27) (x := r3.1) (ν := r3.2) [] ml_X8_95 rc_31 rfl (Nat.le_of_ble_eq_true rfl) dX8_number_24 rfl (c_X8_fails G d (Nat.le_trans (Nat.le_of_ble_eq_true rfl) hd)  er3) ?_
  refine wv_if_eq (pc' := 30) (tgt := 34) dX8_number_27 (by decide) rfl (fun c4 => ?_) (fun c4 => ?_)
  · have h := (if_pos c4).symm.trans h
    refine wv_iconst (pc' := 35) dX8_number_34 ic_0 rfl ?_
    exact wv_zreturn rfl rfl dX8_number_35 (wd_liv h)
  · have h := (if_neg c4).symm.trans h
    exact t_X8_number_b30 G d hd r3.2  h
set_option maxRecDepth 100000 in
set_option maxHeartbeats 4000000 in
theorem t_X8_number_b0 (G : wd_G) (d : Nat) (hd : 3 ≤ d) {out : Int32 × wd_Mem} (μ : wd_Mem) (x1 x2 : Int32)  (h : X8_number_b0 μ x1 x2 = some out) : wd_V G (d + 1) RX8 cX8_number 3 (some .boolean) (fun r u => r = some (.inl out.1) ∧ u = out.2) 0 [some (.inr 31), some (.inl x1), some (.inl x2)] [] μ := by
  unfold X8_number_b0 at h
  refine wv_aload_n (pc' := 1) (i := 0) (v := 31) dX8_number_0 rfl rfl rfl ?_
  obtain ⟨r1, er1, h⟩ := wd_bind_some h
  refine wv_callVv (pc' := 4) (ν := r1) [] ml_X8_92 rc_31 rfl (Nat.le_of_ble_eq_true rfl) dX8_number_1 rfl (c_X8_next G d (Nat.le_trans (Nat.le_of_ble_eq_true rfl) hd)  er1) ?_
  refine wv_aload_n (pc' := 5) (i := 0) (v := 31) dX8_number_4 rfl rfl rfl ?_
  refine wv_gi (pc' := 8) g_X8_79_31 dX8_number_5 rfl ?_
  refine wv_if_ne (pc' := 11) (tgt := 23) dX8_number_8 (by decide) rfl (fun c2 => ?_) (fun c2 => ?_)
  · have h := (if_neg c2).symm.trans h
    refine wv_weak (L' := [some (.inr 31), none, none]) ⟨rfl, trivial⟩ ?_
    exact t_X8_number_b23 G d hd r1  h
  · have h := (if_pos c2).symm.trans h
    refine wv_aload_n (pc' := 12) (i := 0) (v := 31) dX8_number_11 rfl rfl rfl ?_
    refine wv_gi (pc' := 15) g_X8_86_31 dX8_number_12 rfl ?_
    refine wv_iload_n (pc' := 16) (i := 1) (v := x1) dX8_number_15 rfl rfl rfl ?_
    refine wv_iload_n (pc' := 17) (i := 2) (v := x2) dX8_number_16 rfl rfl rfl ?_
    refine wv_callSi (pc' := 20) (x := (X8_in r1 (r1 31 15) x1 x2)) (ν := r1) [.inl (r1 31 15), .inl x1, .inl x2] ml_X8_63 rfl (Nat.le_of_ble_eq_true rfl) dX8_number_17 rfl (c_X8_in G d (Nat.le_trans (Nat.le_of_ble_eq_true rfl) hd)  rfl) ?_
    refine wv_if_ne (pc' := 23) (tgt := 30) dX8_number_20 (by decide) rfl (fun c5 => ?_) (fun c5 => ?_)
    · have h := (if_neg c5).symm.trans h
      refine wv_weak (L' := [some (.inr 31), none, none]) ⟨rfl, trivial⟩ ?_
      exact t_X8_number_b30 G d hd r1  h
    · have h := (if_pos c5).symm.trans h
      refine wv_weak (L' := [some (.inr 31), none, none]) ⟨rfl, trivial⟩ ?_
      exact t_X8_number_b23 G d hd r1  h
set_option maxRecDepth 100000 in
set_option maxHeartbeats 4000000 in
theorem c_X8_number (G : wd_G) (d : Nat) (hd : 4 ≤ d) {μ : wd_Mem} {x1 x2 : Int32} {out : Int32 × wd_Mem}  (h : X8_number μ x1 x2 = some out) : wd_C G d yX8_number [.inr 31, .inl x1, .inl x2] μ (fun r u => r = some (.inl out.1) ∧ u = out.2) := by
  obtain ⟨d, rfl⟩ : ∃ e, d = e + 1 := ⟨d - 1, by omega⟩
  refine wd_enter mc_X8_number (by decide) (by decide +kernel) rfl (Nat.le_of_ble_eq_true rfl) (L0 := [some (.inr 31), some (.inl x1), some (.inl x2)]) rfl ?_
  exact t_X8_number_b0 G d (by omega) μ x1 x2 h
set_option maxRecDepth 100000 in
set_option maxHeartbeats 4000000 in
theorem t_X8_ends_b20 (G : wd_G) (d : Nat) (hd : 3 ≤ d) {out : Int32 × wd_Mem} (μ : wd_Mem)  (h : X8_ends_b20 μ = some out) : wd_V G (d + 1) RX8 cX8_ends 1 (some .boolean) (fun r u => r = some (.inl out.1) ∧ u = out.2) 20 [some (.inr 31)] [] μ := by
  unfold X8_ends_b20 at h
  refine wv_iconst (pc' := 21) dX8_ends_20 ic_1 rfl ?_
  refine wv_goto (pc' := 25) dX8_ends_21 (by decide) ?_
  exact wv_zreturn rfl rfl dX8_ends_25 (wd_liv h)
set_option maxRecDepth 100000 in
set_option maxHeartbeats 4000000 in
theorem t_X8_ends_b0 (G : wd_G) (d : Nat) (hd : 3 ≤ d) {out : Int32 × wd_Mem} (μ : wd_Mem)  (h : X8_ends_b0 μ = some out) : wd_V G (d + 1) RX8 cX8_ends 1 (some .boolean) (fun r u => r = some (.inl out.1) ∧ u = out.2) 0 [some (.inr 31)] [] μ := by
  unfold X8_ends_b0 at h
  refine wv_aload_n (pc' := 1) (i := 0) (v := 31) dX8_ends_0 rfl rfl rfl ?_
  obtain ⟨r1, er1, h⟩ := wd_bind_some h
  refine wv_callVv (pc' := 4) (ν := r1) [] ml_X8_92 rc_31 rfl (Nat.le_of_ble_eq_true rfl) dX8_ends_1 rfl (c_X8_next G d (Nat.le_trans (Nat.le_of_ble_eq_true rfl) hd)  er1) ?_
  refine wv_aload_n (pc' := 5) (i := 0) (v := 31) dX8_ends_4 rfl rfl rfl ?_
  refine wv_gi (pc' := 8) g_X8_79_31 dX8_ends_5 rfl ?_
  refine wv_bipush (pc' := 10) dX8_ends_8 bp_59 rfl ?_
  refine wv_icmp_eq (pc' := 13) (tgt := 20) dX8_ends_10 (by decide) rfl (fun c2 => ?_) (fun c2 => ?_)
  · have h := (if_pos c2).symm.trans h
    exact t_X8_ends_b20 G d hd r1  h
  · have h := (if_neg c2).symm.trans h
    refine wv_aload_n (pc' := 14) (i := 0) (v := 31) dX8_ends_13 rfl rfl rfl ?_
    obtain ⟨r3, er3, h⟩ := wd_bind_some h
    refine wv_callVi (pc' := 17) (x := r3.1) (ν := r3.2) [] ml_X8_95 rc_31 rfl (Nat.le_of_ble_eq_true rfl) dX8_ends_14 rfl (c_X8_fails G d (Nat.le_trans (Nat.le_of_ble_eq_true rfl) hd)  er3) ?_
    refine wv_if_eq (pc' := 20) (tgt := 24) dX8_ends_17 (by decide) rfl (fun c4 => ?_) (fun c4 => ?_)
    · have h := (if_pos c4).symm.trans h
      refine wv_iconst (pc' := 25) dX8_ends_24 ic_0 rfl ?_
      exact wv_zreturn rfl rfl dX8_ends_25 (wd_liv h)
    · have h := (if_neg c4).symm.trans h
      exact t_X8_ends_b20 G d hd r3.2  h
set_option maxRecDepth 100000 in
set_option maxHeartbeats 4000000 in
theorem c_X8_ends (G : wd_G) (d : Nat) (hd : 4 ≤ d) {μ : wd_Mem} {out : Int32 × wd_Mem}  (h : X8_ends μ = some out) : wd_C G d yX8_ends [.inr 31] μ (fun r u => r = some (.inl out.1) ∧ u = out.2) := by
  obtain ⟨d, rfl⟩ : ∃ e, d = e + 1 := ⟨d - 1, by omega⟩
  refine wd_enter mc_X8_ends (by decide) (by decide +kernel) rfl (Nat.le_of_ble_eq_true rfl) (L0 := [some (.inr 31)]) rfl ?_
  exact t_X8_ends_b0 G d (by omega) μ  h
set_option maxRecDepth 100000 in
set_option maxHeartbeats 4000000 in
theorem t_X8_readsTask_b143 (G : wd_G) (d : Nat) (hd : 4 ≤ d) {out : Int32 × wd_Mem} (μ : wd_Mem) (x1 s1 s2 : Int32)  (h : X8_readsTask_b143 μ x1 s1 s2 = some out) : wd_V G (d + 1) RX8 cX8_readsTask 3 (some .boolean) (fun r u => r = some (.inl out.1) ∧ u = out.2) 143 [some (.inr 31), some (.inl x1), none] [.inl s2, .inl s1, .inr 31] μ := by
  unfold X8_readsTask_b143 at h
  obtain ⟨r13, er13, h⟩ := wd_bind_some h
  refine wv_callVi (pc' := 146) (x := r13.1) (ν := r13.2) [.inl s1, .inl s2] ml_X8_101 rc_31 rfl (Nat.le_of_ble_eq_true rfl) dX8_readsTask_143 rfl (c_X8_number G d (Nat.le_trans (Nat.le_of_ble_eq_true rfl) hd)  er13) ?_
  refine wv_if_ne (pc' := 149) (tgt := 151) dX8_readsTask_146 (by decide) rfl (fun c14 => ?_) (fun c14 => ?_)
  · have h := (if_neg c14).symm.trans h
    refine wv_aload_n (pc' := 152) (i := 0) (v := 31) dX8_readsTask_151 rfl rfl rfl ?_
    refine wv_gr (pc' := 155) g_X8_32_31 dX8_readsTask_152 rfl ?_
    refine wv_iload_n (pc' := 156) (i := 1) (v := x1) dX8_readsTask_155 rfl rfl rfl ?_
    refine wv_iconst (pc' := 157) dX8_readsTask_156 ic_3 rfl ?_
    refine wv_iadd (pc' := 158) dX8_readsTask_157 rfl ?_
    refine wv_aload_n (pc' := 159) (i := 0) (v := 31) dX8_readsTask_158 rfl rfl rfl ?_
    refine wv_gi (pc' := 162) g_X8_86_31 dX8_readsTask_159 rfl ?_
    obtain ⟨g15, h⟩ := wd_chk_some h
    refine wv_iast (pc' := 163) sa_39 (wd_in_vp g15) dX8_readsTask_162 rfl ?_
    refine wv_aload_n (pc' := 164) (i := 0) (v := 31) dX8_readsTask_163 rfl rfl rfl ?_
    refine wv_dup (pc' := 165) dX8_readsTask_164 rfl ?_
    refine wv_giE (pc' := 168) (v := (r13.2 31 17)) g_X8_98_31 dX8_readsTask_165 rfl rfl ?_
    refine wv_iconst (pc' := 169) dX8_readsTask_168 ic_1 rfl ?_
    refine wv_iadd (pc' := 170) dX8_readsTask_169 rfl ?_
    refine wv_pi (pc' := 173) p_X8_98_31 dX8_readsTask_170 rfl ?_
    refine wv_aload_n (pc' := 174) (i := 0) (v := 31) dX8_readsTask_173 rfl rfl rfl ?_
    obtain ⟨r16, er16, h⟩ := wd_bind_some h
    refine wv_callVi (pc' := 177) (x := r16.1) (ν := r16.2) [] ml_X8_108 rc_31 rfl (Nat.le_of_ble_eq_true rfl) dX8_readsTask_174 rfl (c_X8_ends G d (Nat.le_trans (Nat.le_of_ble_eq_true rfl) hd)  er16) ?_
    obtain ⟨g17, h⟩ := wd_chk_some h
    exact wv_zreturn rfl (wd_bit_ok g17) dX8_readsTask_177 (wd_liv h)
  · have h := (if_pos c14).symm.trans h
    refine wv_iconst (pc' := 150) dX8_readsTask_149 ic_0 rfl ?_
    exact wv_zreturn rfl rfl dX8_readsTask_150 (wd_liv h)
set_option maxRecDepth 100000 in
set_option maxHeartbeats 4000000 in
theorem t_X8_readsTask_b103 (G : wd_G) (d : Nat) (hd : 4 ≤ d) {out : Int32 × wd_Mem} (μ : wd_Mem) (x1 s1 s2 : Int32)  (h : X8_readsTask_b103 μ x1 s1 s2 = some out) : wd_V G (d + 1) RX8 cX8_readsTask 3 (some .boolean) (fun r u => r = some (.inl out.1) ∧ u = out.2) 103 [some (.inr 31), some (.inl x1), none] [.inl s2, .inl s1, .inr 31] μ := by
  unfold X8_readsTask_b103 at h
  obtain ⟨r9, er9, h⟩ := wd_bind_some h
  refine wv_callVi (pc' := 106) (x := r9.1) (ν := r9.2) [.inl s1, .inl s2] ml_X8_101 rc_31 rfl (Nat.le_of_ble_eq_true rfl) dX8_readsTask_103 rfl (c_X8_number G d (Nat.le_trans (Nat.le_of_ble_eq_true rfl) hd)  er9) ?_
  refine wv_if_ne (pc' := 109) (tgt := 111) dX8_readsTask_106 (by decide) rfl (fun c10 => ?_) (fun c10 => ?_)
  · have h := (if_neg c10).symm.trans h
    refine wv_aload_n (pc' := 112) (i := 0) (v := 31) dX8_readsTask_111 rfl rfl rfl ?_
    refine wv_gr (pc' := 115) g_X8_32_31 dX8_readsTask_112 rfl ?_
    refine wv_iload_n (pc' := 116) (i := 1) (v := x1) dX8_readsTask_115 rfl rfl rfl ?_
    refine wv_iconst (pc' := 117) dX8_readsTask_116 ic_2 rfl ?_
    refine wv_iadd (pc' := 118) dX8_readsTask_117 rfl ?_
    refine wv_aload_n (pc' := 119) (i := 0) (v := 31) dX8_readsTask_118 rfl rfl rfl ?_
    refine wv_gi (pc' := 122) g_X8_86_31 dX8_readsTask_119 rfl ?_
    obtain ⟨g11, h⟩ := wd_chk_some h
    refine wv_iast (pc' := 123) sa_39 (wd_in_vp g11) dX8_readsTask_122 rfl ?_
    refine wv_aload_n (pc' := 124) (i := 0) (v := 31) dX8_readsTask_123 rfl rfl rfl ?_
    refine wv_iconst (pc' := 125) dX8_readsTask_124 ic_1 rfl ?_
    refine wv_aload_n (pc' := 126) (i := 0) (v := 31) dX8_readsTask_125 rfl rfl rfl ?_
    refine wv_giE (pc' := 129) (v := (r9.2 31 18)) g_X8_105_31 dX8_readsTask_126 rfl rfl ?_
    refine wv_bipush (pc' := 131) dX8_readsTask_129 bp_9 rfl ?_
    refine wv_icmp_ge (pc' := 134) (tgt := 141) dX8_readsTask_131 (by decide) rfl (fun c12 => ?_) (fun c12 => ?_)
    · have h := (if_pos c12).symm.trans h
      refine wv_bipush (pc' := 143) dX8_readsTask_141 bp_9 rfl ?_
      exact t_X8_readsTask_b143 G d hd (mset r9.2 39 (Int32.toNatClampNeg (x1 + (2 : Int32))) (r9.2 31 15)) x1 (1 : Int32) (9 : Int32)  h
    · have h := (if_neg c12).symm.trans h
      refine wv_aload_n (pc' := 135) (i := 0) (v := 31) dX8_readsTask_134 rfl rfl rfl ?_
      refine wv_giE (pc' := 138) (v := (r9.2 31 18)) g_X8_105_31 dX8_readsTask_135 rfl rfl ?_
      refine wv_goto (pc' := 143) dX8_readsTask_138 (by decide) ?_
      exact t_X8_readsTask_b143 G d hd (mset r9.2 39 (Int32.toNatClampNeg (x1 + (2 : Int32))) (r9.2 31 15)) x1 (1 : Int32) (r9.2 31 18)  h
  · have h := (if_pos c10).symm.trans h
    refine wv_iconst (pc' := 110) dX8_readsTask_109 ic_0 rfl ?_
    exact wv_zreturn rfl rfl dX8_readsTask_110 (wd_liv h)
set_option maxRecDepth 100000 in
set_option maxHeartbeats 4000000 in
theorem t_X8_readsTask_b0 (G : wd_G) (d : Nat) (hd : 4 ≤ d) {out : Int32 × wd_Mem} (μ : wd_Mem)  (h : X8_readsTask_b0 μ = some out) : wd_V G (d + 1) RX8 cX8_readsTask 3 (some .boolean) (fun r u => r = some (.inl out.1) ∧ u = out.2) 0 [some (.inr 31), none, none] [] μ := by
  unfold X8_readsTask_b0 at h
  refine wv_iconst (pc' := 1) dX8_readsTask_0 ic_4 rfl ?_
  refine wv_aload_n (pc' := 2) (i := 0) (v := 31) dX8_readsTask_1 rfl rfl rfl ?_
  refine wv_gi (pc' := 5) g_X8_98_31 dX8_readsTask_2 rfl ?_
  refine wv_imul (pc' := 6) dX8_readsTask_5 rfl ?_
  refine wv_istore_n (pc' := 7) (i := 1) (L' := [some (.inr 31), some (.inl ((4 : Int32) * (μ 31 17))), none]) dX8_readsTask_6 rfl (by decide) rfl rfl ?_
  refine wv_aload_n (pc' := 8) (i := 0) (v := 31) dX8_readsTask_7 rfl rfl rfl ?_
  refine wv_gi (pc' := 11) g_X8_98_31 dX8_readsTask_8 rfl ?_
  refine wv_iconst (pc' := 12) dX8_readsTask_11 ic_5 rfl ?_
  refine wv_icmp_ne (pc' := 15) (tgt := 20) dX8_readsTask_12 (by decide) rfl (fun c1 => ?_) (fun c1 => ?_)
  · have h := (if_neg c1).symm.trans h
    refine wv_aload_n (pc' := 21) (i := 0) (v := 31) dX8_readsTask_20 rfl rfl rfl ?_
    refine wv_iconst (pc' := 22) dX8_readsTask_21 ic_0 rfl ?_
    refine wv_bipush (pc' := 24) dX8_readsTask_22 bp_15 rfl ?_
    obtain ⟨r2, er2, h⟩ := wd_bind_some h
    refine wv_callVi (pc' := 27) (x := r2.1) (ν := r2.2) [.inl (0 : Int32), .inl (15 : Int32)] ml_X8_101 rc_31 rfl (Nat.le_of_ble_eq_true rfl) dX8_readsTask_24 rfl (c_X8_number G d (Nat.le_trans (Nat.le_of_ble_eq_true rfl) hd)  er2) ?_
    refine wv_if_ne (pc' := 30) (tgt := 32) dX8_readsTask_27 (by decide) rfl (fun c3 => ?_) (fun c3 => ?_)
    · have h := (if_neg c3).symm.trans h
      refine wv_aload_n (pc' := 33) (i := 0) (v := 31) dX8_readsTask_32 rfl rfl rfl ?_
      refine wv_gr (pc' := 36) g_X8_32_31 dX8_readsTask_33 rfl ?_
      refine wv_iload_n (pc' := 37) (i := 1) (v := ((4 : Int32) * (μ 31 17))) dX8_readsTask_36 rfl rfl rfl ?_
      refine wv_aload_n (pc' := 38) (i := 0) (v := 31) dX8_readsTask_37 rfl rfl rfl ?_
      refine wv_gi (pc' := 41) g_X8_86_31 dX8_readsTask_38 rfl ?_
      obtain ⟨g4, h⟩ := wd_chk_some h
      refine wv_iast (pc' := 42) sa_39 (wd_in_vp g4) dX8_readsTask_41 rfl ?_
      refine wv_aload_n (pc' := 43) (i := 0) (v := 31) dX8_readsTask_42 rfl rfl rfl ?_
      refine wv_aload_n (pc' := 44) (i := 0) (v := 31) dX8_readsTask_43 rfl rfl rfl ?_
      refine wv_gr (pc' := 47) g_X8_32_31 dX8_readsTask_44 rfl ?_
      refine wv_iload_n (pc' := 48) (i := 1) (v := ((4 : Int32) * (μ 31 17))) dX8_readsTask_47 rfl rfl rfl ?_
      refine wv_iald (pc' := 49) sa_39 (wd_in_vp g4) dX8_readsTask_48 rfl ?_
      refine wv_iconst (pc' := 50) dX8_readsTask_49 ic_1 rfl ?_
      refine wv_iadd (pc' := 51) dX8_readsTask_50 rfl ?_
      refine wv_bipush (pc' := 53) dX8_readsTask_51 bp_16 rfl ?_
      obtain ⟨r5, er5, h⟩ := wd_bind_some h
      refine wv_callVi (pc' := 56) (x := r5.1) (ν := r5.2) [.inl (((mset r2.2 39 (Int32.toNatClampNeg ((4 : Int32) * (μ 31 17))) (r2.2 31 15)) 39 (Int32.toNatClampNeg ((4 : Int32) * (μ 31 17)))) + (1 : Int32)), .inl (16 : Int32)] ml_X8_101 rc_31 rfl (Nat.le_of_ble_eq_true rfl) dX8_readsTask_53 rfl (c_X8_number G d (Nat.le_trans (Nat.le_of_ble_eq_true rfl) hd)  er5) ?_
      refine wv_if_ne (pc' := 59) (tgt := 61) dX8_readsTask_56 (by decide) rfl (fun c6 => ?_) (fun c6 => ?_)
      · have h := (if_neg c6).symm.trans h
        refine wv_aload_n (pc' := 62) (i := 0) (v := 31) dX8_readsTask_61 rfl rfl rfl ?_
        refine wv_gr (pc' := 65) g_X8_32_31 dX8_readsTask_62 rfl ?_
        refine wv_iload_n (pc' := 66) (i := 1) (v := ((4 : Int32) * (μ 31 17))) dX8_readsTask_65 rfl rfl rfl ?_
        refine wv_iconst (pc' := 67) dX8_readsTask_66 ic_1 rfl ?_
        refine wv_iadd (pc' := 68) dX8_readsTask_67 rfl ?_
        refine wv_aload_n (pc' := 69) (i := 0) (v := 31) dX8_readsTask_68 rfl rfl rfl ?_
        refine wv_gi (pc' := 72) g_X8_86_31 dX8_readsTask_69 rfl ?_
        obtain ⟨g7, h⟩ := wd_chk_some h
        refine wv_iast (pc' := 73) sa_39 (wd_in_vp g7) dX8_readsTask_72 rfl ?_
        refine wv_aload_n (pc' := 74) (i := 0) (v := 31) dX8_readsTask_73 rfl rfl rfl ?_
        refine wv_gr (pc' := 77) g_X8_32_31 dX8_readsTask_74 rfl ?_
        refine wv_iload_n (pc' := 78) (i := 1) (v := ((4 : Int32) * (μ 31 17))) dX8_readsTask_77 rfl rfl rfl ?_
        refine wv_iconst (pc' := 79) dX8_readsTask_78 ic_1 rfl ?_
        refine wv_iadd (pc' := 80) dX8_readsTask_79 rfl ?_
        refine wv_iald (pc' := 81) sa_39 (wd_in_vp g7) dX8_readsTask_80 rfl ?_
        refine wv_aload_n (pc' := 82) (i := 0) (v := 31) dX8_readsTask_81 rfl rfl rfl ?_
        refine wv_gr (pc' := 85) g_X8_32_31 dX8_readsTask_82 rfl ?_
        refine wv_iload_n (pc' := 86) (i := 1) (v := ((4 : Int32) * (μ 31 17))) dX8_readsTask_85 rfl rfl rfl ?_
        refine wv_iald (pc' := 87) sa_39 (wd_in_vp g4) dX8_readsTask_86 rfl ?_
        refine wv_isub (pc' := 88) dX8_readsTask_87 rfl ?_
        refine wv_istore_n (pc' := 89) (i := 2) (L' := [some (.inr 31), some (.inl ((4 : Int32) * (μ 31 17))), some (.inl (((mset r5.2 39 (Int32.toNatClampNeg (((4 : Int32) * (μ 31 17)) + (1 : Int32))) (r5.2 31 15)) 39 (Int32.toNatClampNeg (((4 : Int32) * (μ 31 17)) + (1 : Int32)))) - ((mset r5.2 39 (Int32.toNatClampNeg (((4 : Int32) * (μ 31 17)) + (1 : Int32))) (r5.2 31 15)) 39 (Int32.toNatClampNeg ((4 : Int32) * (μ 31 17))))))]) dX8_readsTask_88 rfl (by decide) rfl rfl ?_
        refine wv_aload_n (pc' := 90) (i := 0) (v := 31) dX8_readsTask_89 rfl rfl rfl ?_
        refine wv_iconst (pc' := 91) dX8_readsTask_90 ic_1 rfl ?_
        refine wv_iload_n (pc' := 92) (i := 2) (v := (((mset r5.2 39 (Int32.toNatClampNeg (((4 : Int32) * (μ 31 17)) + (1 : Int32))) (r5.2 31 15)) 39 (Int32.toNatClampNeg (((4 : Int32) * (μ 31 17)) + (1 : Int32)))) - ((mset r5.2 39 (Int32.toNatClampNeg (((4 : Int32) * (μ 31 17)) + (1 : Int32))) (r5.2 31 15)) 39 (Int32.toNatClampNeg ((4 : Int32) * (μ 31 17)))))) dX8_readsTask_91 rfl rfl rfl ?_
        refine wv_bipush (pc' := 94) dX8_readsTask_92 bp_9 rfl ?_
        refine wv_icmp_ge (pc' := 97) (tgt := 101) dX8_readsTask_94 (by decide) rfl (fun c8 => ?_) (fun c8 => ?_)
        · have h := (if_pos c8).symm.trans h
          refine wv_bipush (pc' := 103) dX8_readsTask_101 bp_9 rfl ?_
          refine wv_weak (L' := [some (.inr 31), some (.inl ((4 : Int32) * (μ 31 17))), none]) ⟨rfl, rfl, trivial⟩ ?_
          exact t_X8_readsTask_b103 G d hd (mset r5.2 39 (Int32.toNatClampNeg (((4 : Int32) * (μ 31 17)) + (1 : Int32))) (r5.2 31 15)) ((4 : Int32) * (μ 31 17)) (1 : Int32) (9 : Int32)  h
        · have h := (if_neg c8).symm.trans h
          refine wv_iload_n (pc' := 98) (i := 2) (v := (((mset r5.2 39 (Int32.toNatClampNeg (((4 : Int32) * (μ 31 17)) + (1 : Int32))) (r5.2 31 15)) 39 (Int32.toNatClampNeg (((4 : Int32) * (μ 31 17)) + (1 : Int32)))) - ((mset r5.2 39 (Int32.toNatClampNeg (((4 : Int32) * (μ 31 17)) + (1 : Int32))) (r5.2 31 15)) 39 (Int32.toNatClampNeg ((4 : Int32) * (μ 31 17)))))) dX8_readsTask_97 rfl rfl rfl ?_
          refine wv_goto (pc' := 103) dX8_readsTask_98 (by decide) ?_
          refine wv_weak (L' := [some (.inr 31), some (.inl ((4 : Int32) * (μ 31 17))), none]) ⟨rfl, rfl, trivial⟩ ?_
          exact t_X8_readsTask_b103 G d hd (mset r5.2 39 (Int32.toNatClampNeg (((4 : Int32) * (μ 31 17)) + (1 : Int32))) (r5.2 31 15)) ((4 : Int32) * (μ 31 17)) (1 : Int32) (((mset r5.2 39 (Int32.toNatClampNeg (((4 : Int32) * (μ 31 17)) + (1 : Int32))) (r5.2 31 15)) 39 (Int32.toNatClampNeg (((4 : Int32) * (μ 31 17)) + (1 : Int32)))) - ((mset r5.2 39 (Int32.toNatClampNeg (((4 : Int32) * (μ 31 17)) + (1 : Int32))) (r5.2 31 15)) 39 (Int32.toNatClampNeg ((4 : Int32) * (μ 31 17)))))  h
      · have h := (if_pos c6).symm.trans h
        refine wv_iconst (pc' := 60) dX8_readsTask_59 ic_0 rfl ?_
        exact wv_zreturn rfl rfl dX8_readsTask_60 (wd_liv h)
    · have h := (if_pos c3).symm.trans h
      refine wv_iconst (pc' := 31) dX8_readsTask_30 ic_0 rfl ?_
      exact wv_zreturn rfl rfl dX8_readsTask_31 (wd_liv h)
  · have h := (if_pos c1).symm.trans h
    refine wv_aload_n (pc' := 16) (i := 0) (v := 31) dX8_readsTask_15 rfl rfl rfl ?_
    obtain ⟨r18, er18, h⟩ := wd_bind_some h
    refine wv_callVi (pc' := 19) (x := r18.1) (ν := r18.2) [] ml_X8_95 rc_31 rfl (Nat.le_of_ble_eq_true rfl) dX8_readsTask_16 rfl (c_X8_fails G d (Nat.le_trans (Nat.le_of_ble_eq_true rfl) hd)  er18) ?_
    obtain ⟨g19, h⟩ := wd_chk_some h
    exact wv_zreturn rfl (wd_bit_ok g19) dX8_readsTask_19 (wd_liv h)
set_option maxRecDepth 100000 in
set_option maxHeartbeats 4000000 in
theorem c_X8_readsTask (G : wd_G) (d : Nat) (hd : 5 ≤ d) {μ : wd_Mem} {out : Int32 × wd_Mem}  (h : X8_readsTask μ = some out) : wd_C G d yX8_readsTask [.inr 31] μ (fun r u => r = some (.inl out.1) ∧ u = out.2) := by
  obtain ⟨d, rfl⟩ : ∃ e, d = e + 1 := ⟨d - 1, by omega⟩
  refine wd_enter mc_X8_readsTask (by decide) (by decide +kernel) rfl (Nat.le_of_ble_eq_true rfl) (L0 := [some (.inr 31), none, none]) rfl ?_
  exact t_X8_readsTask_b0 G d (by omega) μ  h
set_option maxRecDepth 100000 in
set_option maxHeartbeats 4000000 in
theorem t_X8_readsItem_b31 (G : wd_G) (d : Nat) (hd : 5 ≤ d) {out : Int32 × wd_Mem} (μ : wd_Mem)  (h : X8_readsItem_b31 μ = some out) : wd_V G (d + 1) RX8 cX8_readsItem 2 (some .boolean) (fun r u => r = some (.inl out.1) ∧ u = out.2) 31 [some (.inr 31), none] [] μ := by
  unfold X8_readsItem_b31 at h
  refine wv_aload_n (pc' := 32) (i := 0) (v := 31) dX8_readsItem_31 rfl rfl rfl ?_
  obtain ⟨r4, er4, h⟩ := wd_bind_some h
  refine wv_callVi (pc' := 35) (x := r4.1) (ν := r4.2) [] ml_X8_95 rc_31 rfl (Nat.le_of_ble_eq_true rfl) dX8_readsItem_32 rfl (c_X8_fails G d (Nat.le_trans (Nat.le_of_ble_eq_true rfl) hd)  er4) ?_
  obtain ⟨g5, h⟩ := wd_chk_some h
  exact wv_zreturn rfl (wd_bit_ok g5) dX8_readsItem_35 (wd_liv h)
set_option maxRecDepth 100000 in
set_option maxHeartbeats 4000000 in
theorem t_X8_readsItem_b0 (G : wd_G) (d : Nat) (hd : 5 ≤ d) {out : Int32 × wd_Mem} (μ : wd_Mem) (x1 : Int32)  (h : X8_readsItem_b0 μ x1 = some out) : wd_V G (d + 1) RX8 cX8_readsItem 2 (some .boolean) (fun r u => r = some (.inl out.1) ∧ u = out.2) 0 [some (.inr 31), some (.inl x1)] [] μ := by
  unfold X8_readsItem_b0 at h
  refine wv_aload_n (pc' := 1) (i := 0) (v := 31) dX8_readsItem_0 rfl rfl rfl ?_
  obtain ⟨r1, er1, h⟩ := wd_bind_some h
  refine wv_callVv (pc' := 4) (ν := r1) [] ml_X8_92 rc_31 rfl (Nat.le_of_ble_eq_true rfl) dX8_readsItem_1 rfl (c_X8_next G d (Nat.le_trans (Nat.le_of_ble_eq_true rfl) hd)  er1) ?_
  refine wv_aload_n (pc' := 5) (i := 0) (v := 31) dX8_readsItem_4 rfl rfl rfl ?_
  refine wv_gi (pc' := 8) g_X8_79_31 dX8_readsItem_5 rfl ?_
  refine wv_bipush (pc' := 10) dX8_readsItem_8 bp_116 rfl ?_
  refine wv_icmp_ne (pc' := 13) (tgt := 18) dX8_readsItem_10 (by decide) rfl (fun c2 => ?_) (fun c2 => ?_)
  · have h := (if_neg c2).symm.trans h
    refine wv_aload_n (pc' := 19) (i := 0) (v := 31) dX8_readsItem_18 rfl rfl rfl ?_
    refine wv_gi (pc' := 22) g_X8_79_31 dX8_readsItem_19 rfl ?_
    refine wv_bipush (pc' := 24) dX8_readsItem_22 bp_99 rfl ?_
    refine wv_icmp_ne (pc' := 27) (tgt := 31) dX8_readsItem_24 (by decide) rfl (fun c3 => ?_) (fun c3 => ?_)
    · have h := (if_neg c3).symm.trans h
      refine wv_weak (L' := [some (.inr 31), none]) ⟨rfl, trivial⟩ ?_
      exact t_X8_readsItem_b31 G d hd r1  h
    · have h := (if_pos c3).symm.trans h
      refine wv_iload_n (pc' := 28) (i := 1) (v := x1) dX8_readsItem_27 rfl rfl rfl ?_
      refine wv_if_ne (pc' := 31) (tgt := 36) dX8_readsItem_28 (by decide) rfl (fun c6 => ?_) (fun c6 => ?_)
      · have h := (if_neg c6).symm.trans h
        refine wv_aload_n (pc' := 37) (i := 0) (v := 31) dX8_readsItem_36 rfl rfl rfl ?_
        refine wv_iconst (pc' := 38) dX8_readsItem_37 ic_1 rfl ?_
        refine wv_bipush (pc' := 40) dX8_readsItem_38 bp_20 rfl ?_
        obtain ⟨r7, er7, h⟩ := wd_bind_some h
        refine wv_callVi (pc' := 43) (x := r7.1) (ν := r7.2) [.inl (1 : Int32), .inl (20 : Int32)] ml_X8_101 rc_31 rfl (Nat.le_of_ble_eq_true rfl) dX8_readsItem_40 rfl (c_X8_number G d (Nat.le_trans (Nat.le_of_ble_eq_true rfl) hd)  er7) ?_
        refine wv_if_ne (pc' := 46) (tgt := 48) dX8_readsItem_43 (by decide) rfl (fun c8 => ?_) (fun c8 => ?_)
        · have h := (if_neg c8).symm.trans h
          refine wv_aload_n (pc' := 49) (i := 0) (v := 31) dX8_readsItem_48 rfl rfl rfl ?_
          refine wv_aload_n (pc' := 50) (i := 0) (v := 31) dX8_readsItem_49 rfl rfl rfl ?_
          refine wv_gi (pc' := 53) g_X8_86_31 dX8_readsItem_50 rfl ?_
          refine wv_pi (pc' := 56) p_X8_105_31 dX8_readsItem_53 rfl ?_
          refine wv_aload_n (pc' := 57) (i := 0) (v := 31) dX8_readsItem_56 rfl rfl rfl ?_
          obtain ⟨r9, er9, h⟩ := wd_bind_some h
          refine wv_callVi (pc' := 60) (x := r9.1) (ν := r9.2) [] ml_X8_108 rc_31 rfl (Nat.le_of_ble_eq_true rfl) dX8_readsItem_57 rfl (c_X8_ends G d (Nat.le_trans (Nat.le_of_ble_eq_true rfl) hd)  er9) ?_
          obtain ⟨g10, h⟩ := wd_chk_some h
          exact wv_zreturn rfl (wd_bit_ok g10) dX8_readsItem_60 (wd_liv h)
        · have h := (if_pos c8).symm.trans h
          refine wv_iconst (pc' := 47) dX8_readsItem_46 ic_0 rfl ?_
          exact wv_zreturn rfl rfl dX8_readsItem_47 (wd_liv h)
      · have h := (if_pos c6).symm.trans h
        refine wv_weak (L' := [some (.inr 31), none]) ⟨rfl, trivial⟩ ?_
        exact t_X8_readsItem_b31 G d hd r1  h
  · have h := (if_pos c2).symm.trans h
    refine wv_aload_n (pc' := 14) (i := 0) (v := 31) dX8_readsItem_13 rfl rfl rfl ?_
    obtain ⟨r11, er11, h⟩ := wd_bind_some h
    refine wv_callVi (pc' := 17) (x := r11.1) (ν := r11.2) [] ml_X8_111 rc_31 rfl (Nat.le_of_ble_eq_true rfl) dX8_readsItem_14 rfl (c_X8_readsTask G d (Nat.le_trans (Nat.le_of_ble_eq_true rfl) hd)  er11) ?_
    obtain ⟨g12, h⟩ := wd_chk_some h
    exact wv_zreturn rfl (wd_bit_ok g12) dX8_readsItem_17 (wd_liv h)
set_option maxRecDepth 100000 in
set_option maxHeartbeats 4000000 in
theorem c_X8_readsItem (G : wd_G) (d : Nat) (hd : 6 ≤ d) {μ : wd_Mem} {x1 : Int32} {out : Int32 × wd_Mem}  (h : X8_readsItem μ x1 = some out) : wd_C G d yX8_readsItem [.inr 31, .inl x1] μ (fun r u => r = some (.inl out.1) ∧ u = out.2) := by
  obtain ⟨d, rfl⟩ : ∃ e, d = e + 1 := ⟨d - 1, by omega⟩
  refine wd_enter mc_X8_readsItem (by decide) (by decide +kernel) rfl (Nat.le_of_ble_eq_true rfl) (L0 := [some (.inr 31), some (.inl x1)]) rfl ?_
  exact t_X8_readsItem_b0 G d (by omega) μ x1 h
set_option maxRecDepth 100000 in
set_option maxHeartbeats 4000000 in
theorem t_X8_desk_b42 (G : wd_G) (d : Nat) (hd : 6 ≤ d) {out : Int32 × wd_Mem} (rec : Int32 → wd_Mem → Option (Int32 × wd_Mem)) (k : Int32 → wd_Mem → Option (Int32 × wd_Mem)) (μ : wd_Mem) (x1 s1 : Int32) (hrec : ∀ (x1 : Int32) (μ : wd_Mem), rec x1 μ = some out → wd_V G (d + 1) RX8 cX8_desk 3 (some .int) (fun r u => r = some (.inl out.1) ∧ u = out.2) 21 [some (.inr 31), some (.inl x1), none] [] μ) (hk : ∀ (x1 : Int32) (μ : wd_Mem), k x1 μ = some out → wd_V G (d + 1) RX8 cX8_desk 3 (some .int) (fun r u => r = some (.inl out.1) ∧ u = out.2) 66 [some (.inr 31), some (.inl x1), none] [] μ) (h : X8_desk_b42 rec k μ x1 s1 = some out) : wd_V G (d + 1) RX8 cX8_desk 3 (some .int) (fun r u => r = some (.inl out.1) ∧ u = out.2) 42 [some (.inr 31), some (.inl x1), none] [.inl s1, .inr 31] μ := by
  unfold X8_desk_b42 at h
  obtain ⟨r4, er4, h⟩ := wd_bind_some h
  refine wv_callVi (pc' := 45) (x := r4.1) (ν := r4.2) [.inl s1] ml_X8_114 rc_31 rfl (Nat.le_of_ble_eq_true rfl) dX8_desk_42 rfl (c_X8_readsItem G d (Nat.le_trans (Nat.le_of_ble_eq_true rfl) hd)  er4) ?_
  refine wv_if_ne (pc' := 48) (tgt := 56) dX8_desk_45 (by decide) rfl (fun c5 => ?_) (fun c5 => ?_)
  · have h := (if_neg c5).symm.trans h
    refine wv_inc (pc' := 59) (x := x1) (L' := [some (.inr 31), some (.inl (x1 + (1 : Int32))), none]) dX8_desk_56 ic_1 rfl (by decide) rfl rfl ?_
    refine wv_aload_n (pc' := 60) (i := 0) (v := 31) dX8_desk_59 rfl rfl rfl ?_
    obtain ⟨r6, er6, h⟩ := wd_bind_some h
    refine wv_callVv (pc' := 63) (ν := r6) [] ml_X8_73 rc_31 rfl (Nat.le_of_ble_eq_true rfl) dX8_desk_60 rfl (c_X8_blanks G d (Nat.le_trans (Nat.le_of_ble_eq_true rfl) hd)  er6) ?_
    refine wv_goto (pc' := 21) dX8_desk_63 (by decide) ?_
    exact hrec _ _ h
  · have h := (if_pos c5).symm.trans h
    refine wv_bipush (pc' := 50) dX8_desk_48 bp_m10 rfl ?_
    refine wv_aload_n (pc' := 51) (i := 0) (v := 31) dX8_desk_50 rfl rfl rfl ?_
    refine wv_gi (pc' := 54) g_X8_89_31 dX8_desk_51 rfl ?_
    refine wv_isub (pc' := 55) dX8_desk_54 rfl ?_
    exact wv_ireturn rfl dX8_desk_55 (wd_liv h)
set_option maxRecDepth 100000 in
set_option maxHeartbeats 4000000 in
theorem t_X8_desk_c21 (G : wd_G) (d : Nat) (hd : 6 ≤ d) {out : Int32 × wd_Mem} (rec : Int32 → wd_Mem → Option (Int32 × wd_Mem)) (k : Int32 → wd_Mem → Option (Int32 × wd_Mem)) (μ : wd_Mem) (x1 : Int32) (hrec : ∀ (x1 : Int32) (μ : wd_Mem), rec x1 μ = some out → wd_V G (d + 1) RX8 cX8_desk 3 (some .int) (fun r u => r = some (.inl out.1) ∧ u = out.2) 21 [some (.inr 31), some (.inl x1), none] [] μ) (hk : ∀ (x1 : Int32) (μ : wd_Mem), k x1 μ = some out → wd_V G (d + 1) RX8 cX8_desk 3 (some .int) (fun r u => r = some (.inl out.1) ∧ u = out.2) 66 [some (.inr 31), some (.inl x1), none] [] μ) (h : X8_desk_c21 rec k μ x1 = some out) : wd_V G (d + 1) RX8 cX8_desk 3 (some .int) (fun r u => r = some (.inl out.1) ∧ u = out.2) 21 [some (.inr 31), some (.inl x1), none] [] μ := by
  unfold X8_desk_c21 at h
  refine wv_aload_n (pc' := 22) (i := 0) (v := 31) dX8_desk_21 rfl rfl rfl ?_
  refine wv_gi (pc' := 25) g_X8_70_31 dX8_desk_22 rfl ?_
  refine wv_aload_n (pc' := 26) (i := 0) (v := 31) dX8_desk_25 rfl rfl rfl ?_
  refine wv_gi (pc' := 29) g_X8_67_31 dX8_desk_26 rfl ?_
  refine wv_icmp_ge (pc' := 32) (tgt := 66) dX8_desk_29 (by decide) rfl (fun c2 => ?_) (fun c2 => ?_)
  · have h := (if_pos c2).symm.trans h
    exact hk _ _ h
  · have h := (if_neg c2).symm.trans h
    refine wv_aload_n (pc' := 33) (i := 0) (v := 31) dX8_desk_32 rfl rfl rfl ?_
    refine wv_iload_n (pc' := 34) (i := 1) (v := x1) dX8_desk_33 rfl rfl rfl ?_
    refine wv_if_ne (pc' := 37) (tgt := 41) dX8_desk_34 (by decide) rfl (fun c3 => ?_) (fun c3 => ?_)
    · have h := (if_neg c3).symm.trans h
      refine wv_iconst (pc' := 42) dX8_desk_41 ic_0 rfl ?_
      exact t_X8_desk_b42 G d hd rec k μ x1 (0 : Int32) hrec hk h
    · have h := (if_pos c3).symm.trans h
      refine wv_iconst (pc' := 38) dX8_desk_37 ic_1 rfl ?_
      refine wv_goto (pc' := 42) dX8_desk_38 (by decide) ?_
      exact t_X8_desk_b42 G d hd rec k μ x1 (1 : Int32) hrec hk h
set_option maxRecDepth 100000 in
set_option maxHeartbeats 4000000 in
theorem t_X8_desk_l21 (G : wd_G) (d : Nat) (hd : 6 ≤ d) {out : Int32 × wd_Mem} (k : Int32 → wd_Mem → Option (Int32 × wd_Mem)) (hk : ∀ (x1 : Int32) (μ : wd_Mem), k x1 μ = some out → wd_V G (d + 1) RX8 cX8_desk 3 (some .int) (fun r u => r = some (.inl out.1) ∧ u = out.2) 66 [some (.inr 31), some (.inl x1), none] [] μ) : ∀ (n : Nat) (x1 : Int32) (μ : wd_Mem), X8_desk_l21 k n x1 μ = some out → wd_V G (d + 1) RX8 cX8_desk 3 (some .int) (fun r u => r = some (.inl out.1) ∧ u = out.2) 21 [some (.inr 31), some (.inl x1), none] [] μ := by
  intro n
  induction n with
  | zero => intro x1 μ h; exact absurd h (by unfold X8_desk_l21; simp)
  | succ n ih =>
    intro x1 μ h
    exact t_X8_desk_c21 G d hd (X8_desk_l21 k n) k μ x1  (fun x1 μ h => ih x1 μ h) hk h
set_option maxRecDepth 100000 in
set_option maxHeartbeats 4000000 in
theorem t_X8_desk_b207 (G : wd_G) (d : Nat) (hd : 6 ≤ d) {out : Int32 × wd_Mem} (rec : Int32 → wd_Mem → Option (Int32 × wd_Mem)) (k : wd_Mem → Option (Int32 × wd_Mem)) (μ : wd_Mem) (x1 x2 s1 s2 : Int32) (hrec : ∀ (x2 : Int32) (μ : wd_Mem), rec x2 μ = some out → wd_V G (d + 1) RX8 cX8_desk 3 (some .int) (fun r u => r = some (.inl out.1) ∧ u = out.2) 89 [some (.inr 31), some (.inl x1), some (.inl x2)] [] μ) (hk : ∀  (μ : wd_Mem), k μ = some out → wd_V G (d + 1) RX8 cX8_desk 3 (some .int) (fun r u => r = some (.inl out.1) ∧ u = out.2) 214 [some (.inr 31), some (.inl x1), none] [] μ) (h : X8_desk_b207 rec k μ x1 x2 s1 s2 = some out) : wd_V G (d + 1) RX8 cX8_desk 3 (some .int) (fun r u => r = some (.inl out.1) ∧ u = out.2) 207 [some (.inr 31), some (.inl x1), some (.inl x2)] [.inl s2, .inl s1, .inr 33] μ := by
  unfold X8_desk_b207 at h
  obtain ⟨g15, h⟩ := wd_chk_some h
  refine wv_iast (pc' := 208) sa_33 (wd_in_vp g15) dX8_desk_207 rfl ?_
  refine wv_inc (pc' := 211) (x := x2) (L' := [some (.inr 31), some (.inl x1), some (.inl (x2 + (1 : Int32)))]) dX8_desk_208 ic_1 rfl (by decide) rfl rfl ?_
  refine wv_goto (pc' := 89) dX8_desk_211 (by decide) ?_
  exact hrec _ _ h
set_option maxRecDepth 100000 in
set_option maxHeartbeats 4000000 in
theorem t_X8_desk_b179 (G : wd_G) (d : Nat) (hd : 6 ≤ d) {out : Int32 × wd_Mem} (rec : Int32 → wd_Mem → Option (Int32 × wd_Mem)) (k : wd_Mem → Option (Int32 × wd_Mem)) (μ : wd_Mem) (x1 x2 s1 s2 : Int32) (hrec : ∀ (x2 : Int32) (μ : wd_Mem), rec x2 μ = some out → wd_V G (d + 1) RX8 cX8_desk 3 (some .int) (fun r u => r = some (.inl out.1) ∧ u = out.2) 89 [some (.inr 31), some (.inl x1), some (.inl x2)] [] μ) (hk : ∀  (μ : wd_Mem), k μ = some out → wd_V G (d + 1) RX8 cX8_desk 3 (some .int) (fun r u => r = some (.inl out.1) ∧ u = out.2) 214 [some (.inr 31), some (.inl x1), none] [] μ) (h : X8_desk_b179 rec k μ x1 x2 s1 s2 = some out) : wd_V G (d + 1) RX8 cX8_desk 3 (some .int) (fun r u => r = some (.inl out.1) ∧ u = out.2) 179 [some (.inr 31), some (.inl x1), some (.inl x2)] [.inl s2, .inl s1, .inr 32] μ := by
  unfold X8_desk_b179 at h
  obtain ⟨g13, h⟩ := wd_chk_some h
  refine wv_iast (pc' := 180) sa_32 (wd_in_vp g13) dX8_desk_179 rfl ?_
  refine wv_aload_n (pc' := 181) (i := 0) (v := 31) dX8_desk_180 rfl rfl rfl ?_
  refine wv_gr (pc' := 184) g_X8_13_31 dX8_desk_181 rfl ?_
  refine wv_iload_n (pc' := 185) (i := 2) (v := x2) dX8_desk_184 rfl rfl rfl ?_
  refine wv_iload_n (pc' := 186) (i := 2) (v := x2) dX8_desk_185 rfl rfl rfl ?_
  refine wv_aload_n (pc' := 187) (i := 0) (v := 31) dX8_desk_186 rfl rfl rfl ?_
  refine wv_giE (pc' := 190) (v := (μ 31 0)) g_X8_118_31 dX8_desk_187 rfl rfl ?_
  refine wv_icmp_ge (pc' := 193) (tgt := 206) dX8_desk_190 (by decide) rfl (fun c14 => ?_) (fun c14 => ?_)
  · have h := (if_pos c14).symm.trans h
    refine wv_iconst (pc' := 207) dX8_desk_206 ic_0 rfl ?_
    exact t_X8_desk_b207 G d hd rec k (mset μ 32 (Int32.toNatClampNeg s1) s2) x1 x2 x2 (0 : Int32) hrec hk h
  · have h := (if_neg c14).symm.trans h
    refine wv_aload_n (pc' := 194) (i := 0) (v := 31) dX8_desk_193 rfl rfl rfl ?_
    refine wv_gr (pc' := 197) g_X8_32_31 dX8_desk_194 rfl ?_
    refine wv_iconst (pc' := 198) dX8_desk_197 ic_4 rfl ?_
    refine wv_iload_n (pc' := 199) (i := 2) (v := x2) dX8_desk_198 rfl rfl rfl ?_
    refine wv_imul (pc' := 200) dX8_desk_199 rfl ?_
    refine wv_iconst (pc' := 201) dX8_desk_200 ic_3 rfl ?_
    refine wv_iadd (pc' := 202) dX8_desk_201 rfl ?_
    obtain ⟨g16, h⟩ := wd_chk_some h
    refine wv_ialdE (pc' := 203) (v := (μ 39 (Int32.toNatClampNeg (((4 : Int32) * x2) + (3 : Int32))))) sa_39 (wd_in_vp g16) dX8_desk_202 rfl rfl ?_
    refine wv_goto (pc' := 207) dX8_desk_203 (by decide) ?_
    exact t_X8_desk_b207 G d hd rec k (mset μ 32 (Int32.toNatClampNeg s1) s2) x1 x2 x2 (μ 39 (Int32.toNatClampNeg (((4 : Int32) * x2) + (3 : Int32)))) hrec hk h
set_option maxRecDepth 100000 in
set_option maxHeartbeats 4000000 in
theorem t_X8_desk_b151 (G : wd_G) (d : Nat) (hd : 6 ≤ d) {out : Int32 × wd_Mem} (rec : Int32 → wd_Mem → Option (Int32 × wd_Mem)) (k : wd_Mem → Option (Int32 × wd_Mem)) (μ : wd_Mem) (x1 x2 s1 s2 : Int32) (hrec : ∀ (x2 : Int32) (μ : wd_Mem), rec x2 μ = some out → wd_V G (d + 1) RX8 cX8_desk 3 (some .int) (fun r u => r = some (.inl out.1) ∧ u = out.2) 89 [some (.inr 31), some (.inl x1), some (.inl x2)] [] μ) (hk : ∀  (μ : wd_Mem), k μ = some out → wd_V G (d + 1) RX8 cX8_desk 3 (some .int) (fun r u => r = some (.inl out.1) ∧ u = out.2) 214 [some (.inr 31), some (.inl x1), none] [] μ) (h : X8_desk_b151 rec k μ x1 x2 s1 s2 = some out) : wd_V G (d + 1) RX8 cX8_desk 3 (some .int) (fun r u => r = some (.inl out.1) ∧ u = out.2) 151 [some (.inr 31), some (.inl x1), some (.inl x2)] [.inl s2, .inl s1, .inr 34] μ := by
  unfold X8_desk_b151 at h
  obtain ⟨g11, h⟩ := wd_chk_some h
  refine wv_iast (pc' := 152) sa_34 (wd_in_vp g11) dX8_desk_151 rfl ?_
  refine wv_aload_n (pc' := 153) (i := 0) (v := 31) dX8_desk_152 rfl rfl rfl ?_
  refine wv_gr (pc' := 156) g_X8_7_31 dX8_desk_153 rfl ?_
  refine wv_iload_n (pc' := 157) (i := 2) (v := x2) dX8_desk_156 rfl rfl rfl ?_
  refine wv_iload_n (pc' := 158) (i := 2) (v := x2) dX8_desk_157 rfl rfl rfl ?_
  refine wv_aload_n (pc' := 159) (i := 0) (v := 31) dX8_desk_158 rfl rfl rfl ?_
  refine wv_giE (pc' := 162) (v := (μ 31 0)) g_X8_118_31 dX8_desk_159 rfl rfl ?_
  refine wv_icmp_ge (pc' := 165) (tgt := 178) dX8_desk_162 (by decide) rfl (fun c12 => ?_) (fun c12 => ?_)
  · have h := (if_pos c12).symm.trans h
    refine wv_iconst (pc' := 179) dX8_desk_178 ic_0 rfl ?_
    exact t_X8_desk_b179 G d hd rec k (mset μ 34 (Int32.toNatClampNeg s1) s2) x1 x2 x2 (0 : Int32) hrec hk h
  · have h := (if_neg c12).symm.trans h
    refine wv_aload_n (pc' := 166) (i := 0) (v := 31) dX8_desk_165 rfl rfl rfl ?_
    refine wv_gr (pc' := 169) g_X8_32_31 dX8_desk_166 rfl ?_
    refine wv_iconst (pc' := 170) dX8_desk_169 ic_4 rfl ?_
    refine wv_iload_n (pc' := 171) (i := 2) (v := x2) dX8_desk_170 rfl rfl rfl ?_
    refine wv_imul (pc' := 172) dX8_desk_171 rfl ?_
    refine wv_iconst (pc' := 173) dX8_desk_172 ic_2 rfl ?_
    refine wv_iadd (pc' := 174) dX8_desk_173 rfl ?_
    obtain ⟨g17, h⟩ := wd_chk_some h
    refine wv_ialdE (pc' := 175) (v := (μ 39 (Int32.toNatClampNeg (((4 : Int32) * x2) + (2 : Int32))))) sa_39 (wd_in_vp g17) dX8_desk_174 rfl rfl ?_
    refine wv_goto (pc' := 179) dX8_desk_175 (by decide) ?_
    exact t_X8_desk_b179 G d hd rec k (mset μ 34 (Int32.toNatClampNeg s1) s2) x1 x2 x2 (μ 39 (Int32.toNatClampNeg (((4 : Int32) * x2) + (2 : Int32)))) hrec hk h
set_option maxRecDepth 100000 in
set_option maxHeartbeats 4000000 in
theorem t_X8_desk_b121 (G : wd_G) (d : Nat) (hd : 6 ≤ d) {out : Int32 × wd_Mem} (rec : Int32 → wd_Mem → Option (Int32 × wd_Mem)) (k : wd_Mem → Option (Int32 × wd_Mem)) (μ : wd_Mem) (x1 x2 s1 s2 : Int32) (hrec : ∀ (x2 : Int32) (μ : wd_Mem), rec x2 μ = some out → wd_V G (d + 1) RX8 cX8_desk 3 (some .int) (fun r u => r = some (.inl out.1) ∧ u = out.2) 89 [some (.inr 31), some (.inl x1), some (.inl x2)] [] μ) (hk : ∀  (μ : wd_Mem), k μ = some out → wd_V G (d + 1) RX8 cX8_desk 3 (some .int) (fun r u => r = some (.inl out.1) ∧ u = out.2) 214 [some (.inr 31), some (.inl x1), none] [] μ) (h : X8_desk_b121 rec k μ x1 x2 s1 s2 = some out) : wd_V G (d + 1) RX8 cX8_desk 3 (some .int) (fun r u => r = some (.inl out.1) ∧ u = out.2) 121 [some (.inr 31), some (.inl x1), some (.inl x2)] [.inl s2, .inl s1, .inr 34] μ := by
  unfold X8_desk_b121 at h
  obtain ⟨g9, h⟩ := wd_chk_some h
  refine wv_iast (pc' := 122) sa_34 (wd_in_vp g9) dX8_desk_121 rfl ?_
  refine wv_aload_n (pc' := 123) (i := 0) (v := 31) dX8_desk_122 rfl rfl rfl ?_
  refine wv_gr (pc' := 126) g_X8_16_31 dX8_desk_123 rfl ?_
  refine wv_iconst (pc' := 127) dX8_desk_126 ic_5 rfl ?_
  refine wv_iload_n (pc' := 128) (i := 2) (v := x2) dX8_desk_127 rfl rfl rfl ?_
  refine wv_iadd (pc' := 129) dX8_desk_128 rfl ?_
  refine wv_iload_n (pc' := 130) (i := 2) (v := x2) dX8_desk_129 rfl rfl rfl ?_
  refine wv_aload_n (pc' := 131) (i := 0) (v := 31) dX8_desk_130 rfl rfl rfl ?_
  refine wv_giE (pc' := 134) (v := (μ 31 0)) g_X8_118_31 dX8_desk_131 rfl rfl ?_
  refine wv_icmp_ge (pc' := 137) (tgt := 150) dX8_desk_134 (by decide) rfl (fun c10 => ?_) (fun c10 => ?_)
  · have h := (if_pos c10).symm.trans h
    refine wv_iconst (pc' := 151) dX8_desk_150 ic_0 rfl ?_
    exact t_X8_desk_b151 G d hd rec k (mset μ 34 (Int32.toNatClampNeg s1) s2) x1 x2 ((5 : Int32) + x2) (0 : Int32) hrec hk h
  · have h := (if_neg c10).symm.trans h
    refine wv_aload_n (pc' := 138) (i := 0) (v := 31) dX8_desk_137 rfl rfl rfl ?_
    refine wv_gr (pc' := 141) g_X8_32_31 dX8_desk_138 rfl ?_
    refine wv_iconst (pc' := 142) dX8_desk_141 ic_4 rfl ?_
    refine wv_iload_n (pc' := 143) (i := 2) (v := x2) dX8_desk_142 rfl rfl rfl ?_
    refine wv_imul (pc' := 144) dX8_desk_143 rfl ?_
    refine wv_iconst (pc' := 145) dX8_desk_144 ic_1 rfl ?_
    refine wv_iadd (pc' := 146) dX8_desk_145 rfl ?_
    obtain ⟨g18, h⟩ := wd_chk_some h
    refine wv_ialdE (pc' := 147) (v := (μ 39 (Int32.toNatClampNeg (((4 : Int32) * x2) + (1 : Int32))))) sa_39 (wd_in_vp g18) dX8_desk_146 rfl rfl ?_
    refine wv_goto (pc' := 151) dX8_desk_147 (by decide) ?_
    exact t_X8_desk_b151 G d hd rec k (mset μ 34 (Int32.toNatClampNeg s1) s2) x1 x2 ((5 : Int32) + x2) (μ 39 (Int32.toNatClampNeg (((4 : Int32) * x2) + (1 : Int32)))) hrec hk h
set_option maxRecDepth 100000 in
set_option maxHeartbeats 4000000 in
theorem t_X8_desk_c89 (G : wd_G) (d : Nat) (hd : 6 ≤ d) {out : Int32 × wd_Mem} (rec : Int32 → wd_Mem → Option (Int32 × wd_Mem)) (k : wd_Mem → Option (Int32 × wd_Mem)) (μ : wd_Mem) (x1 x2 : Int32) (hrec : ∀ (x2 : Int32) (μ : wd_Mem), rec x2 μ = some out → wd_V G (d + 1) RX8 cX8_desk 3 (some .int) (fun r u => r = some (.inl out.1) ∧ u = out.2) 89 [some (.inr 31), some (.inl x1), some (.inl x2)] [] μ) (hk : ∀  (μ : wd_Mem), k μ = some out → wd_V G (d + 1) RX8 cX8_desk 3 (some .int) (fun r u => r = some (.inl out.1) ∧ u = out.2) 214 [some (.inr 31), some (.inl x1), none] [] μ) (h : X8_desk_c89 rec k μ x1 x2 = some out) : wd_V G (d + 1) RX8 cX8_desk 3 (some .int) (fun r u => r = some (.inl out.1) ∧ u = out.2) 89 [some (.inr 31), some (.inl x1), some (.inl x2)] [] μ := by
  unfold X8_desk_c89 at h
  refine wv_iload_n (pc' := 90) (i := 2) (v := x2) dX8_desk_89 rfl rfl rfl ?_
  refine wv_iconst (pc' := 91) dX8_desk_90 ic_5 rfl ?_
  refine wv_icmp_ge (pc' := 94) (tgt := 214) dX8_desk_91 (by decide) rfl (fun c7 => ?_) (fun c7 => ?_)
  · have h := (if_pos c7).symm.trans h
    refine wv_weak (L' := [some (.inr 31), some (.inl x1), none]) ⟨rfl, rfl, trivial⟩ ?_
    exact hk _ h
  · have h := (if_neg c7).symm.trans h
    refine wv_aload_n (pc' := 95) (i := 0) (v := 31) dX8_desk_94 rfl rfl rfl ?_
    refine wv_gr (pc' := 98) g_X8_16_31 dX8_desk_95 rfl ?_
    refine wv_iconst (pc' := 99) dX8_desk_98 ic_0 rfl ?_
    refine wv_iload_n (pc' := 100) (i := 2) (v := x2) dX8_desk_99 rfl rfl rfl ?_
    refine wv_iadd (pc' := 101) dX8_desk_100 rfl ?_
    refine wv_iload_n (pc' := 102) (i := 2) (v := x2) dX8_desk_101 rfl rfl rfl ?_
    refine wv_aload_n (pc' := 103) (i := 0) (v := 31) dX8_desk_102 rfl rfl rfl ?_
    refine wv_gi (pc' := 106) g_X8_118_31 dX8_desk_103 rfl ?_
    refine wv_icmp_ge (pc' := 109) (tgt := 120) dX8_desk_106 (by decide) rfl (fun c8 => ?_) (fun c8 => ?_)
    · have h := (if_pos c8).symm.trans h
      refine wv_iconst (pc' := 121) dX8_desk_120 ic_0 rfl ?_
      exact t_X8_desk_b121 G d hd rec k μ x1 x2 ((0 : Int32) + x2) (0 : Int32) hrec hk h
    · have h := (if_neg c8).symm.trans h
      refine wv_aload_n (pc' := 110) (i := 0) (v := 31) dX8_desk_109 rfl rfl rfl ?_
      refine wv_gr (pc' := 113) g_X8_32_31 dX8_desk_110 rfl ?_
      refine wv_iconst (pc' := 114) dX8_desk_113 ic_4 rfl ?_
      refine wv_iload_n (pc' := 115) (i := 2) (v := x2) dX8_desk_114 rfl rfl rfl ?_
      refine wv_imul (pc' := 116) dX8_desk_115 rfl ?_
      obtain ⟨g19, h⟩ := wd_chk_some h
      refine wv_iald (pc' := 117) sa_39 (wd_in_vp g19) dX8_desk_116 rfl ?_
      refine wv_goto (pc' := 121) dX8_desk_117 (by decide) ?_
      exact t_X8_desk_b121 G d hd rec k μ x1 x2 ((0 : Int32) + x2) (μ 39 (Int32.toNatClampNeg ((4 : Int32) * x2))) hrec hk h
set_option maxRecDepth 100000 in
set_option maxHeartbeats 4000000 in
theorem t_X8_desk_l89 (G : wd_G) (d : Nat) (hd : 6 ≤ d) {out : Int32 × wd_Mem} (k : wd_Mem → Option (Int32 × wd_Mem)) (x1 : Int32) (hk : ∀  (μ : wd_Mem), k μ = some out → wd_V G (d + 1) RX8 cX8_desk 3 (some .int) (fun r u => r = some (.inl out.1) ∧ u = out.2) 214 [some (.inr 31), some (.inl x1), none] [] μ) : ∀ (n : Nat) (x2 : Int32) (μ : wd_Mem), X8_desk_l89 k x1 n x2 μ = some out → wd_V G (d + 1) RX8 cX8_desk 3 (some .int) (fun r u => r = some (.inl out.1) ∧ u = out.2) 89 [some (.inr 31), some (.inl x1), some (.inl x2)] [] μ := by
  intro n
  induction n with
  | zero => intro x2 μ h; exact absurd h (by unfold X8_desk_l89; simp)
  | succ n ih =>
    intro x2 μ h
    exact t_X8_desk_c89 G d hd (X8_desk_l89 k x1 n) k μ x1 x2  (fun x2 μ h => ih x2 μ h) hk h
set_option maxRecDepth 100000 in
set_option maxHeartbeats 4000000 in
theorem t_X8_desk_c217 (G : wd_G) (d : Nat) (hd : 6 ≤ d) {out : Int32 × wd_Mem} (rec : Int32 → wd_Mem → Option (Int32 × wd_Mem)) (k : wd_Mem → Option (Int32 × wd_Mem)) (μ : wd_Mem) (x1 x2 : Int32) (hrec : ∀ (x2 : Int32) (μ : wd_Mem), rec x2 μ = some out → wd_V G (d + 1) RX8 cX8_desk 3 (some .int) (fun r u => r = some (.inl out.1) ∧ u = out.2) 217 [some (.inr 31), some (.inl x1), some (.inl x2)] [] μ) (hk : ∀  (μ : wd_Mem), k μ = some out → wd_V G (d + 1) RX8 cX8_desk 3 (some .int) (fun r u => r = some (.inl out.1) ∧ u = out.2) 248 [some (.inr 31), some (.inl x1), none] [] μ) (h : X8_desk_c217 rec k μ x1 x2 = some out) : wd_V G (d + 1) RX8 cX8_desk 3 (some .int) (fun r u => r = some (.inl out.1) ∧ u = out.2) 217 [some (.inr 31), some (.inl x1), some (.inl x2)] [] μ := by
  unfold X8_desk_c217 at h
  refine wv_iload_n (pc' := 218) (i := 2) (v := x2) dX8_desk_217 rfl rfl rfl ?_
  refine wv_bipush (pc' := 220) dX8_desk_218 bp_20 rfl ?_
  refine wv_icmp_ge (pc' := 223) (tgt := 248) dX8_desk_220 (by decide) rfl (fun c20 => ?_) (fun c20 => ?_)
  · have h := (if_pos c20).symm.trans h
    refine wv_weak (L' := [some (.inr 31), some (.inl x1), none]) ⟨rfl, rfl, trivial⟩ ?_
    exact hk _ h
  · have h := (if_neg c20).symm.trans h
    refine wv_aload_n (pc' := 224) (i := 0) (v := 31) dX8_desk_223 rfl rfl rfl ?_
    refine wv_gr (pc' := 227) g_X8_16_31 dX8_desk_224 rfl ?_
    refine wv_iload_n (pc' := 228) (i := 2) (v := x2) dX8_desk_227 rfl rfl rfl ?_
    refine wv_bipush (pc' := 230) dX8_desk_228 bp_m9 rfl ?_
    obtain ⟨g21, h⟩ := wd_chk_some h
    refine wv_iast (pc' := 231) sa_34 (wd_in_vp g21) dX8_desk_230 rfl ?_
    refine wv_aload_n (pc' := 232) (i := 0) (v := 31) dX8_desk_231 rfl rfl rfl ?_
    refine wv_gr (pc' := 235) g_X8_16_31 dX8_desk_232 rfl ?_
    refine wv_iload_n (pc' := 236) (i := 2) (v := x2) dX8_desk_235 rfl rfl rfl ?_
    refine wv_bipush (pc' := 238) dX8_desk_236 bp_10 rfl ?_
    refine wv_iadd (pc' := 239) dX8_desk_238 rfl ?_
    refine wv_bipush (pc' := 241) dX8_desk_239 bp_m9 rfl ?_
    obtain ⟨g22, h⟩ := wd_chk_some h
    refine wv_iast (pc' := 242) sa_34 (wd_in_vp g22) dX8_desk_241 rfl ?_
    refine wv_inc (pc' := 245) (x := x2) (L' := [some (.inr 31), some (.inl x1), some (.inl (x2 + (1 : Int32)))]) dX8_desk_242 ic_1 rfl (by decide) rfl rfl ?_
    refine wv_goto (pc' := 217) dX8_desk_245 (by decide) ?_
    exact hrec _ _ h
set_option maxRecDepth 100000 in
set_option maxHeartbeats 4000000 in
theorem t_X8_desk_l217 (G : wd_G) (d : Nat) (hd : 6 ≤ d) {out : Int32 × wd_Mem} (k : wd_Mem → Option (Int32 × wd_Mem)) (x1 : Int32) (hk : ∀  (μ : wd_Mem), k μ = some out → wd_V G (d + 1) RX8 cX8_desk 3 (some .int) (fun r u => r = some (.inl out.1) ∧ u = out.2) 248 [some (.inr 31), some (.inl x1), none] [] μ) : ∀ (n : Nat) (x2 : Int32) (μ : wd_Mem), X8_desk_l217 k x1 n x2 μ = some out → wd_V G (d + 1) RX8 cX8_desk 3 (some .int) (fun r u => r = some (.inl out.1) ∧ u = out.2) 217 [some (.inr 31), some (.inl x1), some (.inl x2)] [] μ := by
  intro n
  induction n with
  | zero => intro x2 μ h; exact absurd h (by unfold X8_desk_l217; simp)
  | succ n ih =>
    intro x2 μ h
    exact t_X8_desk_c217 G d hd (X8_desk_l217 k x1 n) k μ x1 x2  (fun x2 μ h => ih x2 μ h) hk h
set_option maxRecDepth 100000 in
set_option maxHeartbeats 4000000 in
theorem t_X8_desk_b248 (G : wd_G) (d : Nat) (hd : 6 ≤ d) {out : Int32 × wd_Mem} (μ : wd_Mem) (x1 : Int32)  (h : X8_desk_b248 μ x1 = some out) : wd_V G (d + 1) RX8 cX8_desk 3 (some .int) (fun r u => r = some (.inl out.1) ∧ u = out.2) 248 [some (.inr 31), some (.inl x1), none] [] μ := by
  unfold X8_desk_b248 at h
  refine wv_aload_n (pc' := 249) (i := 0) (v := 31) dX8_desk_248 rfl rfl rfl ?_
  refine wv_iconst (pc' := 250) dX8_desk_249 ic_0 rfl ?_
  refine wv_pi (pc' := 253) p_X8_121_31 dX8_desk_250 rfl ?_
  refine wv_aload_n (pc' := 254) (i := 0) (v := 31) dX8_desk_253 rfl rfl rfl ?_
  refine wv_gr (pc' := 257) g_X8_22_31 dX8_desk_254 rfl ?_
  refine wv_iconst (pc' := 258) dX8_desk_257 ic_0 rfl ?_
  refine wv_iconst (pc' := 259) dX8_desk_258 ic_0 rfl ?_
  obtain ⟨g23, h⟩ := wd_chk_some h
  refine wv_zast (pc' := 260) sa_36 (wd_in_vp g23) dX8_desk_259 rfl ?_
  refine wv_aload_n (pc' := 261) (i := 0) (v := 31) dX8_desk_260 rfl rfl rfl ?_
  refine wv_gr (pc' := 264) g_X8_22_31 dX8_desk_261 rfl ?_
  refine wv_iconst (pc' := 265) dX8_desk_264 ic_1 rfl ?_
  refine wv_iconst (pc' := 266) dX8_desk_265 ic_0 rfl ?_
  obtain ⟨g24, h⟩ := wd_chk_some h
  refine wv_zast (pc' := 267) sa_36 (wd_in_vp g24) dX8_desk_266 rfl ?_
  refine wv_iload_n (pc' := 268) (i := 1) (v := x1) dX8_desk_267 rfl rfl rfl ?_
  exact wv_ireturn rfl dX8_desk_268 (wd_liv h)
set_option maxRecDepth 100000 in
set_option maxHeartbeats 4000000 in
theorem t_X8_desk_b214 (G : wd_G) (d : Nat) (hd : 6 ≤ d) {out : Int32 × wd_Mem} (μ : wd_Mem) (x1 : Int32)  (h : X8_desk_b214 μ x1 = some out) : wd_V G (d + 1) RX8 cX8_desk 3 (some .int) (fun r u => r = some (.inl out.1) ∧ u = out.2) 214 [some (.inr 31), some (.inl x1), none] [] μ := by
  unfold X8_desk_b214 at h
  refine wv_bipush (pc' := 216) dX8_desk_214 bp_10 rfl ?_
  refine wv_istore_n (pc' := 217) (i := 2) (L' := [some (.inr 31), some (.inl x1), some (.inl (10 : Int32))]) dX8_desk_216 rfl (by decide) rfl rfl ?_
  exact t_X8_desk_l217 G d hd (fun μ => X8_desk_b248 μ x1) x1  (fun μ h => t_X8_desk_b248 G d hd μ x1  h) wd_big (10 : Int32) μ h
set_option maxRecDepth 100000 in
set_option maxHeartbeats 4000000 in
theorem t_X8_desk_b66 (G : wd_G) (d : Nat) (hd : 6 ≤ d) {out : Int32 × wd_Mem} (μ : wd_Mem) (x1 : Int32)  (h : X8_desk_b66 μ x1 = some out) : wd_V G (d + 1) RX8 cX8_desk 3 (some .int) (fun r u => r = some (.inl out.1) ∧ u = out.2) 66 [some (.inr 31), some (.inl x1), none] [] μ := by
  unfold X8_desk_b66 at h
  refine wv_aload_n (pc' := 67) (i := 0) (v := 31) dX8_desk_66 rfl rfl rfl ?_
  refine wv_iconst (pc' := 68) dX8_desk_67 ic_0 rfl ?_
  refine wv_pi (pc' := 71) p_X8_67_31 dX8_desk_68 rfl ?_
  refine wv_aload_n (pc' := 72) (i := 0) (v := 31) dX8_desk_71 rfl rfl rfl ?_
  refine wv_aload_n (pc' := 73) (i := 0) (v := 31) dX8_desk_72 rfl rfl rfl ?_
  refine wv_giE (pc' := 76) (v := (μ 31 17)) g_X8_98_31 dX8_desk_73 rfl rfl ?_
  refine wv_pi (pc' := 79) p_X8_118_31 dX8_desk_76 rfl ?_
  refine wv_aload_n (pc' := 80) (i := 0) (v := 31) dX8_desk_79 rfl rfl rfl ?_
  refine wv_aload_n (pc' := 81) (i := 0) (v := 31) dX8_desk_80 rfl rfl rfl ?_
  refine wv_giE (pc' := 84) (v := (μ 31 18)) g_X8_105_31 dX8_desk_81 rfl rfl ?_
  refine wv_pi (pc' := 87) p_X8_59_31 dX8_desk_84 rfl ?_
  refine wv_iconst (pc' := 88) dX8_desk_87 ic_0 rfl ?_
  refine wv_istore_n (pc' := 89) (i := 2) (L' := [some (.inr 31), some (.inl x1), some (.inl (0 : Int32))]) dX8_desk_88 rfl (by decide) rfl rfl ?_
  exact t_X8_desk_l89 G d hd (fun μ => X8_desk_b214 μ x1) x1  (fun μ h => t_X8_desk_b214 G d hd μ x1  h) wd_big (0 : Int32) (mset (mset (mset μ 31 10 (0 : Int32)) 31 0 (μ 31 17)) 31 1 (μ 31 18)) h
set_option maxRecDepth 100000 in
set_option maxHeartbeats 4000000 in
theorem t_X8_desk_b0 (G : wd_G) (d : Nat) (hd : 6 ≤ d) {out : Int32 × wd_Mem} (μ : wd_Mem)  (h : X8_desk_b0 μ = some out) : wd_V G (d + 1) RX8 cX8_desk 3 (some .int) (fun r u => r = some (.inl out.1) ∧ u = out.2) 0 [some (.inr 31), none, none] [] μ := by
  unfold X8_desk_b0 at h
  refine wv_aload_n (pc' := 1) (i := 0) (v := 31) dX8_desk_0 rfl rfl rfl ?_
  refine wv_iconst (pc' := 2) dX8_desk_1 ic_0 rfl ?_
  refine wv_pi (pc' := 5) p_X8_70_31 dX8_desk_2 rfl ?_
  refine wv_aload_n (pc' := 6) (i := 0) (v := 31) dX8_desk_5 rfl rfl rfl ?_
  refine wv_iconst (pc' := 7) dX8_desk_6 ic_0 rfl ?_
  refine wv_pi (pc' := 10) p_X8_98_31 dX8_desk_7 rfl ?_
  refine wv_aload_n (pc' := 11) (i := 0) (v := 31) dX8_desk_10 rfl rfl rfl ?_
  refine wv_iconst (pc' := 12) dX8_desk_11 ic_3 rfl ?_
  refine wv_pi (pc' := 15) p_X8_105_31 dX8_desk_12 rfl ?_
  refine wv_iconst (pc' := 16) dX8_desk_15 ic_0 rfl ?_
  refine wv_istore_n (pc' := 17) (i := 1) (L' := [some (.inr 31), some (.inl (0 : Int32)), none]) dX8_desk_16 rfl (by decide) rfl rfl ?_
  refine wv_aload_n (pc' := 18) (i := 0) (v := 31) dX8_desk_17 rfl rfl rfl ?_
  obtain ⟨r1, er1, h⟩ := wd_bind_some h
  refine wv_callVv (pc' := 21) (ν := r1) [] ml_X8_73 rc_31 rfl (Nat.le_of_ble_eq_true rfl) dX8_desk_18 rfl (c_X8_blanks G d (Nat.le_trans (Nat.le_of_ble_eq_true rfl) hd)  er1) ?_
  exact t_X8_desk_l21 G d hd (fun x1 μ => X8_desk_b66 μ x1)  (fun x1 μ h => t_X8_desk_b66 G d hd μ x1  h) wd_big (0 : Int32) r1 h
set_option maxRecDepth 100000 in
set_option maxHeartbeats 4000000 in
theorem c_X8_desk (G : wd_G) (d : Nat) (hd : 7 ≤ d) {μ : wd_Mem} {out : Int32 × wd_Mem}  (h : X8_desk μ = some out) : wd_C G d yX8_desk [.inr 31] μ (fun r u => r = some (.inl out.1) ∧ u = out.2) := by
  obtain ⟨d, rfl⟩ : ∃ e, d = e + 1 := ⟨d - 1, by omega⟩
  refine wd_enter mc_X8_desk (by decide) (by decide +kernel) rfl (Nat.le_of_ble_eq_true rfl) (L0 := [some (.inr 31), none, none]) rfl ?_
  exact t_X8_desk_b0 G d (by omega) μ  h
set_option maxRecDepth 100000 in
set_option maxHeartbeats 4000000 in
theorem t_X8_isBroken_b47 (G : wd_G) (d : Nat) (hd : 0 ≤ d) {out : Int32} (rec : Int32 → Int32 → Option (Int32)) (k : Int32 → Option (Int32)) (μ : wd_Mem) (x2 s0 : Int32) (hrec : ∀ (x1 x2 : Int32), rec x1 x2 = some out → wd_V G (d + 1) RX8 cX8_isBroken 3 (some .boolean) (fun r u => r = some (.inl out) ∧ u = μ) 4 [some (.inr 31), some (.inl x1), some (.inl x2)] [] μ) (hk : ∀ (x1 : Int32), k x1 = some out → wd_V G (d + 1) RX8 cX8_isBroken 3 (some .boolean) (fun r u => r = some (.inl out) ∧ u = μ) 54 [some (.inr 31), some (.inl x1), none] [] μ) (h : X8_isBroken_b47 rec k μ x2 s0 = some out) : wd_V G (d + 1) RX8 cX8_isBroken 3 (some .boolean) (fun r u => r = some (.inl out) ∧ u = μ) 47 [some (.inr 31), none, some (.inl x2)] [.inl s0] μ := by
  unfold X8_isBroken_b47 at h
  refine wv_istore_n (pc' := 48) (i := 1) (L' := [some (.inr 31), some (.inl s0), some (.inl x2)]) dX8_isBroken_47 rfl (by decide) rfl rfl ?_
  refine wv_inc (pc' := 51) (x := x2) (L' := [some (.inr 31), some (.inl s0), some (.inl (x2 + (1 : Int32)))]) dX8_isBroken_48 ic_1 rfl (by decide) rfl rfl ?_
  refine wv_goto (pc' := 4) dX8_isBroken_51 (by decide) ?_
  exact hrec _ _ h
set_option maxRecDepth 100000 in
set_option maxHeartbeats 4000000 in
theorem t_X8_isBroken_b42 (G : wd_G) (d : Nat) (hd : 0 ≤ d) {out : Int32} (rec : Int32 → Int32 → Option (Int32)) (k : Int32 → Option (Int32)) (μ : wd_Mem) (x2 : Int32) (hrec : ∀ (x1 x2 : Int32), rec x1 x2 = some out → wd_V G (d + 1) RX8 cX8_isBroken 3 (some .boolean) (fun r u => r = some (.inl out) ∧ u = μ) 4 [some (.inr 31), some (.inl x1), some (.inl x2)] [] μ) (hk : ∀ (x1 : Int32), k x1 = some out → wd_V G (d + 1) RX8 cX8_isBroken 3 (some .boolean) (fun r u => r = some (.inl out) ∧ u = μ) 54 [some (.inr 31), some (.inl x1), none] [] μ) (h : X8_isBroken_b42 rec k μ x2 = some out) : wd_V G (d + 1) RX8 cX8_isBroken 3 (some .boolean) (fun r u => r = some (.inl out) ∧ u = μ) 42 [some (.inr 31), none, some (.inl x2)] [] μ := by
  unfold X8_isBroken_b42 at h
  refine wv_iconst (pc' := 43) dX8_isBroken_42 ic_1 rfl ?_
  refine wv_goto (pc' := 47) dX8_isBroken_43 (by decide) ?_
  exact t_X8_isBroken_b47 G d hd rec k μ x2 (1 : Int32) hrec hk h
set_option maxRecDepth 100000 in
set_option maxHeartbeats 4000000 in
theorem t_X8_isBroken_c4 (G : wd_G) (d : Nat) (hd : 0 ≤ d) {out : Int32} (rec : Int32 → Int32 → Option (Int32)) (k : Int32 → Option (Int32)) (μ : wd_Mem) (x1 x2 : Int32) (hrec : ∀ (x1 x2 : Int32), rec x1 x2 = some out → wd_V G (d + 1) RX8 cX8_isBroken 3 (some .boolean) (fun r u => r = some (.inl out) ∧ u = μ) 4 [some (.inr 31), some (.inl x1), some (.inl x2)] [] μ) (hk : ∀ (x1 : Int32), k x1 = some out → wd_V G (d + 1) RX8 cX8_isBroken 3 (some .boolean) (fun r u => r = some (.inl out) ∧ u = μ) 54 [some (.inr 31), some (.inl x1), none] [] μ) (h : X8_isBroken_c4 rec k μ x1 x2 = some out) : wd_V G (d + 1) RX8 cX8_isBroken 3 (some .boolean) (fun r u => r = some (.inl out) ∧ u = μ) 4 [some (.inr 31), some (.inl x1), some (.inl x2)] [] μ := by
  unfold X8_isBroken_c4 at h
  refine wv_iload_n (pc' := 5) (i := 2) (v := x2) dX8_isBroken_4 rfl rfl rfl ?_
  refine wv_aload_n (pc' := 6) (i := 0) (v := 31) dX8_isBroken_5 rfl rfl rfl ?_
  refine wv_gi (pc' := 9) g_X8_118_31 dX8_isBroken_6 rfl ?_
  refine wv_icmp_ge (pc' := 12) (tgt := 54) dX8_isBroken_9 (by decide) rfl (fun c1 => ?_) (fun c1 => ?_)
  · have h := (if_pos c1).symm.trans h
    refine wv_weak (L' := [some (.inr 31), some (.inl x1), none]) ⟨rfl, rfl, trivial⟩ ?_
    exact hk _ h
  · have h := (if_neg c1).symm.trans h
    refine wv_iload_n (pc' := 13) (i := 1) (v := x1) dX8_isBroken_12 rfl rfl rfl ?_
    refine wv_if_ne (pc' := 16) (tgt := 42) dX8_isBroken_13 (by decide) rfl (fun c2 => ?_) (fun c2 => ?_)
    · have h := (if_neg c2).symm.trans h
      refine wv_weak (L' := [some (.inr 31), none, some (.inl x2)]) ⟨rfl, rfl, trivial⟩ ?_
      exact t_X8_isBroken_b42 G d hd rec k μ x2 hrec hk h
    · have h := (if_pos c2).symm.trans h
      refine wv_aload_n (pc' := 17) (i := 0) (v := 31) dX8_isBroken_16 rfl rfl rfl ?_
      refine wv_gr (pc' := 20) g_X8_16_31 dX8_isBroken_17 rfl ?_
      refine wv_iconst (pc' := 21) dX8_isBroken_20 ic_0 rfl ?_
      refine wv_iload_n (pc' := 22) (i := 2) (v := x2) dX8_isBroken_21 rfl rfl rfl ?_
      refine wv_iadd (pc' := 23) dX8_isBroken_22 rfl ?_
      obtain ⟨g3, h⟩ := wd_chk_some h
      refine wv_iald (pc' := 24) sa_34 (wd_in_vp g3) dX8_isBroken_23 rfl ?_
      refine wv_aload_n (pc' := 25) (i := 0) (v := 31) dX8_isBroken_24 rfl rfl rfl ?_
      refine wv_gr (pc' := 28) g_X8_7_31 dX8_isBroken_25 rfl ?_
      refine wv_iload_n (pc' := 29) (i := 2) (v := x2) dX8_isBroken_28 rfl rfl rfl ?_
      obtain ⟨g4, h⟩ := wd_chk_some h
      refine wv_iald (pc' := 30) sa_32 (wd_in_vp g4) dX8_isBroken_29 rfl ?_
      refine wv_iadd (pc' := 31) dX8_isBroken_30 rfl ?_
      refine wv_aload_n (pc' := 32) (i := 0) (v := 31) dX8_isBroken_31 rfl rfl rfl ?_
      refine wv_gr (pc' := 35) g_X8_16_31 dX8_isBroken_32 rfl ?_
      refine wv_iconst (pc' := 36) dX8_isBroken_35 ic_5 rfl ?_
      refine wv_iload_n (pc' := 37) (i := 2) (v := x2) dX8_isBroken_36 rfl rfl rfl ?_
      refine wv_iadd (pc' := 38) dX8_isBroken_37 rfl ?_
      obtain ⟨g5, h⟩ := wd_chk_some h
      refine wv_iald (pc' := 39) sa_34 (wd_in_vp g5) dX8_isBroken_38 rfl ?_
      refine wv_icmp_le (pc' := 42) (tgt := 46) dX8_isBroken_39 (by decide) rfl (fun c6 => ?_) (fun c6 => ?_)
      · have h := (if_pos c6).symm.trans h
        refine wv_iconst (pc' := 47) dX8_isBroken_46 ic_0 rfl ?_
        refine wv_weak (L' := [some (.inr 31), none, some (.inl x2)]) ⟨rfl, rfl, trivial⟩ ?_
        exact t_X8_isBroken_b47 G d hd rec k μ x2 (0 : Int32) hrec hk h
      · have h := (if_neg c6).symm.trans h
        refine wv_weak (L' := [some (.inr 31), none, some (.inl x2)]) ⟨rfl, rfl, trivial⟩ ?_
        exact t_X8_isBroken_b42 G d hd rec k μ x2 hrec hk h
set_option maxRecDepth 100000 in
set_option maxHeartbeats 4000000 in
theorem t_X8_isBroken_l4 (G : wd_G) (d : Nat) (hd : 0 ≤ d) {out : Int32} (k : Int32 → Option (Int32)) (μ : wd_Mem) (hk : ∀ (x1 : Int32), k x1 = some out → wd_V G (d + 1) RX8 cX8_isBroken 3 (some .boolean) (fun r u => r = some (.inl out) ∧ u = μ) 54 [some (.inr 31), some (.inl x1), none] [] μ) : ∀ (n : Nat) (x1 x2 : Int32), X8_isBroken_l4 k μ n x1 x2 = some out → wd_V G (d + 1) RX8 cX8_isBroken 3 (some .boolean) (fun r u => r = some (.inl out) ∧ u = μ) 4 [some (.inr 31), some (.inl x1), some (.inl x2)] [] μ := by
  intro n
  induction n with
  | zero => intro x1 x2 h; exact absurd h (by unfold X8_isBroken_l4; simp)
  | succ n ih =>
    intro x1 x2 h
    exact t_X8_isBroken_c4 G d hd (X8_isBroken_l4 k μ n) k μ x1 x2  (fun x1 x2 h => ih x1 x2 h) hk h
set_option maxRecDepth 100000 in
set_option maxHeartbeats 4000000 in
theorem t_X8_isBroken_b54 (G : wd_G) (d : Nat) (hd : 0 ≤ d) {out : Int32} (μ : wd_Mem) (x1 : Int32)  (h : X8_isBroken_b54 μ x1 = some out) : wd_V G (d + 1) RX8 cX8_isBroken 3 (some .boolean) (fun r u => r = some (.inl out) ∧ u = μ) 54 [some (.inr 31), some (.inl x1), none] [] μ := by
  unfold X8_isBroken_b54 at h
  refine wv_iload_n (pc' := 55) (i := 1) (v := x1) dX8_isBroken_54 rfl rfl rfl ?_
  obtain ⟨g7, h⟩ := wd_chk_some h
  exact wv_zreturn rfl (wd_bit_ok g7) dX8_isBroken_55 (wd_li h)
set_option maxRecDepth 100000 in
set_option maxHeartbeats 4000000 in
theorem t_X8_isBroken_b0 (G : wd_G) (d : Nat) (hd : 0 ≤ d) {out : Int32} (μ : wd_Mem)  (h : X8_isBroken_b0 μ = some out) : wd_V G (d + 1) RX8 cX8_isBroken 3 (some .boolean) (fun r u => r = some (.inl out) ∧ u = μ) 0 [some (.inr 31), none, none] [] μ := by
  unfold X8_isBroken_b0 at h
  refine wv_iconst (pc' := 1) dX8_isBroken_0 ic_0 rfl ?_
  refine wv_istore_n (pc' := 2) (i := 1) (L' := [some (.inr 31), some (.inl (0 : Int32)), none]) dX8_isBroken_1 rfl (by decide) rfl rfl ?_
  refine wv_iconst (pc' := 3) dX8_isBroken_2 ic_0 rfl ?_
  refine wv_istore_n (pc' := 4) (i := 2) (L' := [some (.inr 31), some (.inl (0 : Int32)), some (.inl (0 : Int32))]) dX8_isBroken_3 rfl (by decide) rfl rfl ?_
  exact t_X8_isBroken_l4 G d hd (fun x1 => X8_isBroken_b54 μ x1) μ  (fun x1 h => t_X8_isBroken_b54 G d hd μ x1  h) wd_big (0 : Int32) (0 : Int32) h
set_option maxRecDepth 100000 in
set_option maxHeartbeats 4000000 in
theorem c_X8_isBroken (G : wd_G) (d : Nat) (hd : 1 ≤ d) {μ : wd_Mem} {out : Int32}  (h : X8_isBroken μ = some out) : wd_C G d yX8_isBroken [.inr 31] μ (fun r u => r = some (.inl out) ∧ u = μ) := by
  obtain ⟨d, rfl⟩ : ∃ e, d = e + 1 := ⟨d - 1, by omega⟩
  refine wd_enter mc_X8_isBroken (by decide) (by decide +kernel) rfl (Nat.le_of_ble_eq_true rfl) (L0 := [some (.inr 31), none, none]) rfl ?_
  exact t_X8_isBroken_b0 G d (by omega) μ  h
set_option maxRecDepth 100000 in
set_option maxHeartbeats 4000000 in
theorem t_X8_remember_c2 (G : wd_G) (d : Nat) (hd : 0 ≤ d) {out : wd_Mem} (rec : Int32 → wd_Mem → Option (wd_Mem)) (k : wd_Mem → Option (wd_Mem)) (μ : wd_Mem) (x1 : Int32) (hrec : ∀ (x1 : Int32) (μ : wd_Mem), rec x1 μ = some out → wd_V G (d + 1) RX8 cX8_remember 2 none (fun r u => r = none ∧ u = out) 2 [some (.inr 31), some (.inl x1)] [] μ) (hk : ∀  (μ : wd_Mem), k μ = some out → wd_V G (d + 1) RX8 cX8_remember 2 none (fun r u => r = none ∧ u = out) 34 [some (.inr 31), none] [] μ) (h : X8_remember_c2 rec k μ x1 = some out) : wd_V G (d + 1) RX8 cX8_remember 2 none (fun r u => r = none ∧ u = out) 2 [some (.inr 31), some (.inl x1)] [] μ := by
  unfold X8_remember_c2 at h
  refine wv_iload_n (pc' := 3) (i := 1) (v := x1) dX8_remember_2 rfl rfl rfl ?_
  refine wv_bipush (pc' := 5) dX8_remember_3 bp_30 rfl ?_
  refine wv_icmp_ge (pc' := 8) (tgt := 34) dX8_remember_5 (by decide) rfl (fun c1 => ?_) (fun c1 => ?_)
  · have h := (if_pos c1).symm.trans h
    refine wv_weak (L' := [some (.inr 31), none]) ⟨rfl, trivial⟩ ?_
    exact hk _ h
  · have h := (if_neg c1).symm.trans h
    refine wv_aload_n (pc' := 9) (i := 0) (v := 31) dX8_remember_8 rfl rfl rfl ?_
    refine wv_gr (pc' := 12) g_X8_19_31 dX8_remember_9 rfl ?_
    refine wv_bipush (pc' := 14) dX8_remember_12 bp_30 rfl ?_
    refine wv_aload_n (pc' := 15) (i := 0) (v := 31) dX8_remember_14 rfl rfl rfl ?_
    refine wv_gi (pc' := 18) g_X8_185_31 dX8_remember_15 rfl ?_
    refine wv_imul (pc' := 19) dX8_remember_18 rfl ?_
    refine wv_iload_n (pc' := 20) (i := 1) (v := x1) dX8_remember_19 rfl rfl rfl ?_
    refine wv_iadd (pc' := 21) dX8_remember_20 rfl ?_
    refine wv_aload_n (pc' := 22) (i := 0) (v := 31) dX8_remember_21 rfl rfl rfl ?_
    refine wv_gr (pc' := 25) g_X8_16_31 dX8_remember_22 rfl ?_
    refine wv_iload_n (pc' := 26) (i := 1) (v := x1) dX8_remember_25 rfl rfl rfl ?_
    obtain ⟨g2, h⟩ := wd_chk_some h
    refine wv_iald (pc' := 27) sa_34 (wd_in_vp g2) dX8_remember_26 rfl ?_
    obtain ⟨g3, h⟩ := wd_chk_some h
    refine wv_iast (pc' := 28) sa_35 (wd_in_vp g3) dX8_remember_27 rfl ?_
    refine wv_inc (pc' := 31) (x := x1) (L' := [some (.inr 31), some (.inl (x1 + (1 : Int32)))]) dX8_remember_28 ic_1 rfl (by decide) rfl rfl ?_
    refine wv_goto (pc' := 2) dX8_remember_31 (by decide) ?_
    exact hrec _ _ h
set_option maxRecDepth 100000 in
set_option maxHeartbeats 4000000 in
theorem t_X8_remember_l2 (G : wd_G) (d : Nat) (hd : 0 ≤ d) {out : wd_Mem} (k : wd_Mem → Option (wd_Mem)) (hk : ∀  (μ : wd_Mem), k μ = some out → wd_V G (d + 1) RX8 cX8_remember 2 none (fun r u => r = none ∧ u = out) 34 [some (.inr 31), none] [] μ) : ∀ (n : Nat) (x1 : Int32) (μ : wd_Mem), X8_remember_l2 k n x1 μ = some out → wd_V G (d + 1) RX8 cX8_remember 2 none (fun r u => r = none ∧ u = out) 2 [some (.inr 31), some (.inl x1)] [] μ := by
  intro n
  induction n with
  | zero => intro x1 μ h; exact absurd h (by unfold X8_remember_l2; simp)
  | succ n ih =>
    intro x1 μ h
    exact t_X8_remember_c2 G d hd (X8_remember_l2 k n) k μ x1  (fun x1 μ h => ih x1 μ h) hk h
set_option maxRecDepth 100000 in
set_option maxHeartbeats 4000000 in
theorem t_X8_remember_b66 (G : wd_G) (d : Nat) (hd : 0 ≤ d) {out : wd_Mem} (μ : wd_Mem) (s1 s2 : Int32)  (h : X8_remember_b66 μ s1 s2 = some out) : wd_V G (d + 1) RX8 cX8_remember 2 none (fun r u => r = none ∧ u = out) 66 [some (.inr 31), none] [.inl s2, .inl s1, .inr 31] μ := by
  unfold X8_remember_b66 at h
  refine wv_iadd (pc' := 67) dX8_remember_66 rfl ?_
  refine wv_pi (pc' := 70) p_X8_121_31 dX8_remember_67 rfl ?_
  exact wv_return rfl dX8_remember_70 (wd_lv h)
set_option maxRecDepth 100000 in
set_option maxHeartbeats 4000000 in
theorem t_X8_remember_b34 (G : wd_G) (d : Nat) (hd : 0 ≤ d) {out : wd_Mem} (μ : wd_Mem)  (h : X8_remember_b34 μ = some out) : wd_V G (d + 1) RX8 cX8_remember 2 none (fun r u => r = none ∧ u = out) 34 [some (.inr 31), none] [] μ := by
  unfold X8_remember_b34 at h
  refine wv_aload_n (pc' := 35) (i := 0) (v := 31) dX8_remember_34 rfl rfl rfl ?_
  refine wv_aload_n (pc' := 36) (i := 0) (v := 31) dX8_remember_35 rfl rfl rfl ?_
  refine wv_gi (pc' := 39) g_X8_185_31 dX8_remember_36 rfl ?_
  refine wv_iconst (pc' := 40) dX8_remember_39 ic_1 rfl ?_
  refine wv_iadd (pc' := 41) dX8_remember_40 rfl ?_
  refine wv_bipush (pc' := 43) dX8_remember_41 bp_10 rfl ?_
  obtain ⟨g4, h⟩ := wd_chk_some h
  refine wv_irem (pc' := 44) dX8_remember_43 (wd_nz_ne g4) rfl ?_
  refine wv_pi (pc' := 47) p_X8_185_31 dX8_remember_44 rfl ?_
  refine wv_aload_n (pc' := 48) (i := 0) (v := 31) dX8_remember_47 rfl rfl rfl ?_
  refine wv_dup (pc' := 49) dX8_remember_48 rfl ?_
  refine wv_giE (pc' := 52) (v := (μ 31 5)) g_X8_121_31 dX8_remember_49 rfl rfl ?_
  refine wv_aload_n (pc' := 53) (i := 0) (v := 31) dX8_remember_52 rfl rfl rfl ?_
  refine wv_giE (pc' := 56) (v := (μ 31 5)) g_X8_121_31 dX8_remember_53 rfl rfl ?_
  refine wv_bipush (pc' := 58) dX8_remember_56 bp_10 rfl ?_
  refine wv_icmp_ge (pc' := 61) (tgt := 65) dX8_remember_58 (by decide) rfl (fun c5 => ?_) (fun c5 => ?_)
  · have h := (if_pos c5).symm.trans h
    refine wv_iconst (pc' := 66) dX8_remember_65 ic_0 rfl ?_
    exact t_X8_remember_b66 G d hd (mset μ 31 6 (((μ 31 6) + (1 : Int32)) - ((μ 31 6) + (1 : Int32)) / (10 : Int32) * (10 : Int32))) (μ 31 5) (0 : Int32)  h
  · have h := (if_neg c5).symm.trans h
    refine wv_iconst (pc' := 62) dX8_remember_61 ic_1 rfl ?_
    refine wv_goto (pc' := 66) dX8_remember_62 (by decide) ?_
    exact t_X8_remember_b66 G d hd (mset μ 31 6 (((μ 31 6) + (1 : Int32)) - ((μ 31 6) + (1 : Int32)) / (10 : Int32) * (10 : Int32))) (μ 31 5) (1 : Int32)  h
set_option maxRecDepth 100000 in
set_option maxHeartbeats 4000000 in
theorem t_X8_remember_b0 (G : wd_G) (d : Nat) (hd : 0 ≤ d) {out : wd_Mem} (μ : wd_Mem)  (h : X8_remember_b0 μ = some out) : wd_V G (d + 1) RX8 cX8_remember 2 none (fun r u => r = none ∧ u = out) 0 [some (.inr 31), none] [] μ := by
  unfold X8_remember_b0 at h
  refine wv_iconst (pc' := 1) dX8_remember_0 ic_0 rfl ?_
  refine wv_istore_n (pc' := 2) (i := 1) (L' := [some (.inr 31), some (.inl (0 : Int32))]) dX8_remember_1 rfl (by decide) rfl rfl ?_
  exact t_X8_remember_l2 G d hd (fun μ => X8_remember_b34 μ)  (fun μ h => t_X8_remember_b34 G d hd μ  h) wd_big (0 : Int32) μ h
set_option maxRecDepth 100000 in
set_option maxHeartbeats 4000000 in
theorem c_X8_remember (G : wd_G) (d : Nat) (hd : 1 ≤ d) {μ : wd_Mem} {out : wd_Mem}  (h : X8_remember μ = some out) : wd_C G d yX8_remember [.inr 31] μ (fun r u => r = none ∧ u = out) := by
  obtain ⟨d, rfl⟩ : ∃ e, d = e + 1 := ⟨d - 1, by omega⟩
  refine wd_enter mc_X8_remember (by decide) (by decide +kernel) rfl (Nat.le_of_ble_eq_true rfl) (L0 := [some (.inr 31), none]) rfl ?_
  exact t_X8_remember_b0 G d (by omega) μ  h
set_option maxRecDepth 100000 in
set_option maxHeartbeats 4000000 in
theorem t_X8_start_b0 (G : wd_G) (d : Nat) (hd : 0 ≤ d) {out : Int32} (μ : wd_Mem) (x1 : Int32)  (h : X8_start_b0 μ x1 = some out) : wd_V G (d + 1) RX8 cX8_start 2 (some .int) (fun r u => r = some (.inl out) ∧ u = μ) 0 [some (.inr 31), some (.inl x1)] [] μ := by
  unfold X8_start_b0 at h
  refine wv_aload_n (pc' := 1) (i := 0) (v := 31) dX8_start_0 rfl rfl rfl ?_
  refine wv_gr (pc' := 4) g_X8_38_31 dX8_start_1 rfl ?_
  refine wv_iload_n (pc' := 5) (i := 1) (v := x1) dX8_start_4 rfl rfl rfl ?_
  obtain ⟨g1, h⟩ := wd_chk_some h
  refine wv_iald (pc' := 6) sa_41 (wd_in_vp g1) dX8_start_5 rfl ?_
  refine wv_aload_n (pc' := 7) (i := 0) (v := 31) dX8_start_6 rfl rfl rfl ?_
  refine wv_gr (pc' := 10) g_X8_7_31 dX8_start_7 rfl ?_
  refine wv_iload_n (pc' := 11) (i := 1) (v := x1) dX8_start_10 rfl rfl rfl ?_
  refine wv_iald (pc' := 12) sa_32 (wd_in_vp g1) dX8_start_11 rfl ?_
  refine wv_isub (pc' := 13) dX8_start_12 rfl ?_
  exact wv_ireturn rfl dX8_start_13 (wd_li h)
set_option maxRecDepth 100000 in
set_option maxHeartbeats 4000000 in
theorem c_X8_start (G : wd_G) (d : Nat) (hd : 1 ≤ d) {μ : wd_Mem} {x1 : Int32} {out : Int32}  (h : X8_start μ x1 = some out) : wd_C G d yX8_start [.inr 31, .inl x1] μ (fun r u => r = some (.inl out) ∧ u = μ) := by
  obtain ⟨d, rfl⟩ : ∃ e, d = e + 1 := ⟨d - 1, by omega⟩
  refine wd_enter mc_X8_start (by decide) (by decide +kernel) rfl (Nat.le_of_ble_eq_true rfl) (L0 := [some (.inr 31), some (.inl x1)]) rfl ?_
  exact t_X8_start_b0 G d (by omega) μ x1 h
set_option maxRecDepth 100000 in
set_option maxHeartbeats 4000000 in
theorem t_X8_done_b0 (G : wd_G) (d : Nat) (hd : 0 ≤ d) {out : Int32} (μ : wd_Mem) (x1 : Int32)  (h : X8_done_b0 μ x1 = some out) : wd_V G (d + 1) RX8 cX8_done 2 (some .int) (fun r u => r = some (.inl out) ∧ u = μ) 0 [some (.inr 31), some (.inl x1)] [] μ := by
  unfold X8_done_b0 at h
  refine wv_aload_n (pc' := 1) (i := 0) (v := 31) dX8_done_0 rfl rfl rfl ?_
  refine wv_gr (pc' := 4) g_X8_35_31 dX8_done_1 rfl ?_
  refine wv_iload_n (pc' := 5) (i := 1) (v := x1) dX8_done_4 rfl rfl rfl ?_
  obtain ⟨g1, h⟩ := wd_chk_some h
  refine wv_iald (pc' := 6) sa_40 (wd_in_vp g1) dX8_done_5 rfl ?_
  refine wv_aload_n (pc' := 7) (i := 0) (v := 31) dX8_done_6 rfl rfl rfl ?_
  refine wv_gr (pc' := 10) g_X8_7_31 dX8_done_7 rfl ?_
  refine wv_iload_n (pc' := 11) (i := 1) (v := x1) dX8_done_10 rfl rfl rfl ?_
  refine wv_iald (pc' := 12) sa_32 (wd_in_vp g1) dX8_done_11 rfl ?_
  refine wv_iadd (pc' := 13) dX8_done_12 rfl ?_
  exact wv_ireturn rfl dX8_done_13 (wd_li h)
set_option maxRecDepth 100000 in
set_option maxHeartbeats 4000000 in
theorem c_X8_done (G : wd_G) (d : Nat) (hd : 1 ≤ d) {μ : wd_Mem} {x1 : Int32} {out : Int32}  (h : X8_done μ x1 = some out) : wd_C G d yX8_done [.inr 31, .inl x1] μ (fun r u => r = some (.inl out) ∧ u = μ) := by
  obtain ⟨d, rfl⟩ : ∃ e, d = e + 1 := ⟨d - 1, by omega⟩
  refine wd_enter mc_X8_done (by decide) (by decide +kernel) rfl (Nat.le_of_ble_eq_true rfl) (L0 := [some (.inr 31), some (.inl x1)]) rfl ?_
  exact t_X8_done_b0 G d (by omega) μ x1 h
set_option maxRecDepth 100000 in
set_option maxHeartbeats 4000000 in
theorem t_X8_isShut_b57 (G : wd_G) (d : Nat) (hd : 1 ≤ d) {out : Int32} (rec : Int32 → Int32 → Option (Int32)) (k : Int32 → Option (Int32)) (μ : wd_Mem) (x1 x2 x4 s0 s1 : Int32) (hrec : ∀ (x3 x4 : Int32), rec x3 x4 = some out → wd_V G (d + 1) RX8 cX8_isShut 5 (some .boolean) (fun r u => r = some (.inl out) ∧ u = μ) 10 [some (.inr 31), some (.inl x1), some (.inl x2), some (.inl x3), some (.inl x4)] [] μ) (hk : ∀ (x3 : Int32), k x3 = some out → wd_V G (d + 1) RX8 cX8_isShut 5 (some .boolean) (fun r u => r = some (.inl out) ∧ u = μ) 65 [some (.inr 31), none, none, some (.inl x3), none] [] μ) (h : X8_isShut_b57 rec k μ x1 x2 x4 s0 s1 = some out) : wd_V G (d + 1) RX8 cX8_isShut 5 (some .boolean) (fun r u => r = some (.inl out) ∧ u = μ) 57 [some (.inr 31), some (.inl x1), some (.inl x2), none, some (.inl x4)] [.inl s1, .inl s0] μ := by
  unfold X8_isShut_b57 at h
  refine wv_iadd (pc' := 58) dX8_isShut_57 rfl ?_
  refine wv_istore_n (pc' := 59) (i := 3) (L' := [some (.inr 31), some (.inl x1), some (.inl x2), some (.inl (s0 + s1)), some (.inl x4)]) dX8_isShut_58 rfl (by decide) rfl rfl ?_
  refine wv_inc (pc' := 62) (x := x4) (L' := [some (.inr 31), some (.inl x1), some (.inl x2), some (.inl (s0 + s1)), some (.inl (x4 + (1 : Int32)))]) dX8_isShut_59 ic_1 rfl (by decide) rfl rfl ?_
  refine wv_goto (pc' := 10) dX8_isShut_62 (by decide) ?_
  exact hrec _ _ h
set_option maxRecDepth 100000 in
set_option maxHeartbeats 4000000 in
theorem t_X8_isShut_b56 (G : wd_G) (d : Nat) (hd : 1 ≤ d) {out : Int32} (rec : Int32 → Int32 → Option (Int32)) (k : Int32 → Option (Int32)) (μ : wd_Mem) (x1 x2 x4 s0 : Int32) (hrec : ∀ (x3 x4 : Int32), rec x3 x4 = some out → wd_V G (d + 1) RX8 cX8_isShut 5 (some .boolean) (fun r u => r = some (.inl out) ∧ u = μ) 10 [some (.inr 31), some (.inl x1), some (.inl x2), some (.inl x3), some (.inl x4)] [] μ) (hk : ∀ (x3 : Int32), k x3 = some out → wd_V G (d + 1) RX8 cX8_isShut 5 (some .boolean) (fun r u => r = some (.inl out) ∧ u = μ) 65 [some (.inr 31), none, none, some (.inl x3), none] [] μ) (h : X8_isShut_b56 rec k μ x1 x2 x4 s0 = some out) : wd_V G (d + 1) RX8 cX8_isShut 5 (some .boolean) (fun r u => r = some (.inl out) ∧ u = μ) 56 [some (.inr 31), some (.inl x1), some (.inl x2), none, some (.inl x4)] [.inl s0] μ := by
  unfold X8_isShut_b56 at h
  refine wv_iconst (pc' := 57) dX8_isShut_56 ic_0 rfl ?_
  exact t_X8_isShut_b57 G d hd rec k μ x1 x2 x4 s0 (0 : Int32) hrec hk h
set_option maxRecDepth 100000 in
set_option maxHeartbeats 4000000 in
theorem t_X8_isShut_c10 (G : wd_G) (d : Nat) (hd : 1 ≤ d) {out : Int32} (rec : Int32 → Int32 → Option (Int32)) (k : Int32 → Option (Int32)) (μ : wd_Mem) (x1 x2 x3 x4 : Int32) (hrec : ∀ (x3 x4 : Int32), rec x3 x4 = some out → wd_V G (d + 1) RX8 cX8_isShut 5 (some .boolean) (fun r u => r = some (.inl out) ∧ u = μ) 10 [some (.inr 31), some (.inl x1), some (.inl x2), some (.inl x3), some (.inl x4)] [] μ) (hk : ∀ (x3 : Int32), k x3 = some out → wd_V G (d + 1) RX8 cX8_isShut 5 (some .boolean) (fun r u => r = some (.inl out) ∧ u = μ) 65 [some (.inr 31), none, none, some (.inl x3), none] [] μ) (h : X8_isShut_c10 rec k μ x1 x2 x3 x4 = some out) : wd_V G (d + 1) RX8 cX8_isShut 5 (some .boolean) (fun r u => r = some (.inl out) ∧ u = μ) 10 [some (.inr 31), some (.inl x1), some (.inl x2), some (.inl x3), some (.inl x4)] [] μ := by
  unfold X8_isShut_c10 at h
  refine wv_iload (pc' := 12) (v := x4) dX8_isShut_10 rfl rfl ?_
  refine wv_aload_n (pc' := 13) (i := 0) (v := 31) dX8_isShut_12 rfl rfl rfl ?_
  refine wv_gi (pc' := 16) g_X8_118_31 dX8_isShut_13 rfl ?_
  refine wv_icmp_ge (pc' := 19) (tgt := 65) dX8_isShut_16 (by decide) rfl (fun c2 => ?_) (fun c2 => ?_)
  · have h := (if_pos c2).symm.trans h
    refine wv_weak (L' := [some (.inr 31), none, none, some (.inl x3), none]) ⟨rfl, rfl, trivial⟩ ?_
    exact hk _ h
  · have h := (if_neg c2).symm.trans h
    refine wv_iload_n (pc' := 20) (i := 3) (v := x3) dX8_isShut_19 rfl rfl rfl ?_
    refine wv_iload (pc' := 22) (v := x4) dX8_isShut_20 rfl rfl ?_
    refine wv_iload_n (pc' := 23) (i := 1) (v := x1) dX8_isShut_22 rfl rfl rfl ?_
    refine wv_icmp_eq (pc' := 26) (tgt := 56) dX8_isShut_23 (by decide) rfl (fun c3 => ?_) (fun c3 => ?_)
    · have h := (if_pos c3).symm.trans h
      refine wv_weak (L' := [some (.inr 31), some (.inl x1), some (.inl x2), none, some (.inl x4)]) ⟨rfl, rfl, rfl, rfl, trivial⟩ ?_
      exact t_X8_isShut_b56 G d hd rec k μ x1 x2 x4 x3 hrec hk h
    · have h := (if_neg c3).symm.trans h
      refine wv_aload_n (pc' := 27) (i := 0) (v := 31) dX8_isShut_26 rfl rfl rfl ?_
      refine wv_iload (pc' := 29) (v := x4) dX8_isShut_27 rfl rfl ?_
      obtain ⟨r4, er4, h⟩ := wd_bind_some h
      refine wv_callVi (pc' := 32) (x := r4) (ν := μ) [.inl x4] ml_X8_131 rc_31 rfl (Nat.le_of_ble_eq_true rfl) dX8_isShut_29 rfl (c_X8_start G d (Nat.le_trans (Nat.le_of_ble_eq_true rfl) hd)  er4) ?_
      refine wv_iload_n (pc' := 33) (i := 2) (v := x2) dX8_isShut_32 rfl rfl rfl ?_
      refine wv_icmp_gt (pc' := 36) (tgt := 56) dX8_isShut_33 (by decide) rfl (fun c5 => ?_) (fun c5 => ?_)
      · have h := (if_pos c5).symm.trans h
        refine wv_weak (L' := [some (.inr 31), some (.inl x1), some (.inl x2), none, some (.inl x4)]) ⟨rfl, rfl, rfl, rfl, trivial⟩ ?_
        exact t_X8_isShut_b56 G d hd rec k μ x1 x2 x4 x3 hrec hk h
      · have h := (if_neg c5).symm.trans h
        refine wv_iload_n (pc' := 37) (i := 2) (v := x2) dX8_isShut_36 rfl rfl rfl ?_
        refine wv_aload_n (pc' := 38) (i := 0) (v := 31) dX8_isShut_37 rfl rfl rfl ?_
        refine wv_iload (pc' := 40) (v := x4) dX8_isShut_38 rfl rfl ?_
        obtain ⟨r6, er6, h⟩ := wd_bind_some h
        refine wv_callVi (pc' := 43) (x := r6) (ν := μ) [.inl x4] ml_X8_127 rc_31 rfl (Nat.le_of_ble_eq_true rfl) dX8_isShut_40 rfl (c_X8_done G d (Nat.le_trans (Nat.le_of_ble_eq_true rfl) hd)  er6) ?_
        refine wv_icmp_ge (pc' := 46) (tgt := 56) dX8_isShut_43 (by decide) rfl (fun c7 => ?_) (fun c7 => ?_)
        · have h := (if_pos c7).symm.trans h
          refine wv_weak (L' := [some (.inr 31), some (.inl x1), some (.inl x2), none, some (.inl x4)]) ⟨rfl, rfl, rfl, rfl, trivial⟩ ?_
          exact t_X8_isShut_b56 G d hd rec k μ x1 x2 x4 x3 hrec hk h
        · have h := (if_neg c7).symm.trans h
          refine wv_aload_n (pc' := 47) (i := 0) (v := 31) dX8_isShut_46 rfl rfl rfl ?_
          refine wv_gr (pc' := 50) g_X8_13_31 dX8_isShut_47 rfl ?_
          refine wv_iload (pc' := 52) (v := x4) dX8_isShut_50 rfl rfl ?_
          obtain ⟨g8, h⟩ := wd_chk_some h
          refine wv_iald (pc' := 53) sa_33 (wd_in_vp g8) dX8_isShut_52 rfl ?_
          refine wv_goto (pc' := 57) dX8_isShut_53 (by decide) ?_
          refine wv_weak (L' := [some (.inr 31), some (.inl x1), some (.inl x2), none, some (.inl x4)]) ⟨rfl, rfl, rfl, rfl, trivial⟩ ?_
          exact t_X8_isShut_b57 G d hd rec k μ x1 x2 x4 x3 (μ 33 (Int32.toNatClampNeg x4)) hrec hk h
set_option maxRecDepth 100000 in
set_option maxHeartbeats 4000000 in
theorem t_X8_isShut_l10 (G : wd_G) (d : Nat) (hd : 1 ≤ d) {out : Int32} (k : Int32 → Option (Int32)) (μ : wd_Mem) (x1 x2 : Int32) (hk : ∀ (x3 : Int32), k x3 = some out → wd_V G (d + 1) RX8 cX8_isShut 5 (some .boolean) (fun r u => r = some (.inl out) ∧ u = μ) 65 [some (.inr 31), none, none, some (.inl x3), none] [] μ) : ∀ (n : Nat) (x3 x4 : Int32), X8_isShut_l10 k μ x1 x2 n x3 x4 = some out → wd_V G (d + 1) RX8 cX8_isShut 5 (some .boolean) (fun r u => r = some (.inl out) ∧ u = μ) 10 [some (.inr 31), some (.inl x1), some (.inl x2), some (.inl x3), some (.inl x4)] [] μ := by
  intro n
  induction n with
  | zero => intro x3 x4 h; exact absurd h (by unfold X8_isShut_l10; simp)
  | succ n ih =>
    intro x3 x4 h
    exact t_X8_isShut_c10 G d hd (X8_isShut_l10 k μ x1 x2 n) k μ x1 x2 x3 x4  (fun x3 x4 h => ih x3 x4 h) hk h
set_option maxRecDepth 100000 in
set_option maxHeartbeats 4000000 in
theorem t_X8_isShut_b65 (G : wd_G) (d : Nat) (hd : 1 ≤ d) {out : Int32} (μ : wd_Mem) (x3 : Int32)  (h : X8_isShut_b65 μ x3 = some out) : wd_V G (d + 1) RX8 cX8_isShut 5 (some .boolean) (fun r u => r = some (.inl out) ∧ u = μ) 65 [some (.inr 31), none, none, some (.inl x3), none] [] μ := by
  unfold X8_isShut_b65 at h
  refine wv_iload_n (pc' := 66) (i := 3) (v := x3) dX8_isShut_65 rfl rfl rfl ?_
  refine wv_aload_n (pc' := 67) (i := 0) (v := 31) dX8_isShut_66 rfl rfl rfl ?_
  refine wv_gi (pc' := 70) g_X8_59_31 dX8_isShut_67 rfl ?_
  refine wv_icmp_le (pc' := 73) (tgt := 77) dX8_isShut_70 (by decide) rfl (fun c9 => ?_) (fun c9 => ?_)
  · have h := (if_pos c9).symm.trans h
    refine wv_iconst (pc' := 78) dX8_isShut_77 ic_0 rfl ?_
    exact wv_zreturn rfl rfl dX8_isShut_78 (wd_li h)
  · have h := (if_neg c9).symm.trans h
    refine wv_iconst (pc' := 74) dX8_isShut_73 ic_1 rfl ?_
    refine wv_goto (pc' := 78) dX8_isShut_74 (by decide) ?_
    exact wv_zreturn rfl rfl dX8_isShut_78 (wd_li h)
set_option maxRecDepth 100000 in
set_option maxHeartbeats 4000000 in
theorem t_X8_isShut_b0 (G : wd_G) (d : Nat) (hd : 1 ≤ d) {out : Int32} (μ : wd_Mem) (x1 x2 : Int32)  (h : X8_isShut_b0 μ x1 x2 = some out) : wd_V G (d + 1) RX8 cX8_isShut 5 (some .boolean) (fun r u => r = some (.inl out) ∧ u = μ) 0 [some (.inr 31), some (.inl x1), some (.inl x2), none, none] [] μ := by
  unfold X8_isShut_b0 at h
  refine wv_aload_n (pc' := 1) (i := 0) (v := 31) dX8_isShut_0 rfl rfl rfl ?_
  refine wv_gr (pc' := 4) g_X8_13_31 dX8_isShut_1 rfl ?_
  refine wv_iload_n (pc' := 5) (i := 1) (v := x1) dX8_isShut_4 rfl rfl rfl ?_
  obtain ⟨g1, h⟩ := wd_chk_some h
  refine wv_iald (pc' := 6) sa_33 (wd_in_vp g1) dX8_isShut_5 rfl ?_
  refine wv_istore_n (pc' := 7) (i := 3) (L' := [some (.inr 31), some (.inl x1), some (.inl x2), some (.inl (μ 33 (Int32.toNatClampNeg x1))), none]) dX8_isShut_6 rfl (by decide) rfl rfl ?_
  refine wv_iconst (pc' := 8) dX8_isShut_7 ic_0 rfl ?_
  refine wv_istore (pc' := 10) (L' := [some (.inr 31), some (.inl x1), some (.inl x2), some (.inl (μ 33 (Int32.toNatClampNeg x1))), some (.inl (0 : Int32))]) dX8_isShut_8 (by decide) rfl rfl ?_
  exact t_X8_isShut_l10 G d hd (fun x3 => X8_isShut_b65 μ x3) μ x1 x2  (fun x3 h => t_X8_isShut_b65 G d hd μ x3  h) wd_big (μ 33 (Int32.toNatClampNeg x1)) (0 : Int32) h
set_option maxRecDepth 100000 in
set_option maxHeartbeats 4000000 in
theorem c_X8_isShut (G : wd_G) (d : Nat) (hd : 2 ≤ d) {μ : wd_Mem} {x1 x2 : Int32} {out : Int32}  (h : X8_isShut μ x1 x2 = some out) : wd_C G d yX8_isShut [.inr 31, .inl x1, .inl x2] μ (fun r u => r = some (.inl out) ∧ u = μ) := by
  obtain ⟨d, rfl⟩ : ∃ e, d = e + 1 := ⟨d - 1, by omega⟩
  refine wd_enter mc_X8_isShut (by decide) (by decide +kernel) rfl (Nat.le_of_ble_eq_true rfl) (L0 := [some (.inr 31), some (.inl x1), some (.inl x2), none, none]) rfl ?_
  exact t_X8_isShut_b0 G d (by omega) μ x1 x2 h
set_option maxRecDepth 100000 in
set_option maxHeartbeats 4000000 in
theorem t_X8_tells_b0 (G : wd_G) (d : Nat) (hd : 0 ≤ d) {out : wd_Mem} (μ : wd_Mem) (x1 x2 x3 : Int32)  (h : X8_tells_b0 μ x1 x2 x3 = some out) : wd_V G (d + 1) RX8 cX8_tells 4 none (fun r u => r = none ∧ u = out) 0 [some (.inr 31), some (.inl x1), some (.inl x2), some (.inl x3)] [] μ := by
  unfold X8_tells_b0 at h
  refine wv_iload_n (pc' := 1) (i := 2) (v := x2) dX8_tells_0 rfl rfl rfl ?_
  refine wv_aload_n (pc' := 2) (i := 0) (v := 31) dX8_tells_1 rfl rfl rfl ?_
  refine wv_gr (pc' := 5) g_X8_41_31 dX8_tells_2 rfl ?_
  refine wv_iload_n (pc' := 6) (i := 1) (v := x1) dX8_tells_5 rfl rfl rfl ?_
  obtain ⟨g1, h⟩ := wd_chk_some h
  refine wv_iald (pc' := 7) sa_42 (wd_in_vp g1) dX8_tells_6 rfl ?_
  refine wv_icmp_le (pc' := 10) (tgt := 24) dX8_tells_7 (by decide) rfl (fun c2 => ?_) (fun c2 => ?_)
  · have h := (if_pos c2).symm.trans h
    exact wv_return rfl dX8_tells_24 (wd_lv h)
  · have h := (if_neg c2).symm.trans h
    refine wv_aload_n (pc' := 11) (i := 0) (v := 31) dX8_tells_10 rfl rfl rfl ?_
    refine wv_gr (pc' := 14) g_X8_41_31 dX8_tells_11 rfl ?_
    refine wv_iload_n (pc' := 15) (i := 1) (v := x1) dX8_tells_14 rfl rfl rfl ?_
    refine wv_iload_n (pc' := 16) (i := 2) (v := x2) dX8_tells_15 rfl rfl rfl ?_
    refine wv_iast (pc' := 17) sa_42 (wd_in_vp g1) dX8_tells_16 rfl ?_
    refine wv_aload_n (pc' := 18) (i := 0) (v := 31) dX8_tells_17 rfl rfl rfl ?_
    refine wv_gr (pc' := 21) g_X8_44_31 dX8_tells_18 rfl ?_
    refine wv_iload_n (pc' := 22) (i := 1) (v := x1) dX8_tells_21 rfl rfl rfl ?_
    refine wv_iload_n (pc' := 23) (i := 3) (v := x3) dX8_tells_22 rfl rfl rfl ?_
    refine wv_iast (pc' := 24) sa_43 (wd_in_vp g1) dX8_tells_23 rfl ?_
    exact wv_return rfl dX8_tells_24 (wd_lv h)
set_option maxRecDepth 100000 in
set_option maxHeartbeats 4000000 in
theorem c_X8_tells (G : wd_G) (d : Nat) (hd : 1 ≤ d) {μ : wd_Mem} {x1 x2 x3 : Int32} {out : wd_Mem}  (h : X8_tells μ x1 x2 x3 = some out) : wd_C G d yX8_tells [.inr 31, .inl x1, .inl x2, .inl x3] μ (fun r u => r = none ∧ u = out) := by
  obtain ⟨d, rfl⟩ : ∃ e, d = e + 1 := ⟨d - 1, by omega⟩
  refine wd_enter mc_X8_tells (by decide) (by decide +kernel) rfl (Nat.le_of_ble_eq_true rfl) (L0 := [some (.inr 31), some (.inl x1), some (.inl x2), some (.inl x3)]) rfl ?_
  exact t_X8_tells_b0 G d (by omega) μ x1 x2 x3 h
set_option maxRecDepth 100000 in
set_option maxHeartbeats 4000000 in
theorem t_X8_musts_b61 (G : wd_G) (d : Nat) (hd : 2 ≤ d) {out : wd_Mem} (rec : Int32 → Int32 → Option (wd_Mem)) (k : Int32 → Option (wd_Mem)) (μ : wd_Mem) (x1 x2 x4 s0 : Int32) (hrec : ∀ (x3 x4 : Int32), rec x3 x4 = some out → wd_V G (d + 1) RX8 cX8_musts 5 none (fun r u => r = none ∧ u = out) 29 [some (.inr 31), some (.inl x1), some (.inl x2), some (.inl x3), some (.inl x4)] [] μ) (hk : ∀ (x3 : Int32), k x3 = some out → wd_V G (d + 1) RX8 cX8_musts 5 none (fun r u => r = none ∧ u = out) 68 [some (.inr 31), some (.inl x1), some (.inl x2), some (.inl x3), none] [] μ) (h : X8_musts_b61 rec k μ x1 x2 x4 s0 = some out) : wd_V G (d + 1) RX8 cX8_musts 5 none (fun r u => r = none ∧ u = out) 61 [some (.inr 31), some (.inl x1), some (.inl x2), none, some (.inl x4)] [.inl s0] μ := by
  unfold X8_musts_b61 at h
  refine wv_istore_n (pc' := 62) (i := 3) (L' := [some (.inr 31), some (.inl x1), some (.inl x2), some (.inl s0), some (.inl x4)]) dX8_musts_61 rfl (by decide) rfl rfl ?_
  refine wv_inc (pc' := 65) (x := x4) (L' := [some (.inr 31), some (.inl x1), some (.inl x2), some (.inl s0), some (.inl (x4 + (1 : Int32)))]) dX8_musts_62 ic_1 rfl (by decide) rfl rfl ?_
  refine wv_goto (pc' := 29) dX8_musts_65 (by decide) ?_
  exact hrec _ _ h
set_option maxRecDepth 100000 in
set_option maxHeartbeats 4000000 in
theorem t_X8_musts_b60 (G : wd_G) (d : Nat) (hd : 2 ≤ d) {out : wd_Mem} (rec : Int32 → Int32 → Option (wd_Mem)) (k : Int32 → Option (wd_Mem)) (μ : wd_Mem) (x1 x2 x4 : Int32) (hrec : ∀ (x3 x4 : Int32), rec x3 x4 = some out → wd_V G (d + 1) RX8 cX8_musts 5 none (fun r u => r = none ∧ u = out) 29 [some (.inr 31), some (.inl x1), some (.inl x2), some (.inl x3), some (.inl x4)] [] μ) (hk : ∀ (x3 : Int32), k x3 = some out → wd_V G (d + 1) RX8 cX8_musts 5 none (fun r u => r = none ∧ u = out) 68 [some (.inr 31), some (.inl x1), some (.inl x2), some (.inl x3), none] [] μ) (h : X8_musts_b60 rec k μ x1 x2 x4 = some out) : wd_V G (d + 1) RX8 cX8_musts 5 none (fun r u => r = none ∧ u = out) 60 [some (.inr 31), some (.inl x1), some (.inl x2), none, some (.inl x4)] [] μ := by
  unfold X8_musts_b60 at h
  refine wv_iconst (pc' := 61) dX8_musts_60 ic_0 rfl ?_
  exact t_X8_musts_b61 G d hd rec k μ x1 x2 x4 (0 : Int32) hrec hk h
set_option maxRecDepth 100000 in
set_option maxHeartbeats 4000000 in
theorem t_X8_musts_c29 (G : wd_G) (d : Nat) (hd : 2 ≤ d) {out : wd_Mem} (rec : Int32 → Int32 → Option (wd_Mem)) (k : Int32 → Option (wd_Mem)) (μ : wd_Mem) (x1 x2 x3 x4 : Int32) (hrec : ∀ (x3 x4 : Int32), rec x3 x4 = some out → wd_V G (d + 1) RX8 cX8_musts 5 none (fun r u => r = none ∧ u = out) 29 [some (.inr 31), some (.inl x1), some (.inl x2), some (.inl x3), some (.inl x4)] [] μ) (hk : ∀ (x3 : Int32), k x3 = some out → wd_V G (d + 1) RX8 cX8_musts 5 none (fun r u => r = none ∧ u = out) 68 [some (.inr 31), some (.inl x1), some (.inl x2), some (.inl x3), none] [] μ) (h : X8_musts_c29 rec k μ x1 x2 x3 x4 = some out) : wd_V G (d + 1) RX8 cX8_musts 5 none (fun r u => r = none ∧ u = out) 29 [some (.inr 31), some (.inl x1), some (.inl x2), some (.inl x3), some (.inl x4)] [] μ := by
  unfold X8_musts_c29 at h
  refine wv_iload (pc' := 31) (v := x4) dX8_musts_29 rfl rfl ?_
  refine wv_iload_n (pc' := 32) (i := 2) (v := x2) dX8_musts_31 rfl rfl rfl ?_
  refine wv_aload_n (pc' := 33) (i := 0) (v := 31) dX8_musts_32 rfl rfl rfl ?_
  refine wv_gr (pc' := 36) g_X8_7_31 dX8_musts_33 rfl ?_
  refine wv_iload_n (pc' := 37) (i := 1) (v := x1) dX8_musts_36 rfl rfl rfl ?_
  obtain ⟨g4, h⟩ := wd_chk_some h
  refine wv_iald (pc' := 38) sa_32 (wd_in_vp g4) dX8_musts_37 rfl ?_
  refine wv_iadd (pc' := 39) dX8_musts_38 rfl ?_
  refine wv_icmp_ge (pc' := 42) (tgt := 68) dX8_musts_39 (by decide) rfl (fun c5 => ?_) (fun c5 => ?_)
  · have h := (if_pos c5).symm.trans h
    refine wv_weak (L' := [some (.inr 31), some (.inl x1), some (.inl x2), some (.inl x3), none]) ⟨rfl, rfl, rfl, rfl, trivial⟩ ?_
    exact hk _ h
  · have h := (if_neg c5).symm.trans h
    refine wv_iload_n (pc' := 43) (i := 3) (v := x3) dX8_musts_42 rfl rfl rfl ?_
    refine wv_if_eq (pc' := 46) (tgt := 60) dX8_musts_43 (by decide) rfl (fun c6 => ?_) (fun c6 => ?_)
    · have h := (if_pos c6).symm.trans h
      refine wv_weak (L' := [some (.inr 31), some (.inl x1), some (.inl x2), none, some (.inl x4)]) ⟨rfl, rfl, rfl, rfl, trivial⟩ ?_
      exact t_X8_musts_b60 G d hd rec k μ x1 x2 x4 hrec hk h
    · have h := (if_neg c6).symm.trans h
      refine wv_aload_n (pc' := 47) (i := 0) (v := 31) dX8_musts_46 rfl rfl rfl ?_
      refine wv_iload_n (pc' := 48) (i := 1) (v := x1) dX8_musts_47 rfl rfl rfl ?_
      refine wv_iload (pc' := 50) (v := x4) dX8_musts_48 rfl rfl ?_
      obtain ⟨r7, er7, h⟩ := wd_bind_some h
      refine wv_callVi (pc' := 53) (x := r7) (ν := μ) [.inl x1, .inl x4] ml_X8_134 rc_31 rfl (Nat.le_of_ble_eq_true rfl) dX8_musts_50 rfl (c_X8_isShut G d (Nat.le_trans (Nat.le_of_ble_eq_true rfl) hd)  er7) ?_
      refine wv_if_ne (pc' := 56) (tgt := 60) dX8_musts_53 (by decide) rfl (fun c8 => ?_) (fun c8 => ?_)
      · have h := (if_neg c8).symm.trans h
        refine wv_weak (L' := [some (.inr 31), some (.inl x1), some (.inl x2), none, some (.inl x4)]) ⟨rfl, rfl, rfl, rfl, trivial⟩ ?_
        exact t_X8_musts_b60 G d hd rec k μ x1 x2 x4 hrec hk h
      · have h := (if_pos c8).symm.trans h
        refine wv_iconst (pc' := 57) dX8_musts_56 ic_1 rfl ?_
        refine wv_goto (pc' := 61) dX8_musts_57 (by decide) ?_
        refine wv_weak (L' := [some (.inr 31), some (.inl x1), some (.inl x2), none, some (.inl x4)]) ⟨rfl, rfl, rfl, rfl, trivial⟩ ?_
        exact t_X8_musts_b61 G d hd rec k μ x1 x2 x4 (1 : Int32) hrec hk h
set_option maxRecDepth 100000 in
set_option maxHeartbeats 4000000 in
theorem t_X8_musts_l29 (G : wd_G) (d : Nat) (hd : 2 ≤ d) {out : wd_Mem} (k : Int32 → Option (wd_Mem)) (μ : wd_Mem) (x1 x2 : Int32) (hk : ∀ (x3 : Int32), k x3 = some out → wd_V G (d + 1) RX8 cX8_musts 5 none (fun r u => r = none ∧ u = out) 68 [some (.inr 31), some (.inl x1), some (.inl x2), some (.inl x3), none] [] μ) : ∀ (n : Nat) (x3 x4 : Int32), X8_musts_l29 k μ x1 x2 n x3 x4 = some out → wd_V G (d + 1) RX8 cX8_musts 5 none (fun r u => r = none ∧ u = out) 29 [some (.inr 31), some (.inl x1), some (.inl x2), some (.inl x3), some (.inl x4)] [] μ := by
  intro n
  induction n with
  | zero => intro x3 x4 h; exact absurd h (by unfold X8_musts_l29; simp)
  | succ n ih =>
    intro x3 x4 h
    exact t_X8_musts_c29 G d hd (X8_musts_l29 k μ x1 x2 n) k μ x1 x2 x3 x4  (fun x3 x4 h => ih x3 x4 h) hk h
set_option maxRecDepth 100000 in
set_option maxHeartbeats 4000000 in
theorem t_X8_musts_b68 (G : wd_G) (d : Nat) (hd : 2 ≤ d) {out : wd_Mem} (rec : Int32 → Option (wd_Mem)) (k : Option (wd_Mem)) (μ : wd_Mem) (x1 x2 x3 : Int32) (hrec : ∀ (x2 : Int32), rec x2 = some out → wd_V G (d + 1) RX8 cX8_musts 5 none (fun r u => r = none ∧ u = out) 7 [some (.inr 31), some (.inl x1), some (.inl x2), none, none] [] μ) (hk : k = some out → wd_V G (d + 1) RX8 cX8_musts 5 none (fun r u => r = none ∧ u = out) 86 [some (.inr 31), some (.inl x1), none, none, none] [] μ) (h : X8_musts_b68 rec k μ x1 x2 x3 = some out) : wd_V G (d + 1) RX8 cX8_musts 5 none (fun r u => r = none ∧ u = out) 68 [some (.inr 31), some (.inl x1), some (.inl x2), some (.inl x3), none] [] μ := by
  unfold X8_musts_b68 at h
  refine wv_iload_n (pc' := 69) (i := 3) (v := x3) dX8_musts_68 rfl rfl rfl ?_
  refine wv_if_eq (pc' := 72) (tgt := 80) dX8_musts_69 (by decide) rfl (fun c9 => ?_) (fun c9 => ?_)
  · have h := (if_pos c9).symm.trans h
    refine wv_inc (pc' := 83) (x := x2) (L' := [some (.inr 31), some (.inl x1), some (.inl (x2 + (1 : Int32))), some (.inl x3), none]) dX8_musts_80 ic_1 rfl (by decide) rfl rfl ?_
    refine wv_goto (pc' := 7) dX8_musts_83 (by decide) ?_
    refine wv_weak (L' := [some (.inr 31), some (.inl x1), some (.inl (x2 + (1 : Int32))), none, none]) ⟨rfl, rfl, rfl, trivial⟩ ?_
    exact hrec _ h
  · have h := (if_neg c9).symm.trans h
    refine wv_aload_n (pc' := 73) (i := 0) (v := 31) dX8_musts_72 rfl rfl rfl ?_
    refine wv_iload_n (pc' := 74) (i := 1) (v := x1) dX8_musts_73 rfl rfl rfl ?_
    refine wv_iload_n (pc' := 75) (i := 2) (v := x2) dX8_musts_74 rfl rfl rfl ?_
    refine wv_iconst (pc' := 76) dX8_musts_75 ic_0 rfl ?_
    obtain ⟨r10, er10, h⟩ := wd_bind_some h
    refine wv_callVv (pc' := 79) (ν := r10) [.inl x1, .inl x2, .inl (0 : Int32)] ml_X8_137 rc_31 rfl (Nat.le_of_ble_eq_true rfl) dX8_musts_76 rfl (c_X8_tells G d (Nat.le_trans (Nat.le_of_ble_eq_true rfl) hd)  er10) ?_
    exact wv_return rfl dX8_musts_79 (wd_lv h)
set_option maxRecDepth 100000 in
set_option maxHeartbeats 4000000 in
theorem t_X8_musts_c7 (G : wd_G) (d : Nat) (hd : 2 ≤ d) {out : wd_Mem} (rec : Int32 → Option (wd_Mem)) (k : Option (wd_Mem)) (μ : wd_Mem) (x1 x2 : Int32) (hrec : ∀ (x2 : Int32), rec x2 = some out → wd_V G (d + 1) RX8 cX8_musts 5 none (fun r u => r = none ∧ u = out) 7 [some (.inr 31), some (.inl x1), some (.inl x2), none, none] [] μ) (hk : k = some out → wd_V G (d + 1) RX8 cX8_musts 5 none (fun r u => r = none ∧ u = out) 86 [some (.inr 31), some (.inl x1), none, none, none] [] μ) (h : X8_musts_c7 rec k μ x1 x2 = some out) : wd_V G (d + 1) RX8 cX8_musts 5 none (fun r u => r = none ∧ u = out) 7 [some (.inr 31), some (.inl x1), some (.inl x2), none, none] [] μ := by
  unfold X8_musts_c7 at h
  refine wv_iload_n (pc' := 8) (i := 2) (v := x2) dX8_musts_7 rfl rfl rfl ?_
  refine wv_aload_n (pc' := 9) (i := 0) (v := 31) dX8_musts_8 rfl rfl rfl ?_
  refine wv_gr (pc' := 12) g_X8_7_31 dX8_musts_9 rfl ?_
  refine wv_iload_n (pc' := 13) (i := 1) (v := x1) dX8_musts_12 rfl rfl rfl ?_
  obtain ⟨g2, h⟩ := wd_chk_some h
  refine wv_iald (pc' := 14) sa_32 (wd_in_vp g2) dX8_musts_13 rfl ?_
  refine wv_iadd (pc' := 15) dX8_musts_14 rfl ?_
  refine wv_aload_n (pc' := 16) (i := 0) (v := 31) dX8_musts_15 rfl rfl rfl ?_
  refine wv_gr (pc' := 19) g_X8_38_31 dX8_musts_16 rfl ?_
  refine wv_iload_n (pc' := 20) (i := 1) (v := x1) dX8_musts_19 rfl rfl rfl ?_
  refine wv_iald (pc' := 21) sa_41 (wd_in_vp g2) dX8_musts_20 rfl ?_
  refine wv_icmp_gt (pc' := 24) (tgt := 86) dX8_musts_21 (by decide) rfl (fun c3 => ?_) (fun c3 => ?_)
  · have h := (if_pos c3).symm.trans h
    refine wv_weak (L' := [some (.inr 31), some (.inl x1), none, none, none]) ⟨rfl, rfl, trivial⟩ ?_
    exact hk  h
  · have h := (if_neg c3).symm.trans h
    refine wv_iconst (pc' := 25) dX8_musts_24 ic_1 rfl ?_
    refine wv_istore_n (pc' := 26) (i := 3) (L' := [some (.inr 31), some (.inl x1), some (.inl x2), some (.inl (1 : Int32)), none]) dX8_musts_25 rfl (by decide) rfl rfl ?_
    refine wv_iload_n (pc' := 27) (i := 2) (v := x2) dX8_musts_26 rfl rfl rfl ?_
    refine wv_istore (pc' := 29) (L' := [some (.inr 31), some (.inl x1), some (.inl x2), some (.inl (1 : Int32)), some (.inl x2)]) dX8_musts_27 (by decide) rfl rfl ?_
    exact t_X8_musts_l29 G d hd (fun x3 => X8_musts_b68 rec k μ x1 x2 x3) μ x1 x2  (fun x3 h => t_X8_musts_b68 G d hd rec k μ x1 x2 x3 hrec hk h) wd_big (1 : Int32) x2 h
set_option maxRecDepth 100000 in
set_option maxHeartbeats 4000000 in
theorem t_X8_musts_l7 (G : wd_G) (d : Nat) (hd : 2 ≤ d) {out : wd_Mem} (k : Option (wd_Mem)) (μ : wd_Mem) (x1 : Int32) (hk : k = some out → wd_V G (d + 1) RX8 cX8_musts 5 none (fun r u => r = none ∧ u = out) 86 [some (.inr 31), some (.inl x1), none, none, none] [] μ) : ∀ (n : Nat) (x2 : Int32), X8_musts_l7 k μ x1 n x2 = some out → wd_V G (d + 1) RX8 cX8_musts 5 none (fun r u => r = none ∧ u = out) 7 [some (.inr 31), some (.inl x1), some (.inl x2), none, none] [] μ := by
  intro n
  induction n with
  | zero => intro x2 h; exact absurd h (by unfold X8_musts_l7; simp)
  | succ n ih =>
    intro x2 h
    exact t_X8_musts_c7 G d hd (X8_musts_l7 k μ x1 n) k μ x1 x2  (fun x2 h => ih x2 h) hk h
set_option maxRecDepth 100000 in
set_option maxHeartbeats 4000000 in
theorem t_X8_musts_b86 (G : wd_G) (d : Nat) (hd : 2 ≤ d) {out : wd_Mem} (μ : wd_Mem) (x1 : Int32)  (h : X8_musts_b86 μ x1 = some out) : wd_V G (d + 1) RX8 cX8_musts 5 none (fun r u => r = none ∧ u = out) 86 [some (.inr 31), some (.inl x1), none, none, none] [] μ := by
  unfold X8_musts_b86 at h
  refine wv_aload_n (pc' := 87) (i := 0) (v := 31) dX8_musts_86 rfl rfl rfl ?_
  refine wv_iload_n (pc' := 88) (i := 1) (v := x1) dX8_musts_87 rfl rfl rfl ?_
  refine wv_bipush (pc' := 90) dX8_musts_88 bp_99 rfl ?_
  refine wv_iconst (pc' := 91) dX8_musts_90 ic_0 rfl ?_
  obtain ⟨r11, er11, h⟩ := wd_bind_some h
  refine wv_callVv (pc' := 94) (ν := r11) [.inl x1, .inl (99 : Int32), .inl (0 : Int32)] ml_X8_137 rc_31 rfl (Nat.le_of_ble_eq_true rfl) dX8_musts_91 rfl (c_X8_tells G d (Nat.le_trans (Nat.le_of_ble_eq_true rfl) hd)  er11) ?_
  exact wv_return rfl dX8_musts_94 (wd_lv h)
set_option maxRecDepth 100000 in
set_option maxHeartbeats 4000000 in
theorem t_X8_musts_b0 (G : wd_G) (d : Nat) (hd : 2 ≤ d) {out : wd_Mem} (μ : wd_Mem) (x1 : Int32)  (h : X8_musts_b0 μ x1 = some out) : wd_V G (d + 1) RX8 cX8_musts 5 none (fun r u => r = none ∧ u = out) 0 [some (.inr 31), some (.inl x1), none, none, none] [] μ := by
  unfold X8_musts_b0 at h
  refine wv_aload_n (pc' := 1) (i := 0) (v := 31) dX8_musts_0 rfl rfl rfl ?_
  refine wv_gr (pc' := 4) g_X8_35_31 dX8_musts_1 rfl ?_
  refine wv_iload_n (pc' := 5) (i := 1) (v := x1) dX8_musts_4 rfl rfl rfl ?_
  obtain ⟨g1, h⟩ := wd_chk_some h
  refine wv_iald (pc' := 6) sa_40 (wd_in_vp g1) dX8_musts_5 rfl ?_
  refine wv_istore_n (pc' := 7) (i := 2) (L' := [some (.inr 31), some (.inl x1), some (.inl (μ 40 (Int32.toNatClampNeg x1))), none, none]) dX8_musts_6 rfl (by decide) rfl rfl ?_
  exact t_X8_musts_l7 G d hd (X8_musts_b86 μ x1) μ x1  (fun  h => t_X8_musts_b86 G d hd μ x1  h) wd_big (μ 40 (Int32.toNatClampNeg x1)) h
set_option maxRecDepth 100000 in
set_option maxHeartbeats 4000000 in
theorem c_X8_musts (G : wd_G) (d : Nat) (hd : 3 ≤ d) {μ : wd_Mem} {x1 : Int32} {out : wd_Mem}  (h : X8_musts μ x1 = some out) : wd_C G d yX8_musts [.inr 31, .inl x1] μ (fun r u => r = none ∧ u = out) := by
  obtain ⟨d, rfl⟩ : ∃ e, d = e + 1 := ⟨d - 1, by omega⟩
  refine wd_enter mc_X8_musts (by decide) (by decide +kernel) rfl (Nat.le_of_ble_eq_true rfl) (L0 := [some (.inr 31), some (.inl x1), none, none, none]) rfl ?_
  exact t_X8_musts_b0 G d (by omega) μ x1 h
set_option maxRecDepth 100000 in
set_option maxHeartbeats 4000000 in
theorem t_X8_all_b0 (G : wd_G) (d : Nat) (hd : 0 ≤ d) {out : Int32} (μ : wd_Mem)  (h : X8_all_b0 μ = out) : wd_V G (d + 1) RX8 cX8_all 1 (some .int) (fun r u => r = some (.inl out) ∧ u = μ) 0 [some (.inr 31)] [] μ := by
  unfold X8_all_b0 at h
  refine wv_iconst (pc' := 1) dX8_all_0 ic_1 rfl ?_
  refine wv_aload_n (pc' := 2) (i := 0) (v := 31) dX8_all_1 rfl rfl rfl ?_
  refine wv_gi (pc' := 5) g_X8_118_31 dX8_all_2 rfl ?_
  refine wv_ishl (pc' := 6) dX8_all_5 rfl ?_
  refine wv_iconst (pc' := 7) dX8_all_6 ic_1 rfl ?_
  refine wv_isub (pc' := 8) dX8_all_7 rfl ?_
  exact wv_ireturn rfl dX8_all_8 (wd_lt h)
set_option maxRecDepth 100000 in
set_option maxHeartbeats 4000000 in
theorem c_X8_all (G : wd_G) (d : Nat) (hd : 1 ≤ d) {μ : wd_Mem} {out : Int32}  (h : X8_all μ = out) : wd_C G d yX8_all [.inr 31] μ (fun r u => r = some (.inl out) ∧ u = μ) := by
  obtain ⟨d, rfl⟩ : ∃ e, d = e + 1 := ⟨d - 1, by omega⟩
  refine wd_enter mc_X8_all (by decide) (by decide +kernel) rfl (Nat.le_of_ble_eq_true rfl) (L0 := [some (.inr 31)]) rfl ?_
  exact t_X8_all_b0 G d (by omega) μ  h
set_option maxRecDepth 100000 in
set_option maxHeartbeats 4000000 in
theorem t_X8_has_b0 (G : wd_G) (d : Nat) (hd : 0 ≤ d) {out : Int32} (μ : wd_Mem) (x0 x1 : Int32)  (h : X8_has_b0 μ x0 x1 = out) : wd_V G (d + 1) RX8 cX8_has 2 (some .boolean) (fun r u => r = some (.inl out) ∧ u = μ) 0 [some (.inl x0), some (.inl x1)] [] μ := by
  unfold X8_has_b0 at h
  refine wv_iload_n (pc' := 1) (i := 0) (v := x0) dX8_has_0 rfl rfl rfl ?_
  refine wv_iload_n (pc' := 2) (i := 1) (v := x1) dX8_has_1 rfl rfl rfl ?_
  refine wv_ishr (pc' := 3) dX8_has_2 rfl ?_
  refine wv_iconst (pc' := 4) dX8_has_3 ic_1 rfl ?_
  refine wv_iand (pc' := 5) dX8_has_4 rfl ?_
  refine wv_iconst (pc' := 6) dX8_has_5 ic_1 rfl ?_
  refine wv_icmp_ne (pc' := 9) (tgt := 13) dX8_has_6 (by decide) rfl (fun c1 => ?_) (fun c1 => ?_)
  · have h := (if_neg c1).symm.trans h
    refine wv_iconst (pc' := 14) dX8_has_13 ic_0 rfl ?_
    exact wv_zreturn rfl rfl dX8_has_14 (wd_lt h)
  · have h := (if_pos c1).symm.trans h
    refine wv_iconst (pc' := 10) dX8_has_9 ic_1 rfl ?_
    refine wv_goto (pc' := 14) dX8_has_10 (by decide) ?_
    exact wv_zreturn rfl rfl dX8_has_14 (wd_lt h)
set_option maxRecDepth 100000 in
set_option maxHeartbeats 4000000 in
theorem c_X8_has (G : wd_G) (d : Nat) (hd : 1 ≤ d) {μ : wd_Mem} {x0 x1 : Int32} {out : Int32}  (h : X8_has μ x0 x1 = out) : wd_C G d yX8_has [.inl x0, .inl x1] μ (fun r u => r = some (.inl out) ∧ u = μ) := by
  obtain ⟨d, rfl⟩ : ∃ e, d = e + 1 := ⟨d - 1, by omega⟩
  refine wd_enter mc_X8_has (by decide) (by decide +kernel) rfl (Nat.le_of_ble_eq_true rfl) (L0 := [some (.inl x0), some (.inl x1)]) rfl ?_
  exact t_X8_has_b0 G d (by omega) μ x0 x1 h
set_option maxRecDepth 100000 in
set_option maxHeartbeats 4000000 in
theorem t_X8_setEarly_b41 (G : wd_G) (d : Nat) (hd : 1 ≤ d) {out : Int32} (rec : Int32 → Int32 → Option (Int32)) (k : Int32 → Option (Int32)) (μ : wd_Mem) (x1 x3 s0 : Int32) (hrec : ∀ (x2 x3 : Int32), rec x2 x3 = some out → wd_V G (d + 1) RX8 cX8_setEarly 4 (some .int) (fun r u => r = some (.inl out) ∧ u = μ) 5 [some (.inr 31), some (.inl x1), some (.inl x2), some (.inl x3)] [] μ) (hk : ∀ (x2 : Int32), k x2 = some out → wd_V G (d + 1) RX8 cX8_setEarly 4 (some .int) (fun r u => r = some (.inl out) ∧ u = μ) 48 [some (.inr 31), none, some (.inl x2), none] [] μ) (h : X8_setEarly_b41 rec k μ x1 x3 s0 = some out) : wd_V G (d + 1) RX8 cX8_setEarly 4 (some .int) (fun r u => r = some (.inl out) ∧ u = μ) 41 [some (.inr 31), some (.inl x1), none, some (.inl x3)] [.inl s0] μ := by
  unfold X8_setEarly_b41 at h
  refine wv_istore_n (pc' := 42) (i := 2) (L' := [some (.inr 31), some (.inl x1), some (.inl s0), some (.inl x3)]) dX8_setEarly_41 rfl (by decide) rfl rfl ?_
  refine wv_inc (pc' := 45) (x := x3) (L' := [some (.inr 31), some (.inl x1), some (.inl s0), some (.inl (x3 + (1 : Int32)))]) dX8_setEarly_42 ic_1 rfl (by decide) rfl rfl ?_
  refine wv_goto (pc' := 5) dX8_setEarly_45 (by decide) ?_
  exact hrec _ _ h
set_option maxRecDepth 100000 in
set_option maxHeartbeats 4000000 in
theorem t_X8_setEarly_b40 (G : wd_G) (d : Nat) (hd : 1 ≤ d) {out : Int32} (rec : Int32 → Int32 → Option (Int32)) (k : Int32 → Option (Int32)) (μ : wd_Mem) (x1 x2 x3 : Int32) (hrec : ∀ (x2 x3 : Int32), rec x2 x3 = some out → wd_V G (d + 1) RX8 cX8_setEarly 4 (some .int) (fun r u => r = some (.inl out) ∧ u = μ) 5 [some (.inr 31), some (.inl x1), some (.inl x2), some (.inl x3)] [] μ) (hk : ∀ (x2 : Int32), k x2 = some out → wd_V G (d + 1) RX8 cX8_setEarly 4 (some .int) (fun r u => r = some (.inl out) ∧ u = μ) 48 [some (.inr 31), none, some (.inl x2), none] [] μ) (h : X8_setEarly_b40 rec k μ x1 x2 x3 = some out) : wd_V G (d + 1) RX8 cX8_setEarly 4 (some .int) (fun r u => r = some (.inl out) ∧ u = μ) 40 [some (.inr 31), some (.inl x1), some (.inl x2), some (.inl x3)] [] μ := by
  unfold X8_setEarly_b40 at h
  refine wv_iload_n (pc' := 41) (i := 2) (v := x2) dX8_setEarly_40 rfl rfl rfl ?_
  refine wv_weak (L' := [some (.inr 31), some (.inl x1), none, some (.inl x3)]) ⟨rfl, rfl, rfl, trivial⟩ ?_
  exact t_X8_setEarly_b41 G d hd rec k μ x1 x3 x2 hrec hk h
set_option maxRecDepth 100000 in
set_option maxHeartbeats 4000000 in
theorem t_X8_setEarly_c5 (G : wd_G) (d : Nat) (hd : 1 ≤ d) {out : Int32} (rec : Int32 → Int32 → Option (Int32)) (k : Int32 → Option (Int32)) (μ : wd_Mem) (x1 x2 x3 : Int32) (hrec : ∀ (x2 x3 : Int32), rec x2 x3 = some out → wd_V G (d + 1) RX8 cX8_setEarly 4 (some .int) (fun r u => r = some (.inl out) ∧ u = μ) 5 [some (.inr 31), some (.inl x1), some (.inl x2), some (.inl x3)] [] μ) (hk : ∀ (x2 : Int32), k x2 = some out → wd_V G (d + 1) RX8 cX8_setEarly 4 (some .int) (fun r u => r = some (.inl out) ∧ u = μ) 48 [some (.inr 31), none, some (.inl x2), none] [] μ) (h : X8_setEarly_c5 rec k μ x1 x2 x3 = some out) : wd_V G (d + 1) RX8 cX8_setEarly 4 (some .int) (fun r u => r = some (.inl out) ∧ u = μ) 5 [some (.inr 31), some (.inl x1), some (.inl x2), some (.inl x3)] [] μ := by
  unfold X8_setEarly_c5 at h
  refine wv_iload_n (pc' := 6) (i := 3) (v := x3) dX8_setEarly_5 rfl rfl rfl ?_
  refine wv_aload_n (pc' := 7) (i := 0) (v := 31) dX8_setEarly_6 rfl rfl rfl ?_
  refine wv_gi (pc' := 10) g_X8_118_31 dX8_setEarly_7 rfl ?_
  refine wv_icmp_ge (pc' := 13) (tgt := 48) dX8_setEarly_10 (by decide) rfl (fun c1 => ?_) (fun c1 => ?_)
  · have h := (if_pos c1).symm.trans h
    refine wv_weak (L' := [some (.inr 31), none, some (.inl x2), none]) ⟨rfl, rfl, trivial⟩ ?_
    exact hk _ h
  · have h := (if_neg c1).symm.trans h
    refine wv_iload_n (pc' := 14) (i := 1) (v := x1) dX8_setEarly_13 rfl rfl rfl ?_
    refine wv_iload_n (pc' := 15) (i := 3) (v := x3) dX8_setEarly_14 rfl rfl rfl ?_
    refine wv_callSi (pc' := 18) (x := (X8_has μ x1 x3)) (ν := μ) [.inl x1, .inl x3] ml_X8_124 rfl (Nat.le_of_ble_eq_true rfl) dX8_setEarly_15 rfl (c_X8_has G d (Nat.le_trans (Nat.le_of_ble_eq_true rfl) hd)  rfl) ?_
    refine wv_if_eq (pc' := 21) (tgt := 40) dX8_setEarly_18 (by decide) rfl (fun c2 => ?_) (fun c2 => ?_)
    · have h := (if_pos c2).symm.trans h
      exact t_X8_setEarly_b40 G d hd rec k μ x1 x2 x3 hrec hk h
    · have h := (if_neg c2).symm.trans h
      refine wv_aload_n (pc' := 22) (i := 0) (v := 31) dX8_setEarly_21 rfl rfl rfl ?_
      refine wv_gr (pc' := 25) g_X8_35_31 dX8_setEarly_22 rfl ?_
      refine wv_iload_n (pc' := 26) (i := 3) (v := x3) dX8_setEarly_25 rfl rfl rfl ?_
      obtain ⟨g3, h⟩ := wd_chk_some h
      refine wv_iald (pc' := 27) sa_40 (wd_in_vp g3) dX8_setEarly_26 rfl ?_
      refine wv_iload_n (pc' := 28) (i := 2) (v := x2) dX8_setEarly_27 rfl rfl rfl ?_
      refine wv_icmp_ge (pc' := 31) (tgt := 40) dX8_setEarly_28 (by decide) rfl (fun c4 => ?_) (fun c4 => ?_)
      · have h := (if_pos c4).symm.trans h
        exact t_X8_setEarly_b40 G d hd rec k μ x1 x2 x3 hrec hk h
      · have h := (if_neg c4).symm.trans h
        refine wv_aload_n (pc' := 32) (i := 0) (v := 31) dX8_setEarly_31 rfl rfl rfl ?_
        refine wv_gr (pc' := 35) g_X8_35_31 dX8_setEarly_32 rfl ?_
        refine wv_iload_n (pc' := 36) (i := 3) (v := x3) dX8_setEarly_35 rfl rfl rfl ?_
        refine wv_iald (pc' := 37) sa_40 (wd_in_vp g3) dX8_setEarly_36 rfl ?_
        refine wv_goto (pc' := 41) dX8_setEarly_37 (by decide) ?_
        refine wv_weak (L' := [some (.inr 31), some (.inl x1), none, some (.inl x3)]) ⟨rfl, rfl, rfl, trivial⟩ ?_
        exact t_X8_setEarly_b41 G d hd rec k μ x1 x3 (μ 40 (Int32.toNatClampNeg x3)) hrec hk h
set_option maxRecDepth 100000 in
set_option maxHeartbeats 4000000 in
theorem t_X8_setEarly_l5 (G : wd_G) (d : Nat) (hd : 1 ≤ d) {out : Int32} (k : Int32 → Option (Int32)) (μ : wd_Mem) (x1 : Int32) (hk : ∀ (x2 : Int32), k x2 = some out → wd_V G (d + 1) RX8 cX8_setEarly 4 (some .int) (fun r u => r = some (.inl out) ∧ u = μ) 48 [some (.inr 31), none, some (.inl x2), none] [] μ) : ∀ (n : Nat) (x2 x3 : Int32), X8_setEarly_l5 k μ x1 n x2 x3 = some out → wd_V G (d + 1) RX8 cX8_setEarly 4 (some .int) (fun r u => r = some (.inl out) ∧ u = μ) 5 [some (.inr 31), some (.inl x1), some (.inl x2), some (.inl x3)] [] μ := by
  intro n
  induction n with
  | zero => intro x2 x3 h; exact absurd h (by unfold X8_setEarly_l5; simp)
  | succ n ih =>
    intro x2 x3 h
    exact t_X8_setEarly_c5 G d hd (X8_setEarly_l5 k μ x1 n) k μ x1 x2 x3  (fun x2 x3 h => ih x2 x3 h) hk h
set_option maxRecDepth 100000 in
set_option maxHeartbeats 4000000 in
theorem t_X8_setEarly_b48 (G : wd_G) (d : Nat) (hd : 1 ≤ d) {out : Int32} (μ : wd_Mem) (x2 : Int32)  (h : X8_setEarly_b48 μ x2 = some out) : wd_V G (d + 1) RX8 cX8_setEarly 4 (some .int) (fun r u => r = some (.inl out) ∧ u = μ) 48 [some (.inr 31), none, some (.inl x2), none] [] μ := by
  unfold X8_setEarly_b48 at h
  refine wv_iload_n (pc' := 49) (i := 2) (v := x2) dX8_setEarly_48 rfl rfl rfl ?_
  exact wv_ireturn rfl dX8_setEarly_49 (wd_li h)
set_option maxRecDepth 100000 in
set_option maxHeartbeats 4000000 in
theorem t_X8_setEarly_b0 (G : wd_G) (d : Nat) (hd : 1 ≤ d) {out : Int32} (μ : wd_Mem) (x1 : Int32)  (h : X8_setEarly_b0 μ x1 = some out) : wd_V G (d + 1) RX8 cX8_setEarly 4 (some .int) (fun r u => r = some (.inl out) ∧ u = μ) 0 [some (.inr 31), some (.inl x1), none, none] [] μ := by
  unfold X8_setEarly_b0 at h
  refine wv_bipush (pc' := 2) dX8_setEarly_0 bp_99 rfl ?_
  refine wv_istore_n (pc' := 3) (i := 2) (L' := [some (.inr 31), some (.inl x1), some (.inl (99 : Int32)), none]) dX8_setEarly_2 rfl (by decide) rfl rfl ?_
  refine wv_iconst (pc' := 4) dX8_setEarly_3 ic_0 rfl ?_
  refine wv_istore_n (pc' := 5) (i := 3) (L' := [some (.inr 31), some (.inl x1), some (.inl (99 : Int32)), some (.inl (0 : Int32))]) dX8_setEarly_4 rfl (by decide) rfl rfl ?_
  exact t_X8_setEarly_l5 G d hd (fun x2 => X8_setEarly_b48 μ x2) μ x1  (fun x2 h => t_X8_setEarly_b48 G d hd μ x2  h) wd_big (99 : Int32) (0 : Int32) h
set_option maxRecDepth 100000 in
set_option maxHeartbeats 4000000 in
theorem c_X8_setEarly (G : wd_G) (d : Nat) (hd : 2 ≤ d) {μ : wd_Mem} {x1 : Int32} {out : Int32}  (h : X8_setEarly μ x1 = some out) : wd_C G d yX8_setEarly [.inr 31, .inl x1] μ (fun r u => r = some (.inl out) ∧ u = μ) := by
  obtain ⟨d, rfl⟩ : ∃ e, d = e + 1 := ⟨d - 1, by omega⟩
  refine wd_enter mc_X8_setEarly (by decide) (by decide +kernel) rfl (Nat.le_of_ble_eq_true rfl) (L0 := [some (.inr 31), some (.inl x1), none, none]) rfl ?_
  exact t_X8_setEarly_b0 G d (by omega) μ x1 h
set_option maxRecDepth 100000 in
set_option maxHeartbeats 4000000 in
theorem t_X8_energy_b38 (G : wd_G) (d : Nat) (hd : 1 ≤ d) {out : Int32} (rec : Int32 → Int32 → Option (Int32)) (k : Int32 → Option (Int32)) (μ : wd_Mem) (x1 x3 s0 s1 : Int32) (hrec : ∀ (x2 x3 : Int32), rec x2 x3 = some out → wd_V G (d + 1) RX8 cX8_energy 4 (some .int) (fun r u => r = some (.inl out) ∧ u = μ) 4 [some (.inr 31), some (.inl x1), some (.inl x2), some (.inl x3)] [] μ) (hk : ∀ (x2 : Int32), k x2 = some out → wd_V G (d + 1) RX8 cX8_energy 4 (some .int) (fun r u => r = some (.inl out) ∧ u = μ) 46 [some (.inr 31), none, some (.inl x2), none] [] μ) (h : X8_energy_b38 rec k μ x1 x3 s0 s1 = some out) : wd_V G (d + 1) RX8 cX8_energy 4 (some .int) (fun r u => r = some (.inl out) ∧ u = μ) 38 [some (.inr 31), some (.inl x1), none, some (.inl x3)] [.inl s1, .inl s0] μ := by
  unfold X8_energy_b38 at h
  refine wv_iadd (pc' := 39) dX8_energy_38 rfl ?_
  refine wv_istore_n (pc' := 40) (i := 2) (L' := [some (.inr 31), some (.inl x1), some (.inl (s0 + s1)), some (.inl x3)]) dX8_energy_39 rfl (by decide) rfl rfl ?_
  refine wv_inc (pc' := 43) (x := x3) (L' := [some (.inr 31), some (.inl x1), some (.inl (s0 + s1)), some (.inl (x3 + (1 : Int32)))]) dX8_energy_40 ic_1 rfl (by decide) rfl rfl ?_
  refine wv_goto (pc' := 4) dX8_energy_43 (by decide) ?_
  exact hrec _ _ h
set_option maxRecDepth 100000 in
set_option maxHeartbeats 4000000 in
theorem t_X8_energy_c4 (G : wd_G) (d : Nat) (hd : 1 ≤ d) {out : Int32} (rec : Int32 → Int32 → Option (Int32)) (k : Int32 → Option (Int32)) (μ : wd_Mem) (x1 x2 x3 : Int32) (hrec : ∀ (x2 x3 : Int32), rec x2 x3 = some out → wd_V G (d + 1) RX8 cX8_energy 4 (some .int) (fun r u => r = some (.inl out) ∧ u = μ) 4 [some (.inr 31), some (.inl x1), some (.inl x2), some (.inl x3)] [] μ) (hk : ∀ (x2 : Int32), k x2 = some out → wd_V G (d + 1) RX8 cX8_energy 4 (some .int) (fun r u => r = some (.inl out) ∧ u = μ) 46 [some (.inr 31), none, some (.inl x2), none] [] μ) (h : X8_energy_c4 rec k μ x1 x2 x3 = some out) : wd_V G (d + 1) RX8 cX8_energy 4 (some .int) (fun r u => r = some (.inl out) ∧ u = μ) 4 [some (.inr 31), some (.inl x1), some (.inl x2), some (.inl x3)] [] μ := by
  unfold X8_energy_c4 at h
  refine wv_iload_n (pc' := 5) (i := 3) (v := x3) dX8_energy_4 rfl rfl rfl ?_
  refine wv_aload_n (pc' := 6) (i := 0) (v := 31) dX8_energy_5 rfl rfl rfl ?_
  refine wv_gi (pc' := 9) g_X8_118_31 dX8_energy_6 rfl ?_
  refine wv_icmp_ge (pc' := 12) (tgt := 46) dX8_energy_9 (by decide) rfl (fun c1 => ?_) (fun c1 => ?_)
  · have h := (if_pos c1).symm.trans h
    refine wv_weak (L' := [some (.inr 31), none, some (.inl x2), none]) ⟨rfl, rfl, trivial⟩ ?_
    exact hk _ h
  · have h := (if_neg c1).symm.trans h
    refine wv_iload_n (pc' := 13) (i := 2) (v := x2) dX8_energy_12 rfl rfl rfl ?_
    refine wv_iload_n (pc' := 14) (i := 1) (v := x1) dX8_energy_13 rfl rfl rfl ?_
    refine wv_iload_n (pc' := 15) (i := 3) (v := x3) dX8_energy_14 rfl rfl rfl ?_
    refine wv_callSi (pc' := 18) (x := (X8_has μ x1 x3)) (ν := μ) [.inl x1, .inl x3] ml_X8_124 rfl (Nat.le_of_ble_eq_true rfl) dX8_energy_15 rfl (c_X8_has G d (Nat.le_trans (Nat.le_of_ble_eq_true rfl) hd)  rfl) ?_
    refine wv_if_eq (pc' := 21) (tgt := 37) dX8_energy_18 (by decide) rfl (fun c2 => ?_) (fun c2 => ?_)
    · have h := (if_pos c2).symm.trans h
      refine wv_iconst (pc' := 38) dX8_energy_37 ic_0 rfl ?_
      refine wv_weak (L' := [some (.inr 31), some (.inl x1), none, some (.inl x3)]) ⟨rfl, rfl, rfl, trivial⟩ ?_
      exact t_X8_energy_b38 G d hd rec k μ x1 x3 x2 (0 : Int32) hrec hk h
    · have h := (if_neg c2).symm.trans h
      refine wv_aload_n (pc' := 22) (i := 0) (v := 31) dX8_energy_21 rfl rfl rfl ?_
      refine wv_gr (pc' := 25) g_X8_7_31 dX8_energy_22 rfl ?_
      refine wv_iload_n (pc' := 26) (i := 3) (v := x3) dX8_energy_25 rfl rfl rfl ?_
      obtain ⟨g3, h⟩ := wd_chk_some h
      refine wv_iald (pc' := 27) sa_32 (wd_in_vp g3) dX8_energy_26 rfl ?_
      refine wv_aload_n (pc' := 28) (i := 0) (v := 31) dX8_energy_27 rfl rfl rfl ?_
      refine wv_gr (pc' := 31) g_X8_13_31 dX8_energy_28 rfl ?_
      refine wv_iload_n (pc' := 32) (i := 3) (v := x3) dX8_energy_31 rfl rfl rfl ?_
      refine wv_iald (pc' := 33) sa_33 (wd_in_vp g3) dX8_energy_32 rfl ?_
      refine wv_imul (pc' := 34) dX8_energy_33 rfl ?_
      refine wv_goto (pc' := 38) dX8_energy_34 (by decide) ?_
      refine wv_weak (L' := [some (.inr 31), some (.inl x1), none, some (.inl x3)]) ⟨rfl, rfl, rfl, trivial⟩ ?_
      exact t_X8_energy_b38 G d hd rec k μ x1 x3 x2 ((μ 32 (Int32.toNatClampNeg x3)) * (μ 33 (Int32.toNatClampNeg x3))) hrec hk h
set_option maxRecDepth 100000 in
set_option maxHeartbeats 4000000 in
theorem t_X8_energy_l4 (G : wd_G) (d : Nat) (hd : 1 ≤ d) {out : Int32} (k : Int32 → Option (Int32)) (μ : wd_Mem) (x1 : Int32) (hk : ∀ (x2 : Int32), k x2 = some out → wd_V G (d + 1) RX8 cX8_energy 4 (some .int) (fun r u => r = some (.inl out) ∧ u = μ) 46 [some (.inr 31), none, some (.inl x2), none] [] μ) : ∀ (n : Nat) (x2 x3 : Int32), X8_energy_l4 k μ x1 n x2 x3 = some out → wd_V G (d + 1) RX8 cX8_energy 4 (some .int) (fun r u => r = some (.inl out) ∧ u = μ) 4 [some (.inr 31), some (.inl x1), some (.inl x2), some (.inl x3)] [] μ := by
  intro n
  induction n with
  | zero => intro x2 x3 h; exact absurd h (by unfold X8_energy_l4; simp)
  | succ n ih =>
    intro x2 x3 h
    exact t_X8_energy_c4 G d hd (X8_energy_l4 k μ x1 n) k μ x1 x2 x3  (fun x2 x3 h => ih x2 x3 h) hk h
set_option maxRecDepth 100000 in
set_option maxHeartbeats 4000000 in
theorem t_X8_energy_b46 (G : wd_G) (d : Nat) (hd : 1 ≤ d) {out : Int32} (μ : wd_Mem) (x2 : Int32)  (h : X8_energy_b46 μ x2 = some out) : wd_V G (d + 1) RX8 cX8_energy 4 (some .int) (fun r u => r = some (.inl out) ∧ u = μ) 46 [some (.inr 31), none, some (.inl x2), none] [] μ := by
  unfold X8_energy_b46 at h
  refine wv_iload_n (pc' := 47) (i := 2) (v := x2) dX8_energy_46 rfl rfl rfl ?_
  exact wv_ireturn rfl dX8_energy_47 (wd_li h)
set_option maxRecDepth 100000 in
set_option maxHeartbeats 4000000 in
theorem t_X8_energy_b0 (G : wd_G) (d : Nat) (hd : 1 ≤ d) {out : Int32} (μ : wd_Mem) (x1 : Int32)  (h : X8_energy_b0 μ x1 = some out) : wd_V G (d + 1) RX8 cX8_energy 4 (some .int) (fun r u => r = some (.inl out) ∧ u = μ) 0 [some (.inr 31), some (.inl x1), none, none] [] μ := by
  unfold X8_energy_b0 at h
  refine wv_iconst (pc' := 1) dX8_energy_0 ic_0 rfl ?_
  refine wv_istore_n (pc' := 2) (i := 2) (L' := [some (.inr 31), some (.inl x1), some (.inl (0 : Int32)), none]) dX8_energy_1 rfl (by decide) rfl rfl ?_
  refine wv_iconst (pc' := 3) dX8_energy_2 ic_0 rfl ?_
  refine wv_istore_n (pc' := 4) (i := 3) (L' := [some (.inr 31), some (.inl x1), some (.inl (0 : Int32)), some (.inl (0 : Int32))]) dX8_energy_3 rfl (by decide) rfl rfl ?_
  exact t_X8_energy_l4 G d hd (fun x2 => X8_energy_b46 μ x2) μ x1  (fun x2 h => t_X8_energy_b46 G d hd μ x2  h) wd_big (0 : Int32) (0 : Int32) h
set_option maxRecDepth 100000 in
set_option maxHeartbeats 4000000 in
theorem c_X8_energy (G : wd_G) (d : Nat) (hd : 2 ≤ d) {μ : wd_Mem} {x1 : Int32} {out : Int32}  (h : X8_energy μ x1 = some out) : wd_C G d yX8_energy [.inr 31, .inl x1] μ (fun r u => r = some (.inl out) ∧ u = μ) := by
  obtain ⟨d, rfl⟩ : ∃ e, d = e + 1 := ⟨d - 1, by omega⟩
  refine wd_enter mc_X8_energy (by decide) (by decide +kernel) rfl (Nat.le_of_ble_eq_true rfl) (L0 := [some (.inr 31), some (.inl x1), none, none]) rfl ?_
  exact t_X8_energy_b0 G d (by omega) μ x1 h
set_option maxRecDepth 100000 in
set_option maxHeartbeats 4000000 in
theorem t_X8_setLate_b40 (G : wd_G) (d : Nat) (hd : 1 ≤ d) {out : Int32} (rec : Int32 → Int32 → Option (Int32)) (k : Int32 → Option (Int32)) (μ : wd_Mem) (x1 x3 s0 : Int32) (hrec : ∀ (x2 x3 : Int32), rec x2 x3 = some out → wd_V G (d + 1) RX8 cX8_setLate 4 (some .int) (fun r u => r = some (.inl out) ∧ u = μ) 4 [some (.inr 31), some (.inl x1), some (.inl x2), some (.inl x3)] [] μ) (hk : ∀ (x2 : Int32), k x2 = some out → wd_V G (d + 1) RX8 cX8_setLate 4 (some .int) (fun r u => r = some (.inl out) ∧ u = μ) 47 [some (.inr 31), none, some (.inl x2), none] [] μ) (h : X8_setLate_b40 rec k μ x1 x3 s0 = some out) : wd_V G (d + 1) RX8 cX8_setLate 4 (some .int) (fun r u => r = some (.inl out) ∧ u = μ) 40 [some (.inr 31), some (.inl x1), none, some (.inl x3)] [.inl s0] μ := by
  unfold X8_setLate_b40 at h
  refine wv_istore_n (pc' := 41) (i := 2) (L' := [some (.inr 31), some (.inl x1), some (.inl s0), some (.inl x3)]) dX8_setLate_40 rfl (by decide) rfl rfl ?_
  refine wv_inc (pc' := 44) (x := x3) (L' := [some (.inr 31), some (.inl x1), some (.inl s0), some (.inl (x3 + (1 : Int32)))]) dX8_setLate_41 ic_1 rfl (by decide) rfl rfl ?_
  refine wv_goto (pc' := 4) dX8_setLate_44 (by decide) ?_
  exact hrec _ _ h
set_option maxRecDepth 100000 in
set_option maxHeartbeats 4000000 in
theorem t_X8_setLate_b39 (G : wd_G) (d : Nat) (hd : 1 ≤ d) {out : Int32} (rec : Int32 → Int32 → Option (Int32)) (k : Int32 → Option (Int32)) (μ : wd_Mem) (x1 x2 x3 : Int32) (hrec : ∀ (x2 x3 : Int32), rec x2 x3 = some out → wd_V G (d + 1) RX8 cX8_setLate 4 (some .int) (fun r u => r = some (.inl out) ∧ u = μ) 4 [some (.inr 31), some (.inl x1), some (.inl x2), some (.inl x3)] [] μ) (hk : ∀ (x2 : Int32), k x2 = some out → wd_V G (d + 1) RX8 cX8_setLate 4 (some .int) (fun r u => r = some (.inl out) ∧ u = μ) 47 [some (.inr 31), none, some (.inl x2), none] [] μ) (h : X8_setLate_b39 rec k μ x1 x2 x3 = some out) : wd_V G (d + 1) RX8 cX8_setLate 4 (some .int) (fun r u => r = some (.inl out) ∧ u = μ) 39 [some (.inr 31), some (.inl x1), some (.inl x2), some (.inl x3)] [] μ := by
  unfold X8_setLate_b39 at h
  refine wv_iload_n (pc' := 40) (i := 2) (v := x2) dX8_setLate_39 rfl rfl rfl ?_
  refine wv_weak (L' := [some (.inr 31), some (.inl x1), none, some (.inl x3)]) ⟨rfl, rfl, rfl, trivial⟩ ?_
  exact t_X8_setLate_b40 G d hd rec k μ x1 x3 x2 hrec hk h
set_option maxRecDepth 100000 in
set_option maxHeartbeats 4000000 in
theorem t_X8_setLate_c4 (G : wd_G) (d : Nat) (hd : 1 ≤ d) {out : Int32} (rec : Int32 → Int32 → Option (Int32)) (k : Int32 → Option (Int32)) (μ : wd_Mem) (x1 x2 x3 : Int32) (hrec : ∀ (x2 x3 : Int32), rec x2 x3 = some out → wd_V G (d + 1) RX8 cX8_setLate 4 (some .int) (fun r u => r = some (.inl out) ∧ u = μ) 4 [some (.inr 31), some (.inl x1), some (.inl x2), some (.inl x3)] [] μ) (hk : ∀ (x2 : Int32), k x2 = some out → wd_V G (d + 1) RX8 cX8_setLate 4 (some .int) (fun r u => r = some (.inl out) ∧ u = μ) 47 [some (.inr 31), none, some (.inl x2), none] [] μ) (h : X8_setLate_c4 rec k μ x1 x2 x3 = some out) : wd_V G (d + 1) RX8 cX8_setLate 4 (some .int) (fun r u => r = some (.inl out) ∧ u = μ) 4 [some (.inr 31), some (.inl x1), some (.inl x2), some (.inl x3)] [] μ := by
  unfold X8_setLate_c4 at h
  refine wv_iload_n (pc' := 5) (i := 3) (v := x3) dX8_setLate_4 rfl rfl rfl ?_
  refine wv_aload_n (pc' := 6) (i := 0) (v := 31) dX8_setLate_5 rfl rfl rfl ?_
  refine wv_gi (pc' := 9) g_X8_118_31 dX8_setLate_6 rfl ?_
  refine wv_icmp_ge (pc' := 12) (tgt := 47) dX8_setLate_9 (by decide) rfl (fun c1 => ?_) (fun c1 => ?_)
  · have h := (if_pos c1).symm.trans h
    refine wv_weak (L' := [some (.inr 31), none, some (.inl x2), none]) ⟨rfl, rfl, trivial⟩ ?_
    exact hk _ h
  · have h := (if_neg c1).symm.trans h
    refine wv_iload_n (pc' := 13) (i := 1) (v := x1) dX8_setLate_12 rfl rfl rfl ?_
    refine wv_iload_n (pc' := 14) (i := 3) (v := x3) dX8_setLate_13 rfl rfl rfl ?_
    refine wv_callSi (pc' := 17) (x := (X8_has μ x1 x3)) (ν := μ) [.inl x1, .inl x3] ml_X8_124 rfl (Nat.le_of_ble_eq_true rfl) dX8_setLate_14 rfl (c_X8_has G d (Nat.le_trans (Nat.le_of_ble_eq_true rfl) hd)  rfl) ?_
    refine wv_if_eq (pc' := 20) (tgt := 39) dX8_setLate_17 (by decide) rfl (fun c2 => ?_) (fun c2 => ?_)
    · have h := (if_pos c2).symm.trans h
      exact t_X8_setLate_b39 G d hd rec k μ x1 x2 x3 hrec hk h
    · have h := (if_neg c2).symm.trans h
      refine wv_aload_n (pc' := 21) (i := 0) (v := 31) dX8_setLate_20 rfl rfl rfl ?_
      refine wv_gr (pc' := 24) g_X8_38_31 dX8_setLate_21 rfl ?_
      refine wv_iload_n (pc' := 25) (i := 3) (v := x3) dX8_setLate_24 rfl rfl rfl ?_
      obtain ⟨g3, h⟩ := wd_chk_some h
      refine wv_iald (pc' := 26) sa_41 (wd_in_vp g3) dX8_setLate_25 rfl ?_
      refine wv_iload_n (pc' := 27) (i := 2) (v := x2) dX8_setLate_26 rfl rfl rfl ?_
      refine wv_icmp_le (pc' := 30) (tgt := 39) dX8_setLate_27 (by decide) rfl (fun c4 => ?_) (fun c4 => ?_)
      · have h := (if_pos c4).symm.trans h
        exact t_X8_setLate_b39 G d hd rec k μ x1 x2 x3 hrec hk h
      · have h := (if_neg c4).symm.trans h
        refine wv_aload_n (pc' := 31) (i := 0) (v := 31) dX8_setLate_30 rfl rfl rfl ?_
        refine wv_gr (pc' := 34) g_X8_38_31 dX8_setLate_31 rfl ?_
        refine wv_iload_n (pc' := 35) (i := 3) (v := x3) dX8_setLate_34 rfl rfl rfl ?_
        refine wv_iald (pc' := 36) sa_41 (wd_in_vp g3) dX8_setLate_35 rfl ?_
        refine wv_goto (pc' := 40) dX8_setLate_36 (by decide) ?_
        refine wv_weak (L' := [some (.inr 31), some (.inl x1), none, some (.inl x3)]) ⟨rfl, rfl, rfl, trivial⟩ ?_
        exact t_X8_setLate_b40 G d hd rec k μ x1 x3 (μ 41 (Int32.toNatClampNeg x3)) hrec hk h
set_option maxRecDepth 100000 in
set_option maxHeartbeats 4000000 in
theorem t_X8_setLate_l4 (G : wd_G) (d : Nat) (hd : 1 ≤ d) {out : Int32} (k : Int32 → Option (Int32)) (μ : wd_Mem) (x1 : Int32) (hk : ∀ (x2 : Int32), k x2 = some out → wd_V G (d + 1) RX8 cX8_setLate 4 (some .int) (fun r u => r = some (.inl out) ∧ u = μ) 47 [some (.inr 31), none, some (.inl x2), none] [] μ) : ∀ (n : Nat) (x2 x3 : Int32), X8_setLate_l4 k μ x1 n x2 x3 = some out → wd_V G (d + 1) RX8 cX8_setLate 4 (some .int) (fun r u => r = some (.inl out) ∧ u = μ) 4 [some (.inr 31), some (.inl x1), some (.inl x2), some (.inl x3)] [] μ := by
  intro n
  induction n with
  | zero => intro x2 x3 h; exact absurd h (by unfold X8_setLate_l4; simp)
  | succ n ih =>
    intro x2 x3 h
    exact t_X8_setLate_c4 G d hd (X8_setLate_l4 k μ x1 n) k μ x1 x2 x3  (fun x2 x3 h => ih x2 x3 h) hk h
set_option maxRecDepth 100000 in
set_option maxHeartbeats 4000000 in
theorem t_X8_setLate_b47 (G : wd_G) (d : Nat) (hd : 1 ≤ d) {out : Int32} (μ : wd_Mem) (x2 : Int32)  (h : X8_setLate_b47 μ x2 = some out) : wd_V G (d + 1) RX8 cX8_setLate 4 (some .int) (fun r u => r = some (.inl out) ∧ u = μ) 47 [some (.inr 31), none, some (.inl x2), none] [] μ := by
  unfold X8_setLate_b47 at h
  refine wv_iload_n (pc' := 48) (i := 2) (v := x2) dX8_setLate_47 rfl rfl rfl ?_
  exact wv_ireturn rfl dX8_setLate_48 (wd_li h)
set_option maxRecDepth 100000 in
set_option maxHeartbeats 4000000 in
theorem t_X8_setLate_b0 (G : wd_G) (d : Nat) (hd : 1 ≤ d) {out : Int32} (μ : wd_Mem) (x1 : Int32)  (h : X8_setLate_b0 μ x1 = some out) : wd_V G (d + 1) RX8 cX8_setLate 4 (some .int) (fun r u => r = some (.inl out) ∧ u = μ) 0 [some (.inr 31), some (.inl x1), none, none] [] μ := by
  unfold X8_setLate_b0 at h
  refine wv_iconst (pc' := 1) dX8_setLate_0 ic_0 rfl ?_
  refine wv_istore_n (pc' := 2) (i := 2) (L' := [some (.inr 31), some (.inl x1), some (.inl (0 : Int32)), none]) dX8_setLate_1 rfl (by decide) rfl rfl ?_
  refine wv_iconst (pc' := 3) dX8_setLate_2 ic_0 rfl ?_
  refine wv_istore_n (pc' := 4) (i := 3) (L' := [some (.inr 31), some (.inl x1), some (.inl (0 : Int32)), some (.inl (0 : Int32))]) dX8_setLate_3 rfl (by decide) rfl rfl ?_
  exact t_X8_setLate_l4 G d hd (fun x2 => X8_setLate_b47 μ x2) μ x1  (fun x2 h => t_X8_setLate_b47 G d hd μ x2  h) wd_big (0 : Int32) (0 : Int32) h
set_option maxRecDepth 100000 in
set_option maxHeartbeats 4000000 in
theorem c_X8_setLate (G : wd_G) (d : Nat) (hd : 2 ≤ d) {μ : wd_Mem} {x1 : Int32} {out : Int32}  (h : X8_setLate μ x1 = some out) : wd_C G d yX8_setLate [.inr 31, .inl x1] μ (fun r u => r = some (.inl out) ∧ u = μ) := by
  obtain ⟨d, rfl⟩ : ∃ e, d = e + 1 := ⟨d - 1, by omega⟩
  refine wd_enter mc_X8_setLate (by decide) (by decide +kernel) rfl (Nat.le_of_ble_eq_true rfl) (L0 := [some (.inr 31), some (.inl x1), none, none]) rfl ?_
  exact t_X8_setLate_b0 G d (by omega) μ x1 h
set_option maxRecDepth 100000 in
set_option maxHeartbeats 4000000 in
theorem t_X8_edges_b143 (G : wd_G) (d : Nat) (hd : 2 ≤ d) {out : wd_Mem} (rec : Int32 → wd_Mem → Option (wd_Mem)) (k : wd_Mem → Option (wd_Mem)) (μ : wd_Mem) (x1 x2 x3 : Int32) (hrec : ∀ (x3 : Int32) (μ : wd_Mem), rec x3 μ = some out → wd_V G (d + 1) RX8 cX8_edges 7 none (fun r u => r = none ∧ u = out) 6 [some (.inr 31), some (.inl x1), some (.inl x2), some (.inl x3), none, none, none] [] μ) (hk : ∀  (μ : wd_Mem), k μ = some out → wd_V G (d + 1) RX8 cX8_edges 7 none (fun r u => r = none ∧ u = out) 149 [some (.inr 31), none, none, none, none, none, none] [] μ) (h : X8_edges_b143 rec k μ x1 x2 x3 = some out) : wd_V G (d + 1) RX8 cX8_edges 7 none (fun r u => r = none ∧ u = out) 143 [some (.inr 31), some (.inl x1), some (.inl x2), some (.inl x3), none, none, none] [] μ := by
  unfold X8_edges_b143 at h
  refine wv_inc (pc' := 146) (x := x3) (L' := [some (.inr 31), some (.inl x1), some (.inl x2), some (.inl (x3 + (1 : Int32))), none, none, none]) dX8_edges_143 ic_1 rfl (by decide) rfl rfl ?_
  refine wv_goto (pc' := 6) dX8_edges_146 (by decide) ?_
  exact hrec _ _ h
set_option maxRecDepth 100000 in
set_option maxHeartbeats 4000000 in
theorem t_X8_edges_b132 (G : wd_G) (d : Nat) (hd : 2 ≤ d) {out : wd_Mem} (rec : Int32 → wd_Mem → Option (wd_Mem)) (k : wd_Mem → Option (wd_Mem)) (μ : wd_Mem) (x1 x2 x3 x5 : Int32) (hrec : ∀ (x5 : Int32) (μ : wd_Mem), rec x5 μ = some out → wd_V G (d + 1) RX8 cX8_edges 7 none (fun r u => r = none ∧ u = out) 57 [some (.inr 31), some (.inl x1), some (.inl x2), some (.inl x3), none, some (.inl x5), none] [] μ) (hk : ∀  (μ : wd_Mem), k μ = some out → wd_V G (d + 1) RX8 cX8_edges 7 none (fun r u => r = none ∧ u = out) 143 [some (.inr 31), some (.inl x1), some (.inl x2), some (.inl x3), none, none, none] [] μ) (h : X8_edges_b132 rec k μ x1 x2 x3 x5 = some out) : wd_V G (d + 1) RX8 cX8_edges 7 none (fun r u => r = none ∧ u = out) 132 [some (.inr 31), some (.inl x1), some (.inl x2), some (.inl x3), none, some (.inl x5), none] [] μ := by
  unfold X8_edges_b132 at h
  refine wv_iload (pc' := 134) (v := x5) dX8_edges_132 rfl rfl ?_
  refine wv_iconst (pc' := 135) dX8_edges_134 ic_1 rfl ?_
  refine wv_isub (pc' := 136) dX8_edges_135 rfl ?_
  refine wv_iload_n (pc' := 137) (i := 3) (v := x3) dX8_edges_136 rfl rfl rfl ?_
  refine wv_iand (pc' := 138) dX8_edges_137 rfl ?_
  refine wv_istore (pc' := 140) (L' := [some (.inr 31), some (.inl x1), some (.inl x2), some (.inl x3), none, some (.inl ((x5 - (1 : Int32)) &&& x3)), none]) dX8_edges_138 (by decide) rfl rfl ?_
  refine wv_goto (pc' := 57) dX8_edges_140 (by decide) ?_
  exact hrec _ _ h
set_option maxRecDepth 100000 in
set_option maxHeartbeats 4000000 in
theorem t_X8_edges_c57 (G : wd_G) (d : Nat) (hd : 2 ≤ d) {out : wd_Mem} (rec : Int32 → wd_Mem → Option (wd_Mem)) (k : wd_Mem → Option (wd_Mem)) (μ : wd_Mem) (x1 x2 x3 x5 : Int32) (hrec : ∀ (x5 : Int32) (μ : wd_Mem), rec x5 μ = some out → wd_V G (d + 1) RX8 cX8_edges 7 none (fun r u => r = none ∧ u = out) 57 [some (.inr 31), some (.inl x1), some (.inl x2), some (.inl x3), none, some (.inl x5), none] [] μ) (hk : ∀  (μ : wd_Mem), k μ = some out → wd_V G (d + 1) RX8 cX8_edges 7 none (fun r u => r = none ∧ u = out) 143 [some (.inr 31), some (.inl x1), some (.inl x2), some (.inl x3), none, none, none] [] μ) (h : X8_edges_c57 rec k μ x1 x2 x3 x5 = some out) : wd_V G (d + 1) RX8 cX8_edges 7 none (fun r u => r = none ∧ u = out) 57 [some (.inr 31), some (.inl x1), some (.inl x2), some (.inl x3), none, some (.inl x5), none] [] μ := by
  unfold X8_edges_c57 at h
  refine wv_iload (pc' := 59) (v := x5) dX8_edges_57 rfl rfl ?_
  refine wv_if_le (pc' := 62) (tgt := 143) dX8_edges_59 (by decide) rfl (fun c7 => ?_) (fun c7 => ?_)
  · have h := (if_pos c7).symm.trans h
    refine wv_weak (L' := [some (.inr 31), some (.inl x1), some (.inl x2), some (.inl x3), none, none, none]) ⟨rfl, rfl, rfl, rfl, trivial⟩ ?_
    exact hk _ h
  · have h := (if_neg c7).symm.trans h
    refine wv_aload_n (pc' := 63) (i := 0) (v := 31) dX8_edges_62 rfl rfl rfl ?_
    refine wv_iload (pc' := 65) (v := x5) dX8_edges_63 rfl rfl ?_
    obtain ⟨r8, er8, h⟩ := wd_bind_some h
    refine wv_callVi (pc' := 68) (x := r8) (ν := μ) [.inl x5] ml_X8_148 rc_31 rfl (Nat.le_of_ble_eq_true rfl) dX8_edges_65 rfl (c_X8_energy G d (Nat.le_trans (Nat.le_of_ble_eq_true rfl) hd)  er8) ?_
    refine wv_aload_n (pc' := 69) (i := 0) (v := 31) dX8_edges_68 rfl rfl rfl ?_
    refine wv_gi (pc' := 72) g_X8_59_31 dX8_edges_69 rfl ?_
    refine wv_aload_n (pc' := 73) (i := 0) (v := 31) dX8_edges_72 rfl rfl rfl ?_
    refine wv_gr (pc' := 76) g_X8_13_31 dX8_edges_73 rfl ?_
    refine wv_iload_n (pc' := 77) (i := 1) (v := x1) dX8_edges_76 rfl rfl rfl ?_
    obtain ⟨g9, h⟩ := wd_chk_some h
    refine wv_iald (pc' := 78) sa_33 (wd_in_vp g9) dX8_edges_77 rfl ?_
    refine wv_isub (pc' := 79) dX8_edges_78 rfl ?_
    refine wv_aload_n (pc' := 80) (i := 0) (v := 31) dX8_edges_79 rfl rfl rfl ?_
    refine wv_iload (pc' := 82) (v := x5) dX8_edges_80 rfl rfl ?_
    obtain ⟨r10, er10, h⟩ := wd_bind_some h
    refine wv_callVi (pc' := 85) (x := r10) (ν := μ) [.inl x5] ml_X8_151 rc_31 rfl (Nat.le_of_ble_eq_true rfl) dX8_edges_82 rfl (c_X8_setLate G d (Nat.le_trans (Nat.le_of_ble_eq_true rfl) hd)  er10) ?_
    refine wv_aload_n (pc' := 86) (i := 0) (v := 31) dX8_edges_85 rfl rfl rfl ?_
    refine wv_iload (pc' := 88) (v := x5) dX8_edges_86 rfl rfl ?_
    obtain ⟨r11, er11, h⟩ := wd_bind_some h
    refine wv_callVi (pc' := 91) (x := r11) (ν := μ) [.inl x5] ml_X8_145 rc_31 rfl (Nat.le_of_ble_eq_true rfl) dX8_edges_88 rfl (c_X8_setEarly G d (Nat.le_trans (Nat.le_of_ble_eq_true rfl) hd)  er11) ?_
    refine wv_isub (pc' := 92) dX8_edges_91 rfl ?_
    refine wv_imul (pc' := 93) dX8_edges_92 rfl ?_
    refine wv_isub (pc' := 94) dX8_edges_93 rfl ?_
    refine wv_istore (pc' := 96) (L' := [some (.inr 31), some (.inl x1), some (.inl x2), some (.inl x3), none, some (.inl x5), some (.inl (r8 - (((μ 31 1) - (μ 33 (Int32.toNatClampNeg x1))) * (r10 - r11))))]) dX8_edges_94 (by decide) rfl rfl ?_
    refine wv_iload (pc' := 98) (v := (r8 - (((μ 31 1) - (μ 33 (Int32.toNatClampNeg x1))) * (r10 - r11)))) dX8_edges_96 rfl rfl ?_
    refine wv_if_le (pc' := 101) (tgt := 132) dX8_edges_98 (by decide) rfl (fun c12 => ?_) (fun c12 => ?_)
    · have h := (if_pos c12).symm.trans h
      refine wv_weak (L' := [some (.inr 31), some (.inl x1), some (.inl x2), some (.inl x3), none, some (.inl x5), none]) ⟨rfl, rfl, rfl, rfl, rfl, trivial⟩ ?_
      exact t_X8_edges_b132 G d hd rec k μ x1 x2 x3 x5 hrec hk h
    · have h := (if_neg c12).symm.trans h
      refine wv_aload_n (pc' := 102) (i := 0) (v := 31) dX8_edges_101 rfl rfl rfl ?_
      refine wv_iload_n (pc' := 103) (i := 1) (v := x1) dX8_edges_102 rfl rfl rfl ?_
      refine wv_aload_n (pc' := 104) (i := 0) (v := 31) dX8_edges_103 rfl rfl rfl ?_
      refine wv_iload (pc' := 106) (v := x5) dX8_edges_104 rfl rfl ?_
      obtain ⟨r13, er13, h⟩ := wd_bind_some h
      refine wv_callVi (pc' := 109) (x := r13) (ν := μ) [.inl x5] ml_X8_145 rc_31 rfl (Nat.le_of_ble_eq_true rfl) dX8_edges_106 rfl (c_X8_setEarly G d (Nat.le_trans (Nat.le_of_ble_eq_true rfl) hd)  er13) ?_
      refine wv_iload (pc' := 111) (v := (r8 - (((μ 31 1) - (μ 33 (Int32.toNatClampNeg x1))) * (r10 - r11)))) dX8_edges_109 rfl rfl ?_
      refine wv_aload_n (pc' := 112) (i := 0) (v := 31) dX8_edges_111 rfl rfl rfl ?_
      refine wv_gr (pc' := 115) g_X8_13_31 dX8_edges_112 rfl ?_
      refine wv_iload_n (pc' := 116) (i := 1) (v := x1) dX8_edges_115 rfl rfl rfl ?_
      refine wv_iald (pc' := 117) sa_33 (wd_in_vp g9) dX8_edges_116 rfl ?_
      refine wv_iadd (pc' := 118) dX8_edges_117 rfl ?_
      refine wv_iconst (pc' := 119) dX8_edges_118 ic_1 rfl ?_
      refine wv_isub (pc' := 120) dX8_edges_119 rfl ?_
      refine wv_aload_n (pc' := 121) (i := 0) (v := 31) dX8_edges_120 rfl rfl rfl ?_
      refine wv_gr (pc' := 124) g_X8_13_31 dX8_edges_121 rfl ?_
      refine wv_iload_n (pc' := 125) (i := 1) (v := x1) dX8_edges_124 rfl rfl rfl ?_
      refine wv_iald (pc' := 126) sa_33 (wd_in_vp g9) dX8_edges_125 rfl ?_
      obtain ⟨g14, h⟩ := wd_chk_some h
      refine wv_idiv (pc' := 127) dX8_edges_126 (wd_nz_ne g14) rfl ?_
      refine wv_iadd (pc' := 128) dX8_edges_127 rfl ?_
      refine wv_iload_n (pc' := 129) (i := 3) (v := x3) dX8_edges_128 rfl rfl rfl ?_
      obtain ⟨r15, er15, h⟩ := wd_bind_some h
      refine wv_callVv (pc' := 132) (ν := r15) [.inl x1, .inl (r13 + ((((r8 - (((μ 31 1) - (μ 33 (Int32.toNatClampNeg x1))) * (r10 - r11))) + (μ 33 (Int32.toNatClampNeg x1))) - (1 : Int32)) / (μ 33 (Int32.toNatClampNeg x1)))), .inl x3] ml_X8_137 rc_31 rfl (Nat.le_of_ble_eq_true rfl) dX8_edges_129 rfl (c_X8_tells G d (Nat.le_trans (Nat.le_of_ble_eq_true rfl) hd)  er15) ?_
      refine wv_weak (L' := [some (.inr 31), some (.inl x1), some (.inl x2), some (.inl x3), none, some (.inl x5), none]) ⟨rfl, rfl, rfl, rfl, rfl, trivial⟩ ?_
      exact t_X8_edges_b132 G d hd rec k r15 x1 x2 x3 x5 hrec hk h
set_option maxRecDepth 100000 in
set_option maxHeartbeats 4000000 in
theorem t_X8_edges_l57 (G : wd_G) (d : Nat) (hd : 2 ≤ d) {out : wd_Mem} (k : wd_Mem → Option (wd_Mem)) (x1 x2 x3 : Int32) (hk : ∀  (μ : wd_Mem), k μ = some out → wd_V G (d + 1) RX8 cX8_edges 7 none (fun r u => r = none ∧ u = out) 143 [some (.inr 31), some (.inl x1), some (.inl x2), some (.inl x3), none, none, none] [] μ) : ∀ (n : Nat) (x5 : Int32) (μ : wd_Mem), X8_edges_l57 k x1 x2 x3 n x5 μ = some out → wd_V G (d + 1) RX8 cX8_edges 7 none (fun r u => r = none ∧ u = out) 57 [some (.inr 31), some (.inl x1), some (.inl x2), some (.inl x3), none, some (.inl x5), none] [] μ := by
  intro n
  induction n with
  | zero => intro x5 μ h; exact absurd h (by unfold X8_edges_l57; simp)
  | succ n ih =>
    intro x5 μ h
    exact t_X8_edges_c57 G d hd (X8_edges_l57 k x1 x2 x3 n) k μ x1 x2 x3 x5  (fun x5 μ h => ih x5 μ h) hk h
set_option maxRecDepth 100000 in
set_option maxHeartbeats 4000000 in
theorem t_X8_edges_c6 (G : wd_G) (d : Nat) (hd : 2 ≤ d) {out : wd_Mem} (rec : Int32 → wd_Mem → Option (wd_Mem)) (k : wd_Mem → Option (wd_Mem)) (μ : wd_Mem) (x1 x2 x3 : Int32) (hrec : ∀ (x3 : Int32) (μ : wd_Mem), rec x3 μ = some out → wd_V G (d + 1) RX8 cX8_edges 7 none (fun r u => r = none ∧ u = out) 6 [some (.inr 31), some (.inl x1), some (.inl x2), some (.inl x3), none, none, none] [] μ) (hk : ∀  (μ : wd_Mem), k μ = some out → wd_V G (d + 1) RX8 cX8_edges 7 none (fun r u => r = none ∧ u = out) 149 [some (.inr 31), none, none, none, none, none, none] [] μ) (h : X8_edges_c6 rec k μ x1 x2 x3 = some out) : wd_V G (d + 1) RX8 cX8_edges 7 none (fun r u => r = none ∧ u = out) 6 [some (.inr 31), some (.inl x1), some (.inl x2), some (.inl x3), none, none, none] [] μ := by
  unfold X8_edges_c6 at h
  refine wv_iload_n (pc' := 7) (i := 3) (v := x3) dX8_edges_6 rfl rfl rfl ?_
  refine wv_aload_n (pc' := 8) (i := 0) (v := 31) dX8_edges_7 rfl rfl rfl ?_
  refine wv_callVi (pc' := 11) (x := (X8_all μ)) (ν := μ) [] ml_X8_141 rc_31 rfl (Nat.le_of_ble_eq_true rfl) dX8_edges_8 rfl (c_X8_all G d (Nat.le_trans (Nat.le_of_ble_eq_true rfl) hd)  rfl) ?_
  refine wv_icmp_gt (pc' := 14) (tgt := 149) dX8_edges_11 (by decide) rfl (fun c1 => ?_) (fun c1 => ?_)
  · have h := (if_pos c1).symm.trans h
    refine wv_weak (L' := [some (.inr 31), none, none, none, none, none, none]) ⟨rfl, trivial⟩ ?_
    exact hk _ h
  · have h := (if_neg c1).symm.trans h
    refine wv_aload_n (pc' := 15) (i := 0) (v := 31) dX8_edges_14 rfl rfl rfl ?_
    refine wv_iload_n (pc' := 16) (i := 3) (v := x3) dX8_edges_15 rfl rfl rfl ?_
    refine wv_iload_n (pc' := 17) (i := 2) (v := x2) dX8_edges_16 rfl rfl rfl ?_
    refine wv_ior (pc' := 18) dX8_edges_17 rfl ?_
    obtain ⟨r2, er2, h⟩ := wd_bind_some h
    refine wv_callVi (pc' := 21) (x := r2) (ν := μ) [.inl (x3 ||| x2)] ml_X8_145 rc_31 rfl (Nat.le_of_ble_eq_true rfl) dX8_edges_18 rfl (c_X8_setEarly G d (Nat.le_trans (Nat.le_of_ble_eq_true rfl) hd)  er2) ?_
    refine wv_istore (pc' := 23) (L' := [some (.inr 31), some (.inl x1), some (.inl x2), some (.inl x3), some (.inl r2), none, none]) dX8_edges_21 (by decide) rfl rfl ?_
    refine wv_iload_n (pc' := 24) (i := 3) (v := x3) dX8_edges_23 rfl rfl rfl ?_
    refine wv_iload_n (pc' := 25) (i := 1) (v := x1) dX8_edges_24 rfl rfl rfl ?_
    refine wv_callSi (pc' := 28) (x := (X8_has μ x3 x1)) (ν := μ) [.inl x3, .inl x1] ml_X8_124 rfl (Nat.le_of_ble_eq_true rfl) dX8_edges_25 rfl (c_X8_has G d (Nat.le_trans (Nat.le_of_ble_eq_true rfl) hd)  rfl) ?_
    refine wv_if_ne (pc' := 31) (tgt := 143) dX8_edges_28 (by decide) rfl (fun c3 => ?_) (fun c3 => ?_)
    · have h := (if_neg c3).symm.trans h
      refine wv_weak (L' := [some (.inr 31), some (.inl x1), some (.inl x2), some (.inl x3), none, none, none]) ⟨rfl, rfl, rfl, rfl, trivial⟩ ?_
      exact t_X8_edges_b143 G d hd rec k μ x1 x2 x3 hrec hk h
    · have h := (if_pos c3).symm.trans h
      refine wv_aload_n (pc' := 32) (i := 0) (v := 31) dX8_edges_31 rfl rfl rfl ?_
      refine wv_iload_n (pc' := 33) (i := 3) (v := x3) dX8_edges_32 rfl rfl rfl ?_
      refine wv_iload_n (pc' := 34) (i := 2) (v := x2) dX8_edges_33 rfl rfl rfl ?_
      refine wv_ior (pc' := 35) dX8_edges_34 rfl ?_
      obtain ⟨r4, er4, h⟩ := wd_bind_some h
      refine wv_callVi (pc' := 38) (x := r4) (ν := μ) [.inl (x3 ||| x2)] ml_X8_148 rc_31 rfl (Nat.le_of_ble_eq_true rfl) dX8_edges_35 rfl (c_X8_energy G d (Nat.le_trans (Nat.le_of_ble_eq_true rfl) hd)  er4) ?_
      refine wv_aload_n (pc' := 39) (i := 0) (v := 31) dX8_edges_38 rfl rfl rfl ?_
      refine wv_gi (pc' := 42) g_X8_59_31 dX8_edges_39 rfl ?_
      refine wv_aload_n (pc' := 43) (i := 0) (v := 31) dX8_edges_42 rfl rfl rfl ?_
      refine wv_iload_n (pc' := 44) (i := 3) (v := x3) dX8_edges_43 rfl rfl rfl ?_
      obtain ⟨r5, er5, h⟩ := wd_bind_some h
      refine wv_callVi (pc' := 47) (x := r5) (ν := μ) [.inl x3] ml_X8_151 rc_31 rfl (Nat.le_of_ble_eq_true rfl) dX8_edges_44 rfl (c_X8_setLate G d (Nat.le_trans (Nat.le_of_ble_eq_true rfl) hd)  er5) ?_
      refine wv_iload (pc' := 49) (v := r2) dX8_edges_47 rfl rfl ?_
      refine wv_isub (pc' := 50) dX8_edges_49 rfl ?_
      refine wv_imul (pc' := 51) dX8_edges_50 rfl ?_
      refine wv_icmp_le (pc' := 54) (tgt := 143) dX8_edges_51 (by decide) rfl (fun c6 => ?_) (fun c6 => ?_)
      · have h := (if_pos c6).symm.trans h
        refine wv_weak (L' := [some (.inr 31), some (.inl x1), some (.inl x2), some (.inl x3), none, none, none]) ⟨rfl, rfl, rfl, rfl, trivial⟩ ?_
        exact t_X8_edges_b143 G d hd rec k μ x1 x2 x3 hrec hk h
      · have h := (if_neg c6).symm.trans h
        refine wv_iload_n (pc' := 55) (i := 3) (v := x3) dX8_edges_54 rfl rfl rfl ?_
        refine wv_istore (pc' := 57) (L' := [some (.inr 31), some (.inl x1), some (.inl x2), some (.inl x3), some (.inl r2), some (.inl x3), none]) dX8_edges_55 (by decide) rfl rfl ?_
        refine wv_weak (L' := [some (.inr 31), some (.inl x1), some (.inl x2), some (.inl x3), none, some (.inl x3), none]) ⟨rfl, rfl, rfl, rfl, rfl, trivial⟩ ?_
        exact t_X8_edges_l57 G d hd (fun μ => X8_edges_b143 rec k μ x1 x2 x3) x1 x2 x3  (fun μ h => t_X8_edges_b143 G d hd rec k μ x1 x2 x3 hrec hk h) wd_big x3 μ h
set_option maxRecDepth 100000 in
set_option maxHeartbeats 4000000 in
theorem t_X8_edges_l6 (G : wd_G) (d : Nat) (hd : 2 ≤ d) {out : wd_Mem} (k : wd_Mem → Option (wd_Mem)) (x1 x2 : Int32) (hk : ∀  (μ : wd_Mem), k μ = some out → wd_V G (d + 1) RX8 cX8_edges 7 none (fun r u => r = none ∧ u = out) 149 [some (.inr 31), none, none, none, none, none, none] [] μ) : ∀ (n : Nat) (x3 : Int32) (μ : wd_Mem), X8_edges_l6 k x1 x2 n x3 μ = some out → wd_V G (d + 1) RX8 cX8_edges 7 none (fun r u => r = none ∧ u = out) 6 [some (.inr 31), some (.inl x1), some (.inl x2), some (.inl x3), none, none, none] [] μ := by
  intro n
  induction n with
  | zero => intro x3 μ h; exact absurd h (by unfold X8_edges_l6; simp)
  | succ n ih =>
    intro x3 μ h
    exact t_X8_edges_c6 G d hd (X8_edges_l6 k x1 x2 n) k μ x1 x2 x3  (fun x3 μ h => ih x3 μ h) hk h
set_option maxRecDepth 100000 in
set_option maxHeartbeats 4000000 in
theorem t_X8_edges_b149 (G : wd_G) (d : Nat) (hd : 2 ≤ d) {out : wd_Mem} (μ : wd_Mem)  (h : X8_edges_b149 μ = some out) : wd_V G (d + 1) RX8 cX8_edges 7 none (fun r u => r = none ∧ u = out) 149 [some (.inr 31), none, none, none, none, none, none] [] μ := by
  unfold X8_edges_b149 at h
  exact wv_return rfl dX8_edges_149 (wd_lv h)
set_option maxRecDepth 100000 in
set_option maxHeartbeats 4000000 in
theorem t_X8_edges_b0 (G : wd_G) (d : Nat) (hd : 2 ≤ d) {out : wd_Mem} (μ : wd_Mem) (x1 : Int32)  (h : X8_edges_b0 μ x1 = some out) : wd_V G (d + 1) RX8 cX8_edges 7 none (fun r u => r = none ∧ u = out) 0 [some (.inr 31), some (.inl x1), none, none, none, none, none] [] μ := by
  unfold X8_edges_b0 at h
  refine wv_iconst (pc' := 1) dX8_edges_0 ic_1 rfl ?_
  refine wv_iload_n (pc' := 2) (i := 1) (v := x1) dX8_edges_1 rfl rfl rfl ?_
  refine wv_ishl (pc' := 3) dX8_edges_2 rfl ?_
  refine wv_istore_n (pc' := 4) (i := 2) (L' := [some (.inr 31), some (.inl x1), some (.inl ((1 : Int32) <<< (x1 &&& 31))), none, none, none, none]) dX8_edges_3 rfl (by decide) rfl rfl ?_
  refine wv_iconst (pc' := 5) dX8_edges_4 ic_1 rfl ?_
  refine wv_istore_n (pc' := 6) (i := 3) (L' := [some (.inr 31), some (.inl x1), some (.inl ((1 : Int32) <<< (x1 &&& 31))), some (.inl (1 : Int32)), none, none, none]) dX8_edges_5 rfl (by decide) rfl rfl ?_
  exact t_X8_edges_l6 G d hd (fun μ => X8_edges_b149 μ) x1 ((1 : Int32) <<< (x1 &&& 31))  (fun μ h => t_X8_edges_b149 G d hd μ  h) wd_big (1 : Int32) μ h
set_option maxRecDepth 100000 in
set_option maxHeartbeats 4000000 in
theorem c_X8_edges (G : wd_G) (d : Nat) (hd : 3 ≤ d) {μ : wd_Mem} {x1 : Int32} {out : wd_Mem}  (h : X8_edges μ x1 = some out) : wd_C G d yX8_edges [.inr 31, .inl x1] μ (fun r u => r = none ∧ u = out) := by
  obtain ⟨d, rfl⟩ : ∃ e, d = e + 1 := ⟨d - 1, by omega⟩
  refine wd_enter mc_X8_edges (by decide) (by decide +kernel) rfl (Nat.le_of_ble_eq_true rfl) (L0 := [some (.inr 31), some (.inl x1), none, none, none, none, none]) rfl ?_
  exact t_X8_edges_b0 G d (by omega) μ x1 h
set_option maxRecDepth 100000 in
set_option maxHeartbeats 4000000 in
theorem t_X8_setDone_b39 (G : wd_G) (d : Nat) (hd : 1 ≤ d) {out : Int32} (rec : Int32 → Int32 → Option (Int32)) (k : Int32 → Option (Int32)) (μ : wd_Mem) (x1 x3 s0 : Int32) (hrec : ∀ (x2 x3 : Int32), rec x2 x3 = some out → wd_V G (d + 1) RX8 cX8_setDone 4 (some .int) (fun r u => r = some (.inl out) ∧ u = μ) 5 [some (.inr 31), some (.inl x1), some (.inl x2), some (.inl x3)] [] μ) (hk : ∀ (x2 : Int32), k x2 = some out → wd_V G (d + 1) RX8 cX8_setDone 4 (some .int) (fun r u => r = some (.inl out) ∧ u = μ) 46 [some (.inr 31), none, some (.inl x2), none] [] μ) (h : X8_setDone_b39 rec k μ x1 x3 s0 = some out) : wd_V G (d + 1) RX8 cX8_setDone 4 (some .int) (fun r u => r = some (.inl out) ∧ u = μ) 39 [some (.inr 31), some (.inl x1), none, some (.inl x3)] [.inl s0] μ := by
  unfold X8_setDone_b39 at h
  refine wv_istore_n (pc' := 40) (i := 2) (L' := [some (.inr 31), some (.inl x1), some (.inl s0), some (.inl x3)]) dX8_setDone_39 rfl (by decide) rfl rfl ?_
  refine wv_inc (pc' := 43) (x := x3) (L' := [some (.inr 31), some (.inl x1), some (.inl s0), some (.inl (x3 + (1 : Int32)))]) dX8_setDone_40 ic_1 rfl (by decide) rfl rfl ?_
  refine wv_goto (pc' := 5) dX8_setDone_43 (by decide) ?_
  exact hrec _ _ h
set_option maxRecDepth 100000 in
set_option maxHeartbeats 4000000 in
theorem t_X8_setDone_b38 (G : wd_G) (d : Nat) (hd : 1 ≤ d) {out : Int32} (rec : Int32 → Int32 → Option (Int32)) (k : Int32 → Option (Int32)) (μ : wd_Mem) (x1 x2 x3 : Int32) (hrec : ∀ (x2 x3 : Int32), rec x2 x3 = some out → wd_V G (d + 1) RX8 cX8_setDone 4 (some .int) (fun r u => r = some (.inl out) ∧ u = μ) 5 [some (.inr 31), some (.inl x1), some (.inl x2), some (.inl x3)] [] μ) (hk : ∀ (x2 : Int32), k x2 = some out → wd_V G (d + 1) RX8 cX8_setDone 4 (some .int) (fun r u => r = some (.inl out) ∧ u = μ) 46 [some (.inr 31), none, some (.inl x2), none] [] μ) (h : X8_setDone_b38 rec k μ x1 x2 x3 = some out) : wd_V G (d + 1) RX8 cX8_setDone 4 (some .int) (fun r u => r = some (.inl out) ∧ u = μ) 38 [some (.inr 31), some (.inl x1), some (.inl x2), some (.inl x3)] [] μ := by
  unfold X8_setDone_b38 at h
  refine wv_iload_n (pc' := 39) (i := 2) (v := x2) dX8_setDone_38 rfl rfl rfl ?_
  refine wv_weak (L' := [some (.inr 31), some (.inl x1), none, some (.inl x3)]) ⟨rfl, rfl, rfl, trivial⟩ ?_
  exact t_X8_setDone_b39 G d hd rec k μ x1 x3 x2 hrec hk h
set_option maxRecDepth 100000 in
set_option maxHeartbeats 4000000 in
theorem t_X8_setDone_c5 (G : wd_G) (d : Nat) (hd : 1 ≤ d) {out : Int32} (rec : Int32 → Int32 → Option (Int32)) (k : Int32 → Option (Int32)) (μ : wd_Mem) (x1 x2 x3 : Int32) (hrec : ∀ (x2 x3 : Int32), rec x2 x3 = some out → wd_V G (d + 1) RX8 cX8_setDone 4 (some .int) (fun r u => r = some (.inl out) ∧ u = μ) 5 [some (.inr 31), some (.inl x1), some (.inl x2), some (.inl x3)] [] μ) (hk : ∀ (x2 : Int32), k x2 = some out → wd_V G (d + 1) RX8 cX8_setDone 4 (some .int) (fun r u => r = some (.inl out) ∧ u = μ) 46 [some (.inr 31), none, some (.inl x2), none] [] μ) (h : X8_setDone_c5 rec k μ x1 x2 x3 = some out) : wd_V G (d + 1) RX8 cX8_setDone 4 (some .int) (fun r u => r = some (.inl out) ∧ u = μ) 5 [some (.inr 31), some (.inl x1), some (.inl x2), some (.inl x3)] [] μ := by
  unfold X8_setDone_c5 at h
  refine wv_iload_n (pc' := 6) (i := 3) (v := x3) dX8_setDone_5 rfl rfl rfl ?_
  refine wv_aload_n (pc' := 7) (i := 0) (v := 31) dX8_setDone_6 rfl rfl rfl ?_
  refine wv_gi (pc' := 10) g_X8_118_31 dX8_setDone_7 rfl ?_
  refine wv_icmp_ge (pc' := 13) (tgt := 46) dX8_setDone_10 (by decide) rfl (fun c1 => ?_) (fun c1 => ?_)
  · have h := (if_pos c1).symm.trans h
    refine wv_weak (L' := [some (.inr 31), none, some (.inl x2), none]) ⟨rfl, rfl, trivial⟩ ?_
    exact hk _ h
  · have h := (if_neg c1).symm.trans h
    refine wv_iload_n (pc' := 14) (i := 1) (v := x1) dX8_setDone_13 rfl rfl rfl ?_
    refine wv_iload_n (pc' := 15) (i := 3) (v := x3) dX8_setDone_14 rfl rfl rfl ?_
    refine wv_callSi (pc' := 18) (x := (X8_has μ x1 x3)) (ν := μ) [.inl x1, .inl x3] ml_X8_124 rfl (Nat.le_of_ble_eq_true rfl) dX8_setDone_15 rfl (c_X8_has G d (Nat.le_trans (Nat.le_of_ble_eq_true rfl) hd)  rfl) ?_
    refine wv_if_eq (pc' := 21) (tgt := 38) dX8_setDone_18 (by decide) rfl (fun c2 => ?_) (fun c2 => ?_)
    · have h := (if_pos c2).symm.trans h
      exact t_X8_setDone_b38 G d hd rec k μ x1 x2 x3 hrec hk h
    · have h := (if_neg c2).symm.trans h
      refine wv_aload_n (pc' := 22) (i := 0) (v := 31) dX8_setDone_21 rfl rfl rfl ?_
      refine wv_iload_n (pc' := 23) (i := 3) (v := x3) dX8_setDone_22 rfl rfl rfl ?_
      obtain ⟨r3, er3, h⟩ := wd_bind_some h
      refine wv_callVi (pc' := 26) (x := r3) (ν := μ) [.inl x3] ml_X8_127 rc_31 rfl (Nat.le_of_ble_eq_true rfl) dX8_setDone_23 rfl (c_X8_done G d (Nat.le_trans (Nat.le_of_ble_eq_true rfl) hd)  er3) ?_
      refine wv_iload_n (pc' := 27) (i := 2) (v := x2) dX8_setDone_26 rfl rfl rfl ?_
      refine wv_icmp_ge (pc' := 30) (tgt := 38) dX8_setDone_27 (by decide) rfl (fun c4 => ?_) (fun c4 => ?_)
      · have h := (if_pos c4).symm.trans h
        exact t_X8_setDone_b38 G d hd rec k μ x1 x2 x3 hrec hk h
      · have h := (if_neg c4).symm.trans h
        refine wv_aload_n (pc' := 31) (i := 0) (v := 31) dX8_setDone_30 rfl rfl rfl ?_
        refine wv_iload_n (pc' := 32) (i := 3) (v := x3) dX8_setDone_31 rfl rfl rfl ?_
        obtain ⟨r5, er5, h⟩ := wd_bind_some h
        refine wv_callVi (pc' := 35) (x := r5) (ν := μ) [.inl x3] ml_X8_127 rc_31 rfl (Nat.le_of_ble_eq_true rfl) dX8_setDone_32 rfl (c_X8_done G d (Nat.le_trans (Nat.le_of_ble_eq_true rfl) hd)  er5) ?_
        refine wv_goto (pc' := 39) dX8_setDone_35 (by decide) ?_
        refine wv_weak (L' := [some (.inr 31), some (.inl x1), none, some (.inl x3)]) ⟨rfl, rfl, rfl, trivial⟩ ?_
        exact t_X8_setDone_b39 G d hd rec k μ x1 x3 r5 hrec hk h
set_option maxRecDepth 100000 in
set_option maxHeartbeats 4000000 in
theorem t_X8_setDone_l5 (G : wd_G) (d : Nat) (hd : 1 ≤ d) {out : Int32} (k : Int32 → Option (Int32)) (μ : wd_Mem) (x1 : Int32) (hk : ∀ (x2 : Int32), k x2 = some out → wd_V G (d + 1) RX8 cX8_setDone 4 (some .int) (fun r u => r = some (.inl out) ∧ u = μ) 46 [some (.inr 31), none, some (.inl x2), none] [] μ) : ∀ (n : Nat) (x2 x3 : Int32), X8_setDone_l5 k μ x1 n x2 x3 = some out → wd_V G (d + 1) RX8 cX8_setDone 4 (some .int) (fun r u => r = some (.inl out) ∧ u = μ) 5 [some (.inr 31), some (.inl x1), some (.inl x2), some (.inl x3)] [] μ := by
  intro n
  induction n with
  | zero => intro x2 x3 h; exact absurd h (by unfold X8_setDone_l5; simp)
  | succ n ih =>
    intro x2 x3 h
    exact t_X8_setDone_c5 G d hd (X8_setDone_l5 k μ x1 n) k μ x1 x2 x3  (fun x2 x3 h => ih x2 x3 h) hk h
set_option maxRecDepth 100000 in
set_option maxHeartbeats 4000000 in
theorem t_X8_setDone_b46 (G : wd_G) (d : Nat) (hd : 1 ≤ d) {out : Int32} (μ : wd_Mem) (x2 : Int32)  (h : X8_setDone_b46 μ x2 = some out) : wd_V G (d + 1) RX8 cX8_setDone 4 (some .int) (fun r u => r = some (.inl out) ∧ u = μ) 46 [some (.inr 31), none, some (.inl x2), none] [] μ := by
  unfold X8_setDone_b46 at h
  refine wv_iload_n (pc' := 47) (i := 2) (v := x2) dX8_setDone_46 rfl rfl rfl ?_
  exact wv_ireturn rfl dX8_setDone_47 (wd_li h)
set_option maxRecDepth 100000 in
set_option maxHeartbeats 4000000 in
theorem t_X8_setDone_b0 (G : wd_G) (d : Nat) (hd : 1 ≤ d) {out : Int32} (μ : wd_Mem) (x1 : Int32)  (h : X8_setDone_b0 μ x1 = some out) : wd_V G (d + 1) RX8 cX8_setDone 4 (some .int) (fun r u => r = some (.inl out) ∧ u = μ) 0 [some (.inr 31), some (.inl x1), none, none] [] μ := by
  unfold X8_setDone_b0 at h
  refine wv_bipush (pc' := 2) dX8_setDone_0 bp_99 rfl ?_
  refine wv_istore_n (pc' := 3) (i := 2) (L' := [some (.inr 31), some (.inl x1), some (.inl (99 : Int32)), none]) dX8_setDone_2 rfl (by decide) rfl rfl ?_
  refine wv_iconst (pc' := 4) dX8_setDone_3 ic_0 rfl ?_
  refine wv_istore_n (pc' := 5) (i := 3) (L' := [some (.inr 31), some (.inl x1), some (.inl (99 : Int32)), some (.inl (0 : Int32))]) dX8_setDone_4 rfl (by decide) rfl rfl ?_
  exact t_X8_setDone_l5 G d hd (fun x2 => X8_setDone_b46 μ x2) μ x1  (fun x2 h => t_X8_setDone_b46 G d hd μ x2  h) wd_big (99 : Int32) (0 : Int32) h
set_option maxRecDepth 100000 in
set_option maxHeartbeats 4000000 in
theorem c_X8_setDone (G : wd_G) (d : Nat) (hd : 2 ≤ d) {μ : wd_Mem} {x1 : Int32} {out : Int32}  (h : X8_setDone μ x1 = some out) : wd_C G d yX8_setDone [.inr 31, .inl x1] μ (fun r u => r = some (.inl out) ∧ u = μ) := by
  obtain ⟨d, rfl⟩ : ∃ e, d = e + 1 := ⟨d - 1, by omega⟩
  refine wd_enter mc_X8_setDone (by decide) (by decide +kernel) rfl (Nat.le_of_ble_eq_true rfl) (L0 := [some (.inr 31), some (.inl x1), none, none]) rfl ?_
  exact t_X8_setDone_b0 G d (by omega) μ x1 h
