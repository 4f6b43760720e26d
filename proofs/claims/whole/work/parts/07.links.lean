theorem wd_lt {v out : Int32} {μ : wd_Mem} (h : v = out) : (some (Sum.inl v) : Option wd_AV) = some (.inl out) ∧ μ = μ := ⟨by rw [h], rfl⟩
theorem wd_li {v out : Int32} {μ : wd_Mem} (h : some v = some out) : (some (Sum.inl v) : Option wd_AV) = some (.inl out) ∧ μ = μ := ⟨by rw [Option.some.inj h], rfl⟩
theorem wd_lr {v out : Nat} {μ : wd_Mem} (h : some v = some out) : (some (Sum.inr v) : Option wd_AV) = some (.inr out) ∧ μ = μ := ⟨by rw [Option.some.inj h], rfl⟩
theorem wd_liv {v : Int32} {μ : wd_Mem} {out : Int32 × wd_Mem} (h : some (v, μ) = some out) : (some (Sum.inl v) : Option wd_AV) = some (.inl out.1) ∧ μ = out.2 := by rw [← Option.some.inj h]; exact ⟨rfl, rfl⟩
theorem wd_lv {μ out : wd_Mem} (h : some μ = some out) : (none : Option wd_AV) = none ∧ μ = out := ⟨rfl, Option.some.inj h⟩
theorem wlay_X0 : ∀ k, k < 3 → u_lay RX0 TX0 k ∈ wd_tab := by
  intro k hk
  match k, hk with
  | 0, _ => exact wd_tab_in (List.mem_of_getElem? (i := 115) (by decide +kernel)) (by decide +kernel)
  | 1, _ => exact wd_tab_in (List.mem_of_getElem? (i := 117) (by decide +kernel)) (by decide +kernel)
  | 2, _ => exact wd_tab_in (List.mem_of_getElem? (i := 119) (by decide +kernel)) (by decide +kernel)
  | k + 3, h => exact absurd h (by omega)
theorem wcls_X0 : wd_cls 0 RX0 TX0 3 := ⟨rfl, fun w hw => by
  obtain ⟨k, hk, rfl⟩ := List.mem_map.mp hw
  exact wlay_X0 k (List.mem_range.mp hk), ⟨tyX0, tyX0_ok⟩, nmX0⟩
theorem wlay_X1 : ∀ k, k < 4 → u_lay RX1 TX1 k ∈ wd_tab := by
  intro k hk
  match k, hk with
  | 0, _ => exact wd_tab_in (List.mem_of_getElem? (i := 175) (by decide +kernel)) (by decide +kernel)
  | 1, _ => exact wd_tab_in (List.mem_of_getElem? (i := 177) (by decide +kernel)) (by decide +kernel)
  | 2, _ => exact wd_tab_in (List.mem_of_getElem? (i := 179) (by decide +kernel)) (by decide +kernel)
  | 3, _ => exact wd_tab_in (List.mem_of_getElem? (i := 181) (by decide +kernel)) (by decide +kernel)
  | k + 4, h => exact absurd h (by omega)
theorem wcls_X1 : wd_cls 1 RX1 TX1 4 := ⟨rfl, fun w hw => by
  obtain ⟨k, hk, rfl⟩ := List.mem_map.mp hw
  exact wlay_X1 k (List.mem_range.mp hk), ⟨tyX1, tyX1_ok⟩, nmX1⟩
theorem wlay_X2 : ∀ k, k < 7 → u_lay RX2 TX2 k ∈ wd_tab := by
  intro k hk
  match k, hk with
  | 0, _ => exact wd_tab_in (List.mem_of_getElem? (i := 197) (by decide +kernel)) (by decide +kernel)
  | 1, _ => exact wd_tab_in (List.mem_of_getElem? (i := 199) (by decide +kernel)) (by decide +kernel)
  | 2, _ => exact wd_tab_in (List.mem_of_getElem? (i := 201) (by decide +kernel)) (by decide +kernel)
  | 3, _ => exact wd_tab_in (List.mem_of_getElem? (i := 203) (by decide +kernel)) (by decide +kernel)
  | 4, _ => exact wd_tab_in (List.mem_of_getElem? (i := 205) (by decide +kernel)) (by decide +kernel)
  | 5, _ => exact wd_tab_in (List.mem_of_getElem? (i := 207) (by decide +kernel)) (by decide +kernel)
  | 6, _ => exact wd_tab_in (List.mem_of_getElem? (i := 209) (by decide +kernel)) (by decide +kernel)
  | k + 7, h => exact absurd h (by omega)
theorem wcls_X2 : wd_cls 2 RX2 TX2 7 := ⟨rfl, fun w hw => by
  obtain ⟨k, hk, rfl⟩ := List.mem_map.mp hw
  exact wlay_X2 k (List.mem_range.mp hk), ⟨tyX2, tyX2_ok⟩, nmX2⟩
theorem wlay_X3 : ∀ k, k < 9 → u_lay RX3 TX3 k ∈ wd_tab := by
  intro k hk
  match k, hk with
  | 0, _ => exact wd_tab_in (List.mem_of_getElem? (i := 146) (by decide +kernel)) (by decide +kernel)
  | 1, _ => exact wd_tab_in (List.mem_of_getElem? (i := 148) (by decide +kernel)) (by decide +kernel)
  | 2, _ => exact wd_tab_in (List.mem_of_getElem? (i := 150) (by decide +kernel)) (by decide +kernel)
  | 3, _ => exact wd_tab_in (List.mem_of_getElem? (i := 152) (by decide +kernel)) (by decide +kernel)
  | 4, _ => exact wd_tab_in (List.mem_of_getElem? (i := 154) (by decide +kernel)) (by decide +kernel)
  | 5, _ => exact wd_tab_in (List.mem_of_getElem? (i := 156) (by decide +kernel)) (by decide +kernel)
  | 6, _ => exact wd_tab_in (List.mem_of_getElem? (i := 158) (by decide +kernel)) (by decide +kernel)
  | 7, _ => exact wd_tab_in (List.mem_of_getElem? (i := 160) (by decide +kernel)) (by decide +kernel)
  | 8, _ => exact wd_tab_in (List.mem_of_getElem? (i := 162) (by decide +kernel)) (by decide +kernel)
  | k + 9, h => exact absurd h (by omega)
theorem wcls_X3 : wd_cls 3 RX3 TX3 9 := ⟨rfl, fun w hw => by
  obtain ⟨k, hk, rfl⟩ := List.mem_map.mp hw
  exact wlay_X3 k (List.mem_range.mp hk), ⟨tyX3, tyX3_ok⟩, nmX3⟩
theorem wlay_X4 : ∀ k, k < 4 → u_lay RX4 TX4 k ∈ wd_tab := by
  intro k hk
  match k, hk with
  | 0, _ => exact wd_tab_in (List.mem_of_getElem? (i := 77) (by decide +kernel)) (by decide +kernel)
  | 1, _ => exact wd_tab_in (List.mem_of_getElem? (i := 79) (by decide +kernel)) (by decide +kernel)
  | 2, _ => exact wd_tab_in (List.mem_of_getElem? (i := 81) (by decide +kernel)) (by decide +kernel)
  | 3, _ => exact wd_tab_in (List.mem_of_getElem? (i := 83) (by decide +kernel)) (by decide +kernel)
  | k + 4, h => exact absurd h (by omega)
theorem wcls_X4 : wd_cls 4 RX4 TX4 4 := ⟨rfl, fun w hw => by
  obtain ⟨k, hk, rfl⟩ := List.mem_map.mp hw
  exact wlay_X4 k (List.mem_range.mp hk), ⟨tyX4, tyX4_ok⟩, nmX4⟩
theorem wlay_X5 : ∀ k, k < 6 → u_lay RX5 TX5 k ∈ wd_tab := by
  intro k hk
  match k, hk with
  | 0, _ => exact wd_tab_in (List.mem_of_getElem? (i := 33) (by decide +kernel)) (by decide +kernel)
  | 1, _ => exact wd_tab_in (List.mem_of_getElem? (i := 35) (by decide +kernel)) (by decide +kernel)
  | 2, _ => exact wd_tab_in (List.mem_of_getElem? (i := 37) (by decide +kernel)) (by decide +kernel)
  | 3, _ => exact wd_tab_in (List.mem_of_getElem? (i := 39) (by decide +kernel)) (by decide +kernel)
  | 4, _ => exact wd_tab_in (List.mem_of_getElem? (i := 41) (by decide +kernel)) (by decide +kernel)
  | 5, _ => exact wd_tab_in (List.mem_of_getElem? (i := 43) (by decide +kernel)) (by decide +kernel)
  | k + 6, h => exact absurd h (by omega)
theorem wcls_X5 : wd_cls 5 RX5 TX5 6 := ⟨rfl, fun w hw => by
  obtain ⟨k, hk, rfl⟩ := List.mem_map.mp hw
  exact wlay_X5 k (List.mem_range.mp hk), ⟨tyX5, tyX5_ok⟩, nmX5⟩
theorem wlay_X6 : ∀ k, k < 3 → u_lay RX6 TX6 k ∈ wd_tab := by
  intro k hk
  match k, hk with
  | 0, _ => exact wd_tab_in (List.mem_of_getElem? (i := 95) (by decide +kernel)) (by decide +kernel)
  | 1, _ => exact wd_tab_in (List.mem_of_getElem? (i := 97) (by decide +kernel)) (by decide +kernel)
  | 2, _ => exact wd_tab_in (List.mem_of_getElem? (i := 99) (by decide +kernel)) (by decide +kernel)
  | k + 3, h => exact absurd h (by omega)
theorem wcls_X6 : wd_cls 6 RX6 TX6 3 := ⟨rfl, fun w hw => by
  obtain ⟨k, hk, rfl⟩ := List.mem_map.mp hw
  exact wlay_X6 k (List.mem_range.mp hk), ⟨tyX6, tyX6_ok⟩, nmX6⟩
theorem wlay_X7 : ∀ k, k < 11 → u_lay RX7 TX7 k ∈ wd_tab := by
  intro k hk
  match k, hk with
  | 0, _ => exact wd_tab_in (List.mem_of_getElem? (i := 223) (by decide +kernel)) (by decide +kernel)
  | 1, _ => exact wd_tab_in (List.mem_of_getElem? (i := 225) (by decide +kernel)) (by decide +kernel)
  | 2, _ => exact wd_tab_in (List.mem_of_getElem? (i := 227) (by decide +kernel)) (by decide +kernel)
  | 3, _ => exact wd_tab_in (List.mem_of_getElem? (i := 229) (by decide +kernel)) (by decide +kernel)
  | 4, _ => exact wd_tab_in (List.mem_of_getElem? (i := 231) (by decide +kernel)) (by decide +kernel)
  | 5, _ => exact wd_tab_in (List.mem_of_getElem? (i := 233) (by decide +kernel)) (by decide +kernel)
  | 6, _ => exact wd_tab_in (List.mem_of_getElem? (i := 235) (by decide +kernel)) (by decide +kernel)
  | 7, _ => exact wd_tab_in (List.mem_of_getElem? (i := 237) (by decide +kernel)) (by decide +kernel)
  | 8, _ => exact wd_tab_in (List.mem_of_getElem? (i := 239) (by decide +kernel)) (by decide +kernel)
  | 9, _ => exact wd_tab_in (List.mem_of_getElem? (i := 241) (by decide +kernel)) (by decide +kernel)
  | 10, _ => exact wd_tab_in (List.mem_of_getElem? (i := 243) (by decide +kernel)) (by decide +kernel)
  | k + 11, h => exact absurd h (by omega)
theorem wcls_X7 : wd_cls 7 RX7 TX7 11 := ⟨rfl, fun w hw => by
  obtain ⟨k, hk, rfl⟩ := List.mem_map.mp hw
  exact wlay_X7 k (List.mem_range.mp hk), ⟨tyX7, tyX7_ok⟩, nmX7⟩
theorem wlay_X8 : ∀ k, k < 28 → u_lay RX8 TX8 k ∈ wd_tab := by
  intro k hk
  match k, hk with
  | 0, _ => exact wd_tab_in (List.mem_of_getElem? (i := 645) (by decide +kernel)) (by decide +kernel)
  | 1, _ => exact wd_tab_in (List.mem_of_getElem? (i := 647) (by decide +kernel)) (by decide +kernel)
  | 2, _ => exact wd_tab_in (List.mem_of_getElem? (i := 649) (by decide +kernel)) (by decide +kernel)
  | 3, _ => exact wd_tab_in (List.mem_of_getElem? (i := 651) (by decide +kernel)) (by decide +kernel)
  | 4, _ => exact wd_tab_in (List.mem_of_getElem? (i := 653) (by decide +kernel)) (by decide +kernel)
  | 5, _ => exact wd_tab_in (List.mem_of_getElem? (i := 655) (by decide +kernel)) (by decide +kernel)
  | 6, _ => exact wd_tab_in (List.mem_of_getElem? (i := 657) (by decide +kernel)) (by decide +kernel)
  | 7, _ => exact wd_tab_in (List.mem_of_getElem? (i := 659) (by decide +kernel)) (by decide +kernel)
  | 8, _ => exact wd_tab_in (List.mem_of_getElem? (i := 661) (by decide +kernel)) (by decide +kernel)
  | 9, _ => exact wd_tab_in (List.mem_of_getElem? (i := 663) (by decide +kernel)) (by decide +kernel)
  | 10, _ => exact wd_tab_in (List.mem_of_getElem? (i := 665) (by decide +kernel)) (by decide +kernel)
  | 11, _ => exact wd_tab_in (List.mem_of_getElem? (i := 667) (by decide +kernel)) (by decide +kernel)
  | 12, _ => exact wd_tab_in (List.mem_of_getElem? (i := 669) (by decide +kernel)) (by decide +kernel)
  | 13, _ => exact wd_tab_in (List.mem_of_getElem? (i := 671) (by decide +kernel)) (by decide +kernel)
  | 14, _ => exact wd_tab_in (List.mem_of_getElem? (i := 673) (by decide +kernel)) (by decide +kernel)
  | 15, _ => exact wd_tab_in (List.mem_of_getElem? (i := 675) (by decide +kernel)) (by decide +kernel)
  | 16, _ => exact wd_tab_in (List.mem_of_getElem? (i := 677) (by decide +kernel)) (by decide +kernel)
  | 17, _ => exact wd_tab_in (List.mem_of_getElem? (i := 679) (by decide +kernel)) (by decide +kernel)
  | 18, _ => exact wd_tab_in (List.mem_of_getElem? (i := 681) (by decide +kernel)) (by decide +kernel)
  | 19, _ => exact wd_tab_in (List.mem_of_getElem? (i := 683) (by decide +kernel)) (by decide +kernel)
  | 20, _ => exact wd_tab_in (List.mem_of_getElem? (i := 685) (by decide +kernel)) (by decide +kernel)
  | 21, _ => exact wd_tab_in (List.mem_of_getElem? (i := 687) (by decide +kernel)) (by decide +kernel)
  | 22, _ => exact wd_tab_in (List.mem_of_getElem? (i := 689) (by decide +kernel)) (by decide +kernel)
  | 23, _ => exact wd_tab_in (List.mem_of_getElem? (i := 691) (by decide +kernel)) (by decide +kernel)
  | 24, _ => exact wd_tab_in (List.mem_of_getElem? (i := 693) (by decide +kernel)) (by decide +kernel)
  | 25, _ => exact wd_tab_in (List.mem_of_getElem? (i := 695) (by decide +kernel)) (by decide +kernel)
  | 26, _ => exact wd_tab_in (List.mem_of_getElem? (i := 697) (by decide +kernel)) (by decide +kernel)
  | 27, _ => exact wd_tab_in (List.mem_of_getElem? (i := 699) (by decide +kernel)) (by decide +kernel)
  | k + 28, h => exact absurd h (by omega)
theorem wcls_X8 : wd_cls 8 RX8 TX8 28 := ⟨rfl, fun w hw => by
  obtain ⟨k, hk, rfl⟩ := List.mem_map.mp hw
  exact wlay_X8 k (List.mem_range.mp hk), ⟨tyX8, tyX8_ok⟩, nmX8⟩
theorem sh_0 : wd_sh[0]? = some (.inr (.inr (7, [some 1, some 3, some 6, some 48, some 52, some 29, some 30, some 27, some 9, some 18, some 21]))) := rfl
theorem sh_1 : wd_sh[1]? = some (.inr (.inr (5, [some 2, none, none, none, none, none]))) := rfl
theorem sh_3 : wd_sh[3]? = some (.inr (.inr (4, [none, none, some 4, some 5]))) := rfl
theorem sh_6 : wd_sh[6]? = some (.inr (.inr (4, [none, none, some 7, some 8]))) := rfl
theorem sh_9 : wd_sh[9]? = some (.inr (.inr (3, [some 3, some 10, some 11, some 12, some 13, some 14, some 15, some 16, some 17]))) := rfl
theorem sh_18 : wd_sh[18]? = some (.inr (.inr (1, [some 3, some 9, some 19, some 20]))) := rfl
theorem sh_21 : wd_sh[21]? = some (.inr (.inr (2, [some 3, some 22, some 23, some 24, some 25, some 26, none]))) := rfl
theorem sh_27 : wd_sh[27]? = some (.inr (.inr (0, [some 28, none, none]))) := rfl
theorem sh_31 : wd_sh[31]? = some (.inr (.inr (8, [none, none, some 32, some 33, some 34, none, none, some 35, some 36, some 37, none, some 38, none, none, none, none, none, none, none, some 39, some 40, some 41, some 42, some 43, some 44, some 45, some 46, some 47]))) := rfl
theorem sh_48 : wd_isW 48 := by unfold wd_isW wd_wins; simp
theorem sh_52 : wd_isW 52 := by unfold wd_isW wd_wins; simp
theorem sh_56 : wd_isW 56 := by unfold wd_isW wd_wins; simp
theorem sh_60 : wd_isW 60 := by unfold wd_isW wd_wins; simp
theorem sh_64 : wd_isW 64 := by unfold wd_isW wd_wins; simp
theorem sh_68 : wd_isW 68 := by unfold wd_isW wd_wins; simp
theorem sh_72 : wd_isW 72 := by unfold wd_isW wd_wins; simp
theorem sh_76 : wd_isW 76 := by unfold wd_isW wd_wins; simp
theorem sh_80 : wd_isW 80 := by unfold wd_isW wd_wins; simp
theorem sh_84 : wd_isW 84 := by unfold wd_isW wd_wins; simp
theorem sh_88 : wd_isW 88 := by unfold wd_isW wd_wins; simp
theorem sh_92 : wd_isW 92 := by unfold wd_isW wd_wins; simp
theorem sh_96 : wd_isW 96 := by unfold wd_isW wd_wins; simp
theorem sh_100 : wd_isW 100 := by unfold wd_isW wd_wins; simp
theorem sa_2 : wd_sh[2]? = some (.inl (.int, 100)) := rfl
theorem sa_4 : wd_sh[4]? = some (.inl (.int, 5)) := rfl
theorem sa_5 : wd_sh[5]? = some (.inl (.int, 5)) := rfl
theorem sa_7 : wd_sh[7]? = some (.inl (.int, 5)) := rfl
theorem sa_8 : wd_sh[8]? = some (.inl (.int, 5)) := rfl
theorem sa_30 : wd_sh[30]? = some (.inl (.boolean, 2)) := rfl
theorem sa_32 : wd_sh[32]? = some (.inl (.int, 5)) := rfl
theorem sa_33 : wd_sh[33]? = some (.inl (.int, 5)) := rfl
theorem sa_34 : wd_sh[34]? = some (.inl (.int, 30)) := rfl
theorem sa_35 : wd_sh[35]? = some (.inl (.int, 300)) := rfl
theorem sa_36 : wd_sh[36]? = some (.inl (.boolean, 2)) := rfl
theorem sa_37 : wd_sh[37]? = some (.inl (.int, 60)) := rfl
theorem sa_38 : wd_sh[38]? = some (.inl (.int, 100)) := rfl
theorem sa_39 : wd_sh[39]? = some (.inl (.int, 20)) := rfl
theorem sa_44 : wd_sh[44]? = some (.inl (.int, 30)) := rfl
theorem sa_46 : wd_sh[46]? = some (.inl (.int, 16)) := rfl
theorem sa_26 : wd_sh[26]? = some (.inl (.int, 16)) := rfl
theorem sa_10 : wd_sh[10]? = some (.inl (.int, 5)) := rfl
theorem sa_11 : wd_sh[11]? = some (.inl (.int, 5)) := rfl
theorem sa_12 : wd_sh[12]? = some (.inl (.int, 5)) := rfl
theorem sa_13 : wd_sh[13]? = some (.inl (.int, 5)) := rfl
theorem sa_19 : wd_sh[19]? = some (.inl (.int, 5)) := rfl
theorem sa_20 : wd_sh[20]? = some (.inl (.int, 5)) := rfl
theorem sa_22 : wd_sh[22]? = some (.inl (.int, 5)) := rfl
theorem sa_23 : wd_sh[23]? = some (.inl (.int, 5)) := rfl
theorem sa_24 : wd_sh[24]? = some (.inl (.int, 5)) := rfl
theorem sa_25 : wd_sh[25]? = some (.inl (.int, 5)) := rfl
theorem sa_40 : wd_sh[40]? = some (.inl (.int, 5)) := rfl
theorem sa_41 : wd_sh[41]? = some (.inl (.int, 5)) := rfl
theorem sa_42 : wd_sh[42]? = some (.inl (.int, 5)) := rfl
theorem sa_43 : wd_sh[43]? = some (.inl (.int, 5)) := rfl
theorem sa_45 : wd_sh[45]? = some (.inl (.int, 5)) := rfl
theorem sa_47 : wd_sh[47]? = some (.inl (.int, 5)) := rfl
theorem sa_14 : wd_sh[14]? = some (.inl (.int, 32)) := rfl
theorem sa_15 : wd_sh[15]? = some (.inl (.int, 32)) := rfl
theorem sa_16 : wd_sh[16]? = some (.inl (.int, 32)) := rfl
theorem sa_17 : wd_sh[17]? = some (.inl (.int, 32)) := rfl
theorem sr_28 : wd_sh[28]? = some (.inr (.inl wd_ring)) := rfl
theorem sr_29 : wd_sh[29]? = some (.inr (.inl wd_imgs)) := rfl
theorem fl_X5_15 : wd_FL RX5 15 5 1 := ⟨RX5, TX5, 6, wcls_X5, by decide, wd_tab_in (List.mem_of_getElem? (i := 27) (by decide +kernel)) (by decide +kernel)⟩
theorem g_X5_15_1 : wd_GI RX5 15 1 1 := ⟨_, _, fl_X5_15, sh_1, rfl⟩
theorem bp_100 : (Int8.ofInt (100)).toInt32 = (100 : Int32) := by decide
theorem fl_X5_9 : wd_FL RX5 9 5 0 := ⟨RX5, TX5, 6, wcls_X5, by decide, wd_tab_in (List.mem_of_getElem? (i := 26) (by decide +kernel)) (by decide +kernel)⟩
theorem g_X5_9_1 : wd_GR RX5 9 1 0 2 := ⟨_, _, fl_X5_9, sh_1, rfl⟩
theorem ic_1 : Int32.ofInt (1) = (1 : Int32) := by decide
theorem fp_X5_15 : wd_FP RX5 15 5 1 := ⟨RX5, TX5, 6, wcls_X5, by decide, wd_tab_in (List.mem_of_getElem? (i := 27) (by decide +kernel)) (by decide +kernel), rfl, by decide +kernel⟩
theorem p_X5_15_1 : wd_PI RX5 15 1 1 := ⟨_, _, fp_X5_15, sh_1, rfl⟩
theorem ic_0 : Int32.ofInt (0) = (0 : Int32) := by decide
theorem mc_X5_add : Cond.code yX5_add cX5_add 2 (some .boolean) ∈ wd_tab := wd_tab_in (List.mem_of_getElem? (i := 253) (by decide +kernel)) (by decide +kernel)
theorem ic_m1 : Int32.ofInt (-1) = (-1 : Int32) := by decide
theorem sp_255 : (Int16.ofInt (255)).toInt32 = (255 : Int32) := by decide
theorem fl_X7_12 : wd_FL RX7 12 7 0 := ⟨RX7, TX7, 11, wcls_X7, by decide, wd_tab_in (List.mem_of_getElem? (i := 212) (by decide +kernel)) (by decide +kernel)⟩
theorem g_X7_12_0 : wd_GR RX7 12 0 0 1 := ⟨_, _, fl_X7_12, sh_0, rfl⟩
theorem ml_X7_76 : wd_MV RX7 76 yX5_add 1 := ⟨⟨wd_tab_in (List.mem_of_getElem? (i := 250) (by decide +kernel)) (by decide +kernel), wd_tab_in (List.mem_of_getElem? (i := 2) (by decide +kernel)) (by decide +kernel), by decide +kernel⟩, wd_tab_in (List.mem_of_getElem? (i := 251) (by decide +kernel)) (by decide +kernel), wd_tab_in (List.mem_of_getElem? (i := 252) (by decide +kernel)) (by decide +kernel)⟩
theorem rc_1 : wd_RC 1 RX5 := ⟨_, _, sh_1, rfl⟩
theorem bp_m3 : (Int8.ofInt (-3)).toInt32 = (-3 : Int32) := by decide
theorem fl_X7_80 : wd_FL RX7 80 5 1 := ⟨RX5, TX5, 6, wcls_X5, by decide, wd_tab_in (List.mem_of_getElem? (i := 28) (by decide +kernel)) (by decide +kernel)⟩
theorem g_X7_80_1 : wd_GI RX7 80 1 1 := ⟨_, _, fl_X7_80, sh_1, rfl⟩
theorem mc_X7_type : Cond.code yX7_type cX7_type 2 (some .int) ∈ wd_tab := wd_tab_in (List.mem_of_getElem? (i := 249) (by decide +kernel)) (by decide +kernel)
theorem fp_X7_80 : wd_FP RX7 80 5 1 := ⟨RX5, TX5, 6, wcls_X5, by decide, wd_tab_in (List.mem_of_getElem? (i := 28) (by decide +kernel)) (by decide +kernel), rfl, by decide +kernel⟩
theorem p_X7_80_1 : wd_PI RX7 80 1 1 := ⟨_, _, fp_X7_80, sh_1, rfl⟩
theorem mc_X7_clear : Cond.code yX7_clear cX7_clear 2 (some .int) ∈ wd_tab := wd_tab_in (List.mem_of_getElem? (i := 257) (by decide +kernel)) (by decide +kernel)
theorem ic_3 : Int32.ofInt (3) = (3 : Int32) := by decide
theorem fp_X4_9 : wd_FP RX4 9 4 0 := ⟨RX4, TX4, 4, wcls_X4, by decide, wd_tab_in (List.mem_of_getElem? (i := 53) (by decide +kernel)) (by decide +kernel), rfl, by decide +kernel⟩
theorem p_X4_9_T {h : Nat} (w : wd_isT h) : wd_PI RX4 9 h 0 := ⟨_, _, fp_X4_9, (wd_shT w).1, rfl⟩
theorem fp_X4_22 : wd_FP RX4 22 4 1 := ⟨RX4, TX4, 4, wcls_X4, by decide, wd_tab_in (List.mem_of_getElem? (i := 59) (by decide +kernel)) (by decide +kernel), rfl, by decide +kernel⟩
theorem p_X4_22_T {h : Nat} (w : wd_isT h) : wd_PI RX4 22 h 1 := ⟨_, _, fp_X4_22, (wd_shT w).1, rfl⟩
theorem mc_X4_forget : Cond.code yX4_forget cX4_forget 1 none ∈ wd_tab := wd_tab_in (List.mem_of_getElem? (i := 269) (by decide +kernel)) (by decide +kernel)
theorem bp_48 : (Int8.ofInt (48)).toInt32 = (48 : Int32) := by decide
theorem bp_57 : (Int8.ofInt (57)).toInt32 = (57 : Int32) := by decide
theorem mc_X5_isDigit : Cond.code yX5_isDigit cX5_isDigit 1 (some .boolean) ∈ wd_tab := wd_tab_in (List.mem_of_getElem? (i := 276) (by decide +kernel)) (by decide +kernel)
theorem fp_X5_52 : wd_FP RX5 52 5 5 := ⟨RX5, TX5, 6, wcls_X5, by decide, wd_tab_in (List.mem_of_getElem? (i := 32) (by decide +kernel)) (by decide +kernel), rfl, by decide +kernel⟩
theorem p_X5_52_1 : wd_PI RX5 52 1 5 := ⟨_, _, fp_X5_52, sh_1, rfl⟩
theorem fl_X5_24 : wd_FL RX5 24 5 2 := ⟨RX5, TX5, 6, wcls_X5, by decide, wd_tab_in (List.mem_of_getElem? (i := 29) (by decide +kernel)) (by decide +kernel)⟩
theorem g_X5_24_1 : wd_GI RX5 24 1 2 := ⟨_, _, fl_X5_24, sh_1, rfl⟩
theorem ml_X5_77 : wd_MS RX5 77 yX5_isDigit 1 := ⟨⟨wd_tab_in (List.mem_of_getElem? (i := 274) (by decide +kernel)) (by decide +kernel), wd_tab_in (List.mem_of_getElem? (i := 2) (by decide +kernel)) (by decide +kernel), by decide +kernel⟩, wd_tab_in (List.mem_of_getElem? (i := 275) (by decide +kernel)) (by decide +kernel)⟩
theorem fl_X5_52 : wd_FL RX5 52 5 5 := ⟨RX5, TX5, 6, wcls_X5, by decide, wd_tab_in (List.mem_of_getElem? (i := 32) (by decide +kernel)) (by decide +kernel)⟩
theorem g_X5_52_1 : wd_GI RX5 52 1 5 := ⟨_, _, fl_X5_52, sh_1, rfl⟩
theorem bp_10 : (Int8.ofInt (10)).toInt32 = (10 : Int32) := by decide
theorem mm_X5_61 : wd_MM RX5 61 Lib.Math.min.name Lib.Math.min.code := ⟨wd_tab_in (List.mem_of_getElem? (i := 281) (by decide +kernel)) (by decide +kernel), wd_tab_in (List.mem_of_getElem? (i := 282) (by decide +kernel)) (by decide +kernel), wd_tab_in (List.mem_of_getElem? (i := 10) (by decide +kernel)) (by decide +kernel), wd_tab_in (List.mem_of_getElem? (i := 283) (by decide +kernel)) (by decide +kernel)⟩
theorem fp_X5_24 : wd_FP RX5 24 5 2 := ⟨RX5, TX5, 6, wcls_X5, by decide, wd_tab_in (List.mem_of_getElem? (i := 29) (by decide +kernel)) (by decide +kernel), rfl, by decide +kernel⟩
theorem p_X5_24_1 : wd_PI RX5 24 1 2 := ⟨_, _, fp_X5_24, sh_1, rfl⟩
theorem fl_X5_30 : wd_FL RX5 30 5 4 := ⟨RX5, TX5, 6, wcls_X5, by decide, wd_tab_in (List.mem_of_getElem? (i := 31) (by decide +kernel)) (by decide +kernel)⟩
theorem g_X5_30_1 : wd_GI RX5 30 1 4 := ⟨_, _, fl_X5_30, sh_1, rfl⟩
theorem bp_m2 : (Int8.ofInt (-2)).toInt32 = (-2 : Int32) := by decide
theorem fp_X5_33 : wd_FP RX5 33 5 3 := ⟨RX5, TX5, 6, wcls_X5, by decide, wd_tab_in (List.mem_of_getElem? (i := 30) (by decide +kernel)) (by decide +kernel), rfl, by decide +kernel⟩
theorem p_X5_33_1 : wd_PI RX5 33 1 3 := ⟨_, _, fp_X5_33, sh_1, rfl⟩
theorem mc_X5_nextNumber : Cond.code yX5_nextNumber cX5_nextNumber 2 none ∈ wd_tab := wd_tab_in (List.mem_of_getElem? (i := 280) (by decide +kernel)) (by decide +kernel)
theorem bp_32 : (Int8.ofInt (32)).toInt32 = (32 : Int32) := by decide
theorem fp_X5_30 : wd_FP RX5 30 5 4 := ⟨RX5, TX5, 6, wcls_X5, by decide, wd_tab_in (List.mem_of_getElem? (i := 31) (by decide +kernel)) (by decide +kernel), rfl, by decide +kernel⟩
theorem p_X5_30_1 : wd_PI RX5 30 1 4 := ⟨_, _, fp_X5_30, sh_1, rfl⟩
theorem ml_X5_81 : wd_MV RX5 81 yX5_nextNumber 0 := ⟨⟨wd_tab_in (List.mem_of_getElem? (i := 277) (by decide +kernel)) (by decide +kernel), wd_tab_in (List.mem_of_getElem? (i := 2) (by decide +kernel)) (by decide +kernel), by decide +kernel⟩, wd_tab_in (List.mem_of_getElem? (i := 279) (by decide +kernel)) (by decide +kernel), wd_tab_sel (i := 1) (q := (yX5_nextNumber, _)) rfl⟩
theorem mc_X5_nextToken : Cond.code yX5_nextToken cX5_nextToken 1 none ∈ wd_tab := wd_tab_in (List.mem_of_getElem? (i := 273) (by decide +kernel)) (by decide +kernel)
theorem ml_X5_27 : wd_MV RX5 27 yX5_nextToken 0 := ⟨⟨wd_tab_in (List.mem_of_getElem? (i := 270) (by decide +kernel)) (by decide +kernel), wd_tab_in (List.mem_of_getElem? (i := 2) (by decide +kernel)) (by decide +kernel), by decide +kernel⟩, wd_tab_in (List.mem_of_getElem? (i := 272) (by decide +kernel)) (by decide +kernel), wd_tab_sel (i := 0) (q := (yX5_nextToken, _)) rfl⟩
theorem fl_X5_33 : wd_FL RX5 33 5 3 := ⟨RX5, TX5, 6, wcls_X5, by decide, wd_tab_in (List.mem_of_getElem? (i := 30) (by decide +kernel)) (by decide +kernel)⟩
theorem g_X5_33_1 : wd_GI RX5 33 1 3 := ⟨_, _, fl_X5_33, sh_1, rfl⟩
theorem mc_X5_readNumber : Cond.code yX5_readNumber cX5_readNumber 3 (some .boolean) ∈ wd_tab := wd_tab_in (List.mem_of_getElem? (i := 291) (by decide +kernel)) (by decide +kernel)
theorem bp_20 : (Int8.ofInt (20)).toInt32 = (20 : Int32) := by decide
theorem ml_X5_48 : wd_MV RX5 48 yX5_readNumber 2 := ⟨⟨wd_tab_in (List.mem_of_getElem? (i := 288) (by decide +kernel)) (by decide +kernel), wd_tab_in (List.mem_of_getElem? (i := 2) (by decide +kernel)) (by decide +kernel), by decide +kernel⟩, wd_tab_in (List.mem_of_getElem? (i := 290) (by decide +kernel)) (by decide +kernel), wd_tab_sel (i := 3) (q := (yX5_readNumber, _)) rfl⟩
theorem fp_X5_55 : wd_FP RX5 55 4 0 := ⟨RX4, TX4, 4, wcls_X4, by decide, wd_tab_in (List.mem_of_getElem? (i := 54) (by decide +kernel)) (by decide +kernel), rfl, by decide +kernel⟩
theorem p_X5_55_T {h : Nat} (w : wd_isT h) : wd_PI RX5 55 h 0 := ⟨_, _, fp_X5_55, (wd_shT w).1, rfl⟩
theorem mc_X5_readRoom : Cond.code yX5_readRoom cX5_readRoom 2 (some .boolean) ∈ wd_tab := wd_tab_in (List.mem_of_getElem? (i := 287) (by decide +kernel)) (by decide +kernel)
theorem ic_5 : Int32.ofInt (5) = (5 : Int32) := by decide
theorem mc_X6_placeOf : Cond.code yX6_placeOf cX6_placeOf 2 (some .int) ∈ wd_tab := wd_tab_in (List.mem_of_getElem? (i := 306) (by decide +kernel)) (by decide +kernel)
theorem ml_X6_21 : wd_MS RX6 21 yX6_placeOf 2 := ⟨⟨wd_tab_in (List.mem_of_getElem? (i := 304) (by decide +kernel)) (by decide +kernel), wd_tab_in (List.mem_of_getElem? (i := 4) (by decide +kernel)) (by decide +kernel), by decide +kernel⟩, wd_tab_in (List.mem_of_getElem? (i := 305) (by decide +kernel)) (by decide +kernel)⟩
theorem fl_X6_11 : wd_FL RX6 11 6 0 := ⟨RX6, TX6, 3, wcls_X6, by decide, wd_tab_in (List.mem_of_getElem? (i := 92) (by decide +kernel)) (by decide +kernel)⟩
theorem g_X6_11_W {h : Nat} (w : wd_isW h) : wd_GR RX6 11 h 0 (h + 1) := ⟨_, _, fl_X6_11, (wd_shW w).1, rfl⟩
theorem fl_X6_15 : wd_FL RX6 15 6 1 := ⟨RX6, TX6, 3, wcls_X6, by decide, wd_tab_in (List.mem_of_getElem? (i := 93) (by decide +kernel)) (by decide +kernel)⟩
theorem g_X6_15_W {h : Nat} (w : wd_isW h) : wd_GR RX6 15 h 1 (h + 2) := ⟨_, _, fl_X6_15, (wd_shW w).1, rfl⟩
theorem fl_X6_18 : wd_FL RX6 18 6 2 := ⟨RX6, TX6, 3, wcls_X6, by decide, wd_tab_in (List.mem_of_getElem? (i := 94) (by decide +kernel)) (by decide +kernel)⟩
theorem g_X6_18_W {h : Nat} (w : wd_isW h) : wd_GR RX6 18 h 2 (h + 3) := ⟨_, _, fl_X6_18, (wd_shW w).1, rfl⟩
theorem mc_X6_move : Cond.code yX6_move cX6_move 7 none ∈ wd_tab := wd_tab_in (List.mem_of_getElem? (i := 303) (by decide +kernel)) (by decide +kernel)
theorem bp_m9 : (Int8.ofInt (-9)).toInt32 = (-9 : Int32) := by decide
theorem ml_X6_25 : wd_MV RX6 25 yX6_move 5 := ⟨⟨wd_tab_in (List.mem_of_getElem? (i := 300) (by decide +kernel)) (by decide +kernel), wd_tab_in (List.mem_of_getElem? (i := 4) (by decide +kernel)) (by decide +kernel), by decide +kernel⟩, wd_tab_in (List.mem_of_getElem? (i := 301) (by decide +kernel)) (by decide +kernel), wd_tab_in (List.mem_of_getElem? (i := 302) (by decide +kernel)) (by decide +kernel)⟩
theorem mc_X6_open : Cond.code yX6_open cX6_open 4 none ∈ wd_tab := wd_tab_in (List.mem_of_getElem? (i := 299) (by decide +kernel)) (by decide +kernel)
theorem fl_X4_22 : wd_FL RX4 22 4 1 := ⟨RX4, TX4, 4, wcls_X4, by decide, wd_tab_in (List.mem_of_getElem? (i := 59) (by decide +kernel)) (by decide +kernel)⟩
theorem g_X4_22_T {h : Nat} (w : wd_isT h) : wd_GI RX4 22 h 1 := ⟨_, _, fl_X4_22, (wd_shT w).1, rfl⟩
theorem fl_X4_15 : wd_FL RX4 15 4 2 := ⟨RX4, TX4, 4, wcls_X4, by decide, wd_tab_in (List.mem_of_getElem? (i := 66) (by decide +kernel)) (by decide +kernel)⟩
theorem g_X4_15_T {h : Nat} (w : wd_isT h) : wd_GR RX4 15 h 2 (h + 1) := ⟨_, _, fl_X4_15, (wd_shT w).1, rfl⟩
theorem fl_X4_19 : wd_FL RX4 19 4 3 := ⟨RX4, TX4, 4, wcls_X4, by decide, wd_tab_in (List.mem_of_getElem? (i := 72) (by decide +kernel)) (by decide +kernel)⟩
theorem g_X4_19_T {h : Nat} (w : wd_isT h) : wd_GR RX4 19 h 3 (h + 2) := ⟨_, _, fl_X4_19, (wd_shT w).1, rfl⟩
theorem mc_X4_add : Cond.code yX4_add cX4_add 3 none ∈ wd_tab := wd_tab_in (List.mem_of_getElem? (i := 310) (by decide +kernel)) (by decide +kernel)
theorem bp_116 : (Int8.ofInt (116)).toInt32 = (116 : Int32) := by decide
theorem fl_X5_58 : wd_FL RX5 58 4 1 := ⟨RX4, TX4, 4, wcls_X4, by decide, wd_tab_in (List.mem_of_getElem? (i := 63) (by decide +kernel)) (by decide +kernel)⟩
theorem g_X5_58_T {h : Nat} (w : wd_isT h) : wd_GI RX5 58 h 1 := ⟨_, _, fl_X5_58, (wd_shT w).1, rfl⟩
theorem bp_15 : (Int8.ofInt (15)).toInt32 = (15 : Int32) := by decide
theorem bp_16 : (Int8.ofInt (16)).toInt32 = (16 : Int32) := by decide
theorem bp_9 : (Int8.ofInt (9)).toInt32 = (9 : Int32) := by decide
theorem fl_X5_55 : wd_FL RX5 55 4 0 := ⟨RX4, TX4, 4, wcls_X4, by decide, wd_tab_in (List.mem_of_getElem? (i := 54) (by decide +kernel)) (by decide +kernel)⟩
theorem g_X5_55_T {h : Nat} (w : wd_isT h) : wd_GI RX5 55 h 0 := ⟨_, _, fl_X5_55, (wd_shT w).1, rfl⟩
theorem ml_X5_67 : wd_MV RX5 67 yX6_open 3 := ⟨⟨wd_tab_in (List.mem_of_getElem? (i := 296) (by decide +kernel)) (by decide +kernel), wd_tab_in (List.mem_of_getElem? (i := 4) (by decide +kernel)) (by decide +kernel), by decide +kernel⟩, wd_tab_in (List.mem_of_getElem? (i := 297) (by decide +kernel)) (by decide +kernel), wd_tab_in (List.mem_of_getElem? (i := 298) (by decide +kernel)) (by decide +kernel)⟩
theorem ml_X5_73 : wd_MV RX5 73 yX4_add 2 := ⟨⟨wd_tab_in (List.mem_of_getElem? (i := 307) (by decide +kernel)) (by decide +kernel), wd_tab_in (List.mem_of_getElem? (i := 3) (by decide +kernel)) (by decide +kernel), by decide +kernel⟩, wd_tab_in (List.mem_of_getElem? (i := 308) (by decide +kernel)) (by decide +kernel), wd_tab_in (List.mem_of_getElem? (i := 309) (by decide +kernel)) (by decide +kernel)⟩
theorem mc_X5_readTask : Cond.code yX5_readTask cX5_readTask 6 (some .boolean) ∈ wd_tab := wd_tab_in (List.mem_of_getElem? (i := 295) (by decide +kernel)) (by decide +kernel)
theorem bp_59 : (Int8.ofInt (59)).toInt32 = (59 : Int32) := by decide
theorem mc_X5_readItemEnd : Cond.code yX5_readItemEnd cX5_readItemEnd 1 (some .boolean) ∈ wd_tab := wd_tab_in (List.mem_of_getElem? (i := 314) (by decide +kernel)) (by decide +kernel)
theorem ml_X5_19 : wd_MV RX5 19 yX4_forget 0 := ⟨⟨wd_tab_in (List.mem_of_getElem? (i := 266) (by decide +kernel)) (by decide +kernel), wd_tab_in (List.mem_of_getElem? (i := 3) (by decide +kernel)) (by decide +kernel), by decide +kernel⟩, wd_tab_in (List.mem_of_getElem? (i := 267) (by decide +kernel)) (by decide +kernel), wd_tab_in (List.mem_of_getElem? (i := 268) (by decide +kernel)) (by decide +kernel)⟩
theorem bp_99 : (Int8.ofInt (99)).toInt32 = (99 : Int32) := by decide
theorem ml_X5_40 : wd_MV RX5 40 yX5_readTask 2 := ⟨⟨wd_tab_in (List.mem_of_getElem? (i := 292) (by decide +kernel)) (by decide +kernel), wd_tab_in (List.mem_of_getElem? (i := 2) (by decide +kernel)) (by decide +kernel), by decide +kernel⟩, wd_tab_in (List.mem_of_getElem? (i := 294) (by decide +kernel)) (by decide +kernel), wd_tab_sel (i := 4) (q := (yX5_readTask, _)) rfl⟩
theorem bp_m10 : (Int8.ofInt (-10)).toInt32 = (-10 : Int32) := by decide
theorem ml_X5_44 : wd_MV RX5 44 yX5_readItemEnd 0 := ⟨⟨wd_tab_in (List.mem_of_getElem? (i := 311) (by decide +kernel)) (by decide +kernel), wd_tab_in (List.mem_of_getElem? (i := 2) (by decide +kernel)) (by decide +kernel), by decide +kernel⟩, wd_tab_in (List.mem_of_getElem? (i := 313) (by decide +kernel)) (by decide +kernel), wd_tab_sel (i := 5) (q := (yX5_readItemEnd, _)) rfl⟩
theorem ml_X5_36 : wd_MV RX5 36 yX5_readRoom 1 := ⟨⟨wd_tab_in (List.mem_of_getElem? (i := 284) (by decide +kernel)) (by decide +kernel), wd_tab_in (List.mem_of_getElem? (i := 2) (by decide +kernel)) (by decide +kernel), by decide +kernel⟩, wd_tab_in (List.mem_of_getElem? (i := 286) (by decide +kernel)) (by decide +kernel), wd_tab_sel (i := 2) (q := (yX5_readRoom, _)) rfl⟩
theorem mc_X5_read : Cond.code yX5_read cX5_read 5 (some .int) ∈ wd_tab := wd_tab_in (List.mem_of_getElem? (i := 265) (by decide +kernel)) (by decide +kernel)
theorem fl_X4_9 : wd_FL RX4 9 4 0 := ⟨RX4, TX4, 4, wcls_X4, by decide, wd_tab_in (List.mem_of_getElem? (i := 53) (by decide +kernel)) (by decide +kernel)⟩
theorem g_X4_9_T {h : Nat} (w : wd_isT h) : wd_GI RX4 9 h 0 := ⟨_, _, fl_X4_9, (wd_shT w).1, rfl⟩
theorem mc_X4_take : Cond.code yX4_take cX4_take 3 none ∈ wd_tab := wd_tab_in (List.mem_of_getElem? (i := 318) (by decide +kernel)) (by decide +kernel)
theorem mc_X6_take : Cond.code yX6_take cX6_take 3 none ∈ wd_tab := wd_tab_in (List.mem_of_getElem? (i := 322) (by decide +kernel)) (by decide +kernel)
theorem fl_X7_23 : wd_FL RX7 23 7 2 := ⟨RX7, TX7, 11, wcls_X7, by decide, wd_tab_in (List.mem_of_getElem? (i := 214) (by decide +kernel)) (by decide +kernel)⟩
theorem g_X7_23_0 : wd_GR RX7 23 0 2 6 := ⟨_, _, fl_X7_23, sh_0, rfl⟩
theorem fl_X7_33 : wd_FL RX7 33 7 4 := ⟨RX7, TX7, 11, wcls_X7, by decide, wd_tab_in (List.mem_of_getElem? (i := 216) (by decide +kernel)) (by decide +kernel)⟩
theorem g_X7_33_0 : wd_GR RX7 33 0 4 52 := ⟨_, _, fl_X7_33, sh_0, rfl⟩
theorem ml_X7_84 : wd_MV RX7 84 yX5_read 2 := ⟨⟨wd_tab_in (List.mem_of_getElem? (i := 262) (by decide +kernel)) (by decide +kernel), wd_tab_in (List.mem_of_getElem? (i := 2) (by decide +kernel)) (by decide +kernel), by decide +kernel⟩, wd_tab_in (List.mem_of_getElem? (i := 263) (by decide +kernel)) (by decide +kernel), wd_tab_in (List.mem_of_getElem? (i := 264) (by decide +kernel)) (by decide +kernel)⟩
theorem fl_X7_19 : wd_FL RX7 19 7 1 := ⟨RX7, TX7, 11, wcls_X7, by decide, wd_tab_in (List.mem_of_getElem? (i := 213) (by decide +kernel)) (by decide +kernel)⟩
theorem g_X7_19_0 : wd_GR RX7 19 0 1 3 := ⟨_, _, fl_X7_19, sh_0, rfl⟩
theorem ml_X7_88 : wd_MV RX7 88 yX4_take 1 := ⟨⟨wd_tab_in (List.mem_of_getElem? (i := 315) (by decide +kernel)) (by decide +kernel), wd_tab_in (List.mem_of_getElem? (i := 3) (by decide +kernel)) (by decide +kernel), by decide +kernel⟩, wd_tab_in (List.mem_of_getElem? (i := 316) (by decide +kernel)) (by decide +kernel), wd_tab_in (List.mem_of_getElem? (i := 317) (by decide +kernel)) (by decide +kernel)⟩
theorem rc_3 : wd_RC 3 RX4 := ⟨_, _, sh_3, rfl⟩
theorem fl_X7_29 : wd_FL RX7 29 7 3 := ⟨RX7, TX7, 11, wcls_X7, by decide, wd_tab_in (List.mem_of_getElem? (i := 215) (by decide +kernel)) (by decide +kernel)⟩
theorem g_X7_29_0 : wd_GR RX7 29 0 3 48 := ⟨_, _, fl_X7_29, sh_0, rfl⟩
theorem ml_X7_91 : wd_MV RX7 91 yX6_take 1 := ⟨⟨wd_tab_in (List.mem_of_getElem? (i := 319) (by decide +kernel)) (by decide +kernel), wd_tab_in (List.mem_of_getElem? (i := 4) (by decide +kernel)) (by decide +kernel), by decide +kernel⟩, wd_tab_in (List.mem_of_getElem? (i := 320) (by decide +kernel)) (by decide +kernel), wd_tab_in (List.mem_of_getElem? (i := 321) (by decide +kernel)) (by decide +kernel)⟩
theorem fl_X7_47 : wd_FL RX7 47 7 7 := ⟨RX7, TX7, 11, wcls_X7, by decide, wd_tab_in (List.mem_of_getElem? (i := 219) (by decide +kernel)) (by decide +kernel)⟩
theorem g_X7_47_0 : wd_GR RX7 47 0 7 27 := ⟨_, _, fl_X7_47, sh_0, rfl⟩
theorem fp_X7_94 : wd_FP RX7 94 0 2 := ⟨RX0, TX0, 3, wcls_X0, by decide, wd_tab_in (List.mem_of_getElem? (i := 114) (by decide +kernel)) (by decide +kernel), rfl, by decide +kernel⟩
theorem p_X7_94_27 : wd_PI RX7 94 27 2 := ⟨_, _, fp_X7_94, sh_27, rfl⟩
theorem ic_2 : Int32.ofInt (2) = (2 : Int32) := by decide
theorem fl_X7_40 : wd_FL RX7 40 7 6 := ⟨RX7, TX7, 11, wcls_X7, by decide, wd_tab_in (List.mem_of_getElem? (i := 218) (by decide +kernel)) (by decide +kernel)⟩
theorem g_X7_40_0 : wd_GR RX7 40 0 6 30 := ⟨_, _, fl_X7_40, sh_0, rfl⟩
theorem mc_X7_desk : Cond.code yX7_desk cX7_desk 3 (some .int) ∈ wd_tab := wd_tab_in (List.mem_of_getElem? (i := 261) (by decide +kernel)) (by decide +kernel)
theorem mc_X4_has : Cond.code yX4_has cX4_has 2 (some .boolean) ∈ wd_tab := wd_tab_in (List.mem_of_getElem? (i := 330) (by decide +kernel)) (by decide +kernel)
theorem mc_X6_edge : Cond.code yX6_edge cX6_edge 3 (some .int) ∈ wd_tab := wd_tab_in (List.mem_of_getElem? (i := 334) (by decide +kernel)) (by decide +kernel)
theorem fl_X2_27 : wd_FL RX2 27 2 0 := ⟨RX2, TX2, 7, wcls_X2, by decide, wd_tab_in (List.mem_of_getElem? (i := 190) (by decide +kernel)) (by decide +kernel)⟩
theorem g_X2_27_21 : wd_GR RX2 27 21 0 3 := ⟨_, _, fl_X2_27, sh_21, rfl⟩
theorem fl_X2_31 : wd_FL RX2 31 4 1 := ⟨RX4, TX4, 4, wcls_X4, by decide, wd_tab_in (List.mem_of_getElem? (i := 60) (by decide +kernel)) (by decide +kernel)⟩
theorem g_X2_31_3 : wd_GI RX2 31 3 1 := ⟨_, _, fl_X2_31, sh_3, rfl⟩
theorem fl_X2_9 : wd_FL RX2 9 2 1 := ⟨RX2, TX2, 7, wcls_X2, by decide, wd_tab_in (List.mem_of_getElem? (i := 191) (by decide +kernel)) (by decide +kernel)⟩
theorem g_X2_9_21 : wd_GR RX2 9 21 1 22 := ⟨_, _, fl_X2_9, sh_21, rfl⟩
theorem ml_X2_37 : wd_MV RX2 37 yX6_edge 2 := ⟨⟨wd_tab_in (List.mem_of_getElem? (i := 339) (by decide +kernel)) (by decide +kernel), wd_tab_in (List.mem_of_getElem? (i := 4) (by decide +kernel)) (by decide +kernel), by decide +kernel⟩, wd_tab_in (List.mem_of_getElem? (i := 332) (by decide +kernel)) (by decide +kernel), wd_tab_in (List.mem_of_getElem? (i := 333) (by decide +kernel)) (by decide +kernel)⟩
theorem fl_X2_15 : wd_FL RX2 15 2 2 := ⟨RX2, TX2, 7, wcls_X2, by decide, wd_tab_in (List.mem_of_getElem? (i := 192) (by decide +kernel)) (by decide +kernel)⟩
theorem g_X2_15_21 : wd_GR RX2 15 21 2 23 := ⟨_, _, fl_X2_15, sh_21, rfl⟩
theorem fl_X2_18 : wd_FL RX2 18 2 3 := ⟨RX2, TX2, 7, wcls_X2, by decide, wd_tab_in (List.mem_of_getElem? (i := 193) (by decide +kernel)) (by decide +kernel)⟩
theorem g_X2_18_21 : wd_GR RX2 18 21 3 24 := ⟨_, _, fl_X2_18, sh_21, rfl⟩
theorem fl_X2_43 : wd_FL RX2 43 4 3 := ⟨RX4, TX4, 4, wcls_X4, by decide, wd_tab_in (List.mem_of_getElem? (i := 73) (by decide +kernel)) (by decide +kernel)⟩
theorem g_X2_43_3 : wd_GR RX2 43 3 3 5 := ⟨_, _, fl_X2_43, sh_3, rfl⟩
theorem mc_X2_open : Cond.code yX2_open cX2_open 3 none ∈ wd_tab := wd_tab_in (List.mem_of_getElem? (i := 343) (by decide +kernel)) (by decide +kernel)
theorem fl_X2_44 : wd_FL RX2 44 4 2 := ⟨RX4, TX4, 4, wcls_X4, by decide, wd_tab_in (List.mem_of_getElem? (i := 68) (by decide +kernel)) (by decide +kernel)⟩
theorem g_X2_44_3 : wd_GR RX2 44 3 2 4 := ⟨_, _, fl_X2_44, sh_3, rfl⟩
theorem mc_X2_pin : Cond.code yX2_pin cX2_pin 3 none ∈ wd_tab := wd_tab_in (List.mem_of_getElem? (i := 347) (by decide +kernel)) (by decide +kernel)
theorem fl_X2_24 : wd_FL RX2 24 2 5 := ⟨RX2, TX2, 7, wcls_X2, by decide, wd_tab_in (List.mem_of_getElem? (i := 195) (by decide +kernel)) (by decide +kernel)⟩
theorem g_X2_24_21 : wd_GR RX2 24 21 5 26 := ⟨_, _, fl_X2_24, sh_21, rfl⟩
theorem fl_X2_106 : wd_FL RX2 106 4 0 := ⟨RX4, TX4, 4, wcls_X4, by decide, wd_tab_in (List.mem_of_getElem? (i := 57) (by decide +kernel)) (by decide +kernel)⟩
theorem g_X2_106_3 : wd_GI RX2 106 3 0 := ⟨_, _, fl_X2_106, sh_3, rfl⟩
theorem mc_X2_hasRoom : Cond.code yX2_hasRoom cX2_hasRoom 3 (some .boolean) ∈ wd_tab := wd_tab_in (List.mem_of_getElem? (i := 367) (by decide +kernel)) (by decide +kernel)
theorem mm_X2_69 : wd_MM RX2 69 Lib.Math.max.name Lib.Math.max.code := ⟨wd_tab_in (List.mem_of_getElem? (i := 360) (by decide +kernel)) (by decide +kernel), wd_tab_in (List.mem_of_getElem? (i := 361) (by decide +kernel)) (by decide +kernel), wd_tab_in (List.mem_of_getElem? (i := 10) (by decide +kernel)) (by decide +kernel), wd_tab_in (List.mem_of_getElem? (i := 362) (by decide +kernel)) (by decide +kernel)⟩
theorem mm_X2_74 : wd_MM RX2 74 Lib.Math.min.name Lib.Math.min.code := ⟨wd_tab_in (List.mem_of_getElem? (i := 363) (by decide +kernel)) (by decide +kernel), wd_tab_in (List.mem_of_getElem? (i := 282) (by decide +kernel)) (by decide +kernel), wd_tab_in (List.mem_of_getElem? (i := 10) (by decide +kernel)) (by decide +kernel), wd_tab_in (List.mem_of_getElem? (i := 283) (by decide +kernel)) (by decide +kernel)⟩
theorem ml_X2_77 : wd_MV RX2 77 yX2_hasRoom 2 := ⟨⟨wd_tab_in (List.mem_of_getElem? (i := 364) (by decide +kernel)) (by decide +kernel), wd_tab_in (List.mem_of_getElem? (i := 8) (by decide +kernel)) (by decide +kernel), by decide +kernel⟩, wd_tab_in (List.mem_of_getElem? (i := 366) (by decide +kernel)) (by decide +kernel), wd_tab_sel (i := 11) (q := (yX2_hasRoom, _)) rfl⟩
theorem rc_21 : wd_RC 21 RX2 := ⟨_, _, sh_21, rfl⟩
theorem mc_X2_earliestFit : Cond.code yX2_earliestFit cX2_earliestFit 4 (some .int) ∈ wd_tab := wd_tab_in (List.mem_of_getElem? (i := 359) (by decide +kernel)) (by decide +kernel)
theorem mc_X2_fill : Cond.code yX2_fill cX2_fill 5 none ∈ wd_tab := wd_tab_in (List.mem_of_getElem? (i := 371) (by decide +kernel)) (by decide +kernel)
theorem ml_X2_112 : wd_MV RX2 112 yX2_earliestFit 1 := ⟨⟨wd_tab_in (List.mem_of_getElem? (i := 356) (by decide +kernel)) (by decide +kernel), wd_tab_in (List.mem_of_getElem? (i := 8) (by decide +kernel)) (by decide +kernel), by decide +kernel⟩, wd_tab_in (List.mem_of_getElem? (i := 358) (by decide +kernel)) (by decide +kernel), wd_tab_sel (i := 10) (q := (yX2_earliestFit, _)) rfl⟩
theorem ml_X2_85 : wd_MV RX2 85 yX2_fill 3 := ⟨⟨wd_tab_in (List.mem_of_getElem? (i := 368) (by decide +kernel)) (by decide +kernel), wd_tab_in (List.mem_of_getElem? (i := 8) (by decide +kernel)) (by decide +kernel), by decide +kernel⟩, wd_tab_in (List.mem_of_getElem? (i := 370) (by decide +kernel)) (by decide +kernel), wd_tab_sel (i := 12) (q := (yX2_fill, _)) rfl⟩
theorem ml_X2_109 : wd_MV RX2 109 yX2_isAnyBeside 2 := ⟨⟨wd_tab_in (List.mem_of_getElem? (i := 352) (by decide +kernel)) (by decide +kernel), wd_tab_in (List.mem_of_getElem? (i := 8) (by decide +kernel)) (by decide +kernel), by decide +kernel⟩, wd_tab_in (List.mem_of_getElem? (i := 354) (by decide +kernel)) (by decide +kernel), wd_tab_sel (i := 9) (q := (yX2_isAnyBeside, _)) rfl⟩
theorem mc_X2_isAnyBeside : Cond.code yX2_isAnyBeside cX2_isAnyBeside 6 (some .boolean) ∈ wd_tab := wd_tab_in (List.mem_of_getElem? (i := 355) (by decide +kernel)) (by decide +kernel)
theorem mc_X2_isAny : Cond.code yX2_isAny cX2_isAny 1 (some .boolean) ∈ wd_tab := wd_tab_in (List.mem_of_getElem? (i := 351) (by decide +kernel)) (by decide +kernel)
theorem ml_X2_47 : wd_MV RX2 47 yX2_open 1 := ⟨⟨wd_tab_in (List.mem_of_getElem? (i := 340) (by decide +kernel)) (by decide +kernel), wd_tab_in (List.mem_of_getElem? (i := 8) (by decide +kernel)) (by decide +kernel), by decide +kernel⟩, wd_tab_in (List.mem_of_getElem? (i := 342) (by decide +kernel)) (by decide +kernel), wd_tab_sel (i := 6) (q := (yX2_open, _)) rfl⟩
theorem ml_X2_88 : wd_MV RX2 88 yX2_pin 2 := ⟨⟨wd_tab_in (List.mem_of_getElem? (i := 344) (by decide +kernel)) (by decide +kernel), wd_tab_in (List.mem_of_getElem? (i := 8) (by decide +kernel)) (by decide +kernel), by decide +kernel⟩, wd_tab_in (List.mem_of_getElem? (i := 346) (by decide +kernel)) (by decide +kernel), wd_tab_sel (i := 7) (q := (yX2_pin, _)) rfl⟩
theorem ml_X2_54 : wd_MV RX2 54 yX2_isAny 0 := ⟨⟨wd_tab_in (List.mem_of_getElem? (i := 348) (by decide +kernel)) (by decide +kernel), wd_tab_in (List.mem_of_getElem? (i := 8) (by decide +kernel)) (by decide +kernel), by decide +kernel⟩, wd_tab_in (List.mem_of_getElem? (i := 350) (by decide +kernel)) (by decide +kernel), wd_tab_sel (i := 8) (q := (yX2_isAny, _)) rfl⟩
theorem mc_X2_belong : Cond.code yX2_belong cX2_belong 6 (some .int) ∈ wd_tab := wd_tab_in (List.mem_of_getElem? (i := 338) (by decide +kernel)) (by decide +kernel)
theorem mc_X2_pinFirst : Cond.code yX2_pinFirst cX2_pinFirst 4 none ∈ wd_tab := wd_tab_in (List.mem_of_getElem? (i := 379) (by decide +kernel)) (by decide +kernel)
theorem ml_X2_92 : wd_MV RX2 92 yX2_pinFirst 1 := ⟨⟨wd_tab_in (List.mem_of_getElem? (i := 376) (by decide +kernel)) (by decide +kernel), wd_tab_in (List.mem_of_getElem? (i := 8) (by decide +kernel)) (by decide +kernel), by decide +kernel⟩, wd_tab_in (List.mem_of_getElem? (i := 378) (by decide +kernel)) (by decide +kernel), wd_tab_sel (i := 13) (q := (yX2_pinFirst, _)) rfl⟩
theorem mc_X2_firstOf : Cond.code yX2_firstOf cX2_firstOf 4 (some .int) ∈ wd_tab := wd_tab_in (List.mem_of_getElem? (i := 375) (by decide +kernel)) (by decide +kernel)
theorem ml_X7_97 : wd_MV RX7 97 yX4_has 1 := ⟨⟨wd_tab_in (List.mem_of_getElem? (i := 327) (by decide +kernel)) (by decide +kernel), wd_tab_in (List.mem_of_getElem? (i := 3) (by decide +kernel)) (by decide +kernel), by decide +kernel⟩, wd_tab_in (List.mem_of_getElem? (i := 328) (by decide +kernel)) (by decide +kernel), wd_tab_in (List.mem_of_getElem? (i := 329) (by decide +kernel)) (by decide +kernel)⟩
theorem ml_X7_100 : wd_MV RX7 100 yX6_edge 2 := ⟨⟨wd_tab_in (List.mem_of_getElem? (i := 331) (by decide +kernel)) (by decide +kernel), wd_tab_in (List.mem_of_getElem? (i := 4) (by decide +kernel)) (by decide +kernel), by decide +kernel⟩, wd_tab_in (List.mem_of_getElem? (i := 332) (by decide +kernel)) (by decide +kernel), wd_tab_in (List.mem_of_getElem? (i := 333) (by decide +kernel)) (by decide +kernel)⟩
theorem fl_X7_104 : wd_FL RX7 104 4 2 := ⟨RX4, TX4, 4, wcls_X4, by decide, wd_tab_in (List.mem_of_getElem? (i := 69) (by decide +kernel)) (by decide +kernel)⟩
theorem g_X7_104_3 : wd_GR RX7 104 3 2 4 := ⟨_, _, fl_X7_104, sh_3, rfl⟩
theorem fl_X7_108 : wd_FL RX7 108 4 3 := ⟨RX4, TX4, 4, wcls_X4, by decide, wd_tab_in (List.mem_of_getElem? (i := 75) (by decide +kernel)) (by decide +kernel)⟩
theorem g_X7_108_3 : wd_GR RX7 108 3 3 5 := ⟨_, _, fl_X7_108, sh_3, rfl⟩
theorem fl_X7_72 : wd_FL RX7 72 7 10 := ⟨RX7, TX7, 11, wcls_X7, by decide, wd_tab_in (List.mem_of_getElem? (i := 222) (by decide +kernel)) (by decide +kernel)⟩
theorem g_X7_72_0 : wd_GR RX7 72 0 10 21 := ⟨_, _, fl_X7_72, sh_0, rfl⟩
theorem ml_X7_111 : wd_MV RX7 111 yX2_belong 2 := ⟨⟨wd_tab_in (List.mem_of_getElem? (i := 335) (by decide +kernel)) (by decide +kernel), wd_tab_in (List.mem_of_getElem? (i := 8) (by decide +kernel)) (by decide +kernel), by decide +kernel⟩, wd_tab_in (List.mem_of_getElem? (i := 336) (by decide +kernel)) (by decide +kernel), wd_tab_in (List.mem_of_getElem? (i := 337) (by decide +kernel)) (by decide +kernel)⟩
theorem ml_X7_115 : wd_MV RX7 115 yX2_firstOf 2 := ⟨⟨wd_tab_in (List.mem_of_getElem? (i := 372) (by decide +kernel)) (by decide +kernel), wd_tab_in (List.mem_of_getElem? (i := 8) (by decide +kernel)) (by decide +kernel), by decide +kernel⟩, wd_tab_in (List.mem_of_getElem? (i := 373) (by decide +kernel)) (by decide +kernel), wd_tab_in (List.mem_of_getElem? (i := 374) (by decide +kernel)) (by decide +kernel)⟩
theorem mc_X7_task : Cond.code yX7_task cX7_task 3 (some .int) ∈ wd_tab := wd_tab_in (List.mem_of_getElem? (i := 326) (by decide +kernel)) (by decide +kernel)
theorem mc_X7_isZeroOrOne : Cond.code yX7_isZeroOrOne cX7_isZeroOrOne 1 (some .boolean) ∈ wd_tab := wd_tab_in (List.mem_of_getElem? (i := 386) (by decide +kernel)) (by decide +kernel)
theorem mc_X6_ruleOf : Cond.code yX6_ruleOf cX6_ruleOf 3 (some .int) ∈ wd_tab := wd_tab_in (List.mem_of_getElem? (i := 390) (by decide +kernel)) (by decide +kernel)
theorem mc_X6_causeOf : Cond.code yX6_causeOf cX6_causeOf 3 (some .int) ∈ wd_tab := wd_tab_in (List.mem_of_getElem? (i := 394) (by decide +kernel)) (by decide +kernel)
theorem ml_X7_118 : wd_MS RX7 118 yX7_isZeroOrOne 1 := ⟨⟨wd_tab_in (List.mem_of_getElem? (i := 384) (by decide +kernel)) (by decide +kernel), wd_tab_in (List.mem_of_getElem? (i := 1) (by decide +kernel)) (by decide +kernel), by decide +kernel⟩, wd_tab_in (List.mem_of_getElem? (i := 385) (by decide +kernel)) (by decide +kernel)⟩
theorem ml_X7_124 : wd_MV RX7 124 yX6_causeOf 2 := ⟨⟨wd_tab_in (List.mem_of_getElem? (i := 391) (by decide +kernel)) (by decide +kernel), wd_tab_in (List.mem_of_getElem? (i := 4) (by decide +kernel)) (by decide +kernel), by decide +kernel⟩, wd_tab_in (List.mem_of_getElem? (i := 392) (by decide +kernel)) (by decide +kernel), wd_tab_in (List.mem_of_getElem? (i := 393) (by decide +kernel)) (by decide +kernel)⟩
theorem ml_X7_121 : wd_MV RX7 121 yX6_ruleOf 2 := ⟨⟨wd_tab_in (List.mem_of_getElem? (i := 387) (by decide +kernel)) (by decide +kernel), wd_tab_in (List.mem_of_getElem? (i := 4) (by decide +kernel)) (by decide +kernel), by decide +kernel⟩, wd_tab_in (List.mem_of_getElem? (i := 388) (by decide +kernel)) (by decide +kernel), wd_tab_in (List.mem_of_getElem? (i := 389) (by decide +kernel)) (by decide +kernel)⟩
theorem mc_X7_why : Cond.code yX7_why cX7_why 4 (some .int) ∈ wd_tab := wd_tab_in (List.mem_of_getElem? (i := 383) (by decide +kernel)) (by decide +kernel)
theorem mc_X4_energy : Cond.code yX4_energy cX4_energy 2 (some .int) ∈ wd_tab := wd_tab_in (List.mem_of_getElem? (i := 413) (by decide +kernel)) (by decide +kernel)
theorem fl_X3_24 : wd_FL RX3 24 3 5 := ⟨RX3, TX3, 9, wcls_X3, by decide, wd_tab_in (List.mem_of_getElem? (i := 138) (by decide +kernel)) (by decide +kernel)⟩
theorem g_X3_24_9 : wd_GR RX3 24 9 5 14 := ⟨_, _, fl_X3_24, sh_9, rfl⟩
theorem fl_X3_9 : wd_FL RX3 9 3 1 := ⟨RX3, TX3, 9, wcls_X3, by decide, wd_tab_in (List.mem_of_getElem? (i := 130) (by decide +kernel)) (by decide +kernel)⟩
theorem g_X3_9_9 : wd_GR RX3 9 9 1 10 := ⟨_, _, fl_X3_9, sh_9, rfl⟩
theorem mm_X3_59 : wd_MM RX3 59 Lib.Math.min.name Lib.Math.min.code := ⟨wd_tab_in (List.mem_of_getElem? (i := 408) (by decide +kernel)) (by decide +kernel), wd_tab_in (List.mem_of_getElem? (i := 282) (by decide +kernel)) (by decide +kernel), wd_tab_in (List.mem_of_getElem? (i := 10) (by decide +kernel)) (by decide +kernel), wd_tab_in (List.mem_of_getElem? (i := 283) (by decide +kernel)) (by decide +kernel)⟩
theorem fl_X3_27 : wd_FL RX3 27 3 6 := ⟨RX3, TX3, 9, wcls_X3, by decide, wd_tab_in (List.mem_of_getElem? (i := 140) (by decide +kernel)) (by decide +kernel)⟩
theorem g_X3_27_9 : wd_GR RX3 27 9 6 15 := ⟨_, _, fl_X3_27, sh_9, rfl⟩
theorem fl_X3_15 : wd_FL RX3 15 3 2 := ⟨RX3, TX3, 9, wcls_X3, by decide, wd_tab_in (List.mem_of_getElem? (i := 132) (by decide +kernel)) (by decide +kernel)⟩
theorem g_X3_15_9 : wd_GR RX3 15 9 2 11 := ⟨_, _, fl_X3_15, sh_9, rfl⟩
theorem mm_X3_64 : wd_MM RX3 64 Lib.Math.max.name Lib.Math.max.code := ⟨wd_tab_in (List.mem_of_getElem? (i := 409) (by decide +kernel)) (by decide +kernel), wd_tab_in (List.mem_of_getElem? (i := 361) (by decide +kernel)) (by decide +kernel), wd_tab_in (List.mem_of_getElem? (i := 10) (by decide +kernel)) (by decide +kernel), wd_tab_in (List.mem_of_getElem? (i := 362) (by decide +kernel)) (by decide +kernel)⟩
theorem fl_X3_30 : wd_FL RX3 30 3 7 := ⟨RX3, TX3, 9, wcls_X3, by decide, wd_tab_in (List.mem_of_getElem? (i := 142) (by decide +kernel)) (by decide +kernel)⟩
theorem g_X3_30_9 : wd_GR RX3 30 9 7 16 := ⟨_, _, fl_X3_30, sh_9, rfl⟩
theorem fl_X3_18 : wd_FL RX3 18 3 3 := ⟨RX3, TX3, 9, wcls_X3, by decide, wd_tab_in (List.mem_of_getElem? (i := 134) (by decide +kernel)) (by decide +kernel)⟩
theorem g_X3_18_9 : wd_GR RX3 18 9 3 12 := ⟨_, _, fl_X3_18, sh_9, rfl⟩
theorem fl_X3_33 : wd_FL RX3 33 3 8 := ⟨RX3, TX3, 9, wcls_X3, by decide, wd_tab_in (List.mem_of_getElem? (i := 144) (by decide +kernel)) (by decide +kernel)⟩
theorem g_X3_33_9 : wd_GR RX3 33 9 8 17 := ⟨_, _, fl_X3_33, sh_9, rfl⟩
theorem fl_X3_36 : wd_FL RX3 36 3 0 := ⟨RX3, TX3, 9, wcls_X3, by decide, wd_tab_in (List.mem_of_getElem? (i := 129) (by decide +kernel)) (by decide +kernel)⟩
theorem g_X3_36_9 : wd_GR RX3 36 9 0 3 := ⟨_, _, fl_X3_36, sh_9, rfl⟩
theorem ml_X3_67 : wd_MV RX3 67 yX4_energy 1 := ⟨⟨wd_tab_in (List.mem_of_getElem? (i := 410) (by decide +kernel)) (by decide +kernel), wd_tab_in (List.mem_of_getElem? (i := 3) (by decide +kernel)) (by decide +kernel), by decide +kernel⟩, wd_tab_in (List.mem_of_getElem? (i := 411) (by decide +kernel)) (by decide +kernel), wd_tab_in (List.mem_of_getElem? (i := 412) (by decide +kernel)) (by decide +kernel)⟩
theorem mc_X3_sumUp : Cond.code yX3_sumUp cX3_sumUp 4 none ∈ wd_tab := wd_tab_in (List.mem_of_getElem? (i := 407) (by decide +kernel)) (by decide +kernel)
theorem fl_X3_40 : wd_FL RX3 40 4 1 := ⟨RX4, TX4, 4, wcls_X4, by decide, wd_tab_in (List.mem_of_getElem? (i := 61) (by decide +kernel)) (by decide +kernel)⟩
theorem g_X3_40_3 : wd_GI RX3 40 3 1 := ⟨_, _, fl_X3_40, sh_3, rfl⟩
theorem ml_X3_46 : wd_MV RX3 46 yX6_edge 2 := ⟨⟨wd_tab_in (List.mem_of_getElem? (i := 403) (by decide +kernel)) (by decide +kernel), wd_tab_in (List.mem_of_getElem? (i := 4) (by decide +kernel)) (by decide +kernel), by decide +kernel⟩, wd_tab_in (List.mem_of_getElem? (i := 332) (by decide +kernel)) (by decide +kernel), wd_tab_in (List.mem_of_getElem? (i := 333) (by decide +kernel)) (by decide +kernel)⟩
theorem fl_X3_52 : wd_FL RX3 52 4 2 := ⟨RX4, TX4, 4, wcls_X4, by decide, wd_tab_in (List.mem_of_getElem? (i := 67) (by decide +kernel)) (by decide +kernel)⟩
theorem g_X3_52_3 : wd_GR RX3 52 3 2 4 := ⟨_, _, fl_X3_52, sh_3, rfl⟩
theorem fl_X3_21 : wd_FL RX3 21 3 4 := ⟨RX3, TX3, 9, wcls_X3, by decide, wd_tab_in (List.mem_of_getElem? (i := 136) (by decide +kernel)) (by decide +kernel)⟩
theorem g_X3_21_9 : wd_GR RX3 21 9 4 13 := ⟨_, _, fl_X3_21, sh_9, rfl⟩
theorem ml_X3_55 : wd_MV RX3 55 yX3_sumUp 2 := ⟨⟨wd_tab_in (List.mem_of_getElem? (i := 404) (by decide +kernel)) (by decide +kernel), wd_tab_in (List.mem_of_getElem? (i := 6) (by decide +kernel)) (by decide +kernel), by decide +kernel⟩, wd_tab_in (List.mem_of_getElem? (i := 406) (by decide +kernel)) (by decide +kernel), wd_tab_sel (i := 14) (q := (yX3_sumUp, _)) rfl⟩
theorem rc_9 : wd_RC 9 RX3 := ⟨_, _, sh_9, rfl⟩
theorem mc_X3_look : Cond.code yX3_look cX3_look 5 none ∈ wd_tab := wd_tab_in (List.mem_of_getElem? (i := 402) (by decide +kernel)) (by decide +kernel)
theorem fl_X3_71 : wd_FL RX3 71 4 3 := ⟨RX4, TX4, 4, wcls_X4, by decide, wd_tab_in (List.mem_of_getElem? (i := 74) (by decide +kernel)) (by decide +kernel)⟩
theorem g_X3_71_3 : wd_GR RX3 71 3 3 5 := ⟨_, _, fl_X3_71, sh_3, rfl⟩
theorem mc_X3_surely : Cond.code yX3_surely cX3_surely 5 (some .int) ∈ wd_tab := wd_tab_in (List.mem_of_getElem? (i := 417) (by decide +kernel)) (by decide +kernel)
theorem fl_X7_56 : wd_FL RX7 56 7 8 := ⟨RX7, TX7, 11, wcls_X7, by decide, wd_tab_in (List.mem_of_getElem? (i := 220) (by decide +kernel)) (by decide +kernel)⟩
theorem g_X7_56_0 : wd_GR RX7 56 0 8 9 := ⟨_, _, fl_X7_56, sh_0, rfl⟩
theorem ml_X7_127 : wd_MV RX7 127 yX3_look 2 := ⟨⟨wd_tab_in (List.mem_of_getElem? (i := 399) (by decide +kernel)) (by decide +kernel), wd_tab_in (List.mem_of_getElem? (i := 6) (by decide +kernel)) (by decide +kernel), by decide +kernel⟩, wd_tab_in (List.mem_of_getElem? (i := 400) (by decide +kernel)) (by decide +kernel), wd_tab_in (List.mem_of_getElem? (i := 401) (by decide +kernel)) (by decide +kernel)⟩
theorem ml_X7_131 : wd_MV RX7 131 yX3_surely 2 := ⟨⟨wd_tab_in (List.mem_of_getElem? (i := 414) (by decide +kernel)) (by decide +kernel), wd_tab_in (List.mem_of_getElem? (i := 6) (by decide +kernel)) (by decide +kernel), by decide +kernel⟩, wd_tab_in (List.mem_of_getElem? (i := 415) (by decide +kernel)) (by decide +kernel), wd_tab_in (List.mem_of_getElem? (i := 416) (by decide +kernel)) (by decide +kernel)⟩
theorem mc_X7_must : Cond.code yX7_must cX7_must 2 (some .int) ∈ wd_tab := wd_tab_in (List.mem_of_getElem? (i := 398) (by decide +kernel)) (by decide +kernel)
theorem fl_X6_29 : wd_FL RX6 29 4 1 := ⟨RX4, TX4, 4, wcls_X4, by decide, wd_tab_in (List.mem_of_getElem? (i := 65) (by decide +kernel)) (by decide +kernel)⟩
theorem g_X6_29_T {h : Nat} (w : wd_isT h) : wd_GI RX6 29 h 1 := ⟨_, _, fl_X6_29, (wd_shT w).1, rfl⟩
theorem ml_X6_35 : wd_MV RX6 35 yX6_edge 2 := ⟨⟨wd_tab_in (List.mem_of_getElem? (i := 426) (by decide +kernel)) (by decide +kernel), wd_tab_in (List.mem_of_getElem? (i := 4) (by decide +kernel)) (by decide +kernel), by decide +kernel⟩, wd_tab_in (List.mem_of_getElem? (i := 332) (by decide +kernel)) (by decide +kernel), wd_tab_in (List.mem_of_getElem? (i := 333) (by decide +kernel)) (by decide +kernel)⟩
theorem fl_X6_38 : wd_FL RX6 38 4 2 := ⟨RX4, TX4, 4, wcls_X4, by decide, wd_tab_in (List.mem_of_getElem? (i := 71) (by decide +kernel)) (by decide +kernel)⟩
theorem g_X6_38_T {h : Nat} (w : wd_isT h) : wd_GR RX6 38 h 2 (h + 1) := ⟨_, _, fl_X6_38, (wd_shT w).1, rfl⟩
theorem mc_X6_isBroken : Cond.code yX6_isBroken cX6_isBroken 3 (some .boolean) ∈ wd_tab := wd_tab_in (List.mem_of_getElem? (i := 425) (by decide +kernel)) (by decide +kernel)
theorem fl_X0_18 : wd_FL RX0 18 0 1 := ⟨RX0, TX0, 3, wcls_X0, by decide, wd_tab_in (List.mem_of_getElem? (i := 112) (by decide +kernel)) (by decide +kernel)⟩
theorem g_X0_18_27 : wd_GI RX0 18 27 1 := ⟨_, _, fl_X0_18, sh_27, rfl⟩
theorem fp_X0_18 : wd_FP RX0 18 0 1 := ⟨RX0, TX0, 3, wcls_X0, by decide, wd_tab_in (List.mem_of_getElem? (i := 112) (by decide +kernel)) (by decide +kernel), rfl, by decide +kernel⟩
theorem p_X0_18_27 : wd_PI RX0 18 27 1 := ⟨_, _, fp_X0_18, sh_27, rfl⟩
theorem fl_X0_11 : wd_FL RX0 11 0 0 := ⟨RX0, TX0, 3, wcls_X0, by decide, wd_tab_in (List.mem_of_getElem? (i := 111) (by decide +kernel)) (by decide +kernel)⟩
theorem g_X0_11_27 : wd_GR RX0 11 27 0 28 := ⟨_, _, fl_X0_11, sh_27, rfl⟩
theorem ml_X0_22 : wd_MV RX0 22 yX6_take 1 := ⟨⟨wd_tab_in (List.mem_of_getElem? (i := 431) (by decide +kernel)) (by decide +kernel), wd_tab_in (List.mem_of_getElem? (i := 4) (by decide +kernel)) (by decide +kernel), by decide +kernel⟩, wd_tab_in (List.mem_of_getElem? (i := 320) (by decide +kernel)) (by decide +kernel), wd_tab_in (List.mem_of_getElem? (i := 321) (by decide +kernel)) (by decide +kernel)⟩
theorem fl_X0_26 : wd_FL RX0 26 0 2 := ⟨RX0, TX0, 3, wcls_X0, by decide, wd_tab_in (List.mem_of_getElem? (i := 113) (by decide +kernel)) (by decide +kernel)⟩
theorem g_X0_26_27 : wd_GI RX0 26 27 2 := ⟨_, _, fl_X0_26, sh_27, rfl⟩
theorem mm_X0_29 : wd_MM RX0 29 Lib.Math.min.name Lib.Math.min.code := ⟨wd_tab_in (List.mem_of_getElem? (i := 432) (by decide +kernel)) (by decide +kernel), wd_tab_in (List.mem_of_getElem? (i := 282) (by decide +kernel)) (by decide +kernel), wd_tab_in (List.mem_of_getElem? (i := 10) (by decide +kernel)) (by decide +kernel), wd_tab_in (List.mem_of_getElem? (i := 283) (by decide +kernel)) (by decide +kernel)⟩
theorem fp_X0_26 : wd_FP RX0 26 0 2 := ⟨RX0, TX0, 3, wcls_X0, by decide, wd_tab_in (List.mem_of_getElem? (i := 113) (by decide +kernel)) (by decide +kernel), rfl, by decide +kernel⟩
theorem p_X0_26_27 : wd_PI RX0 26 27 2 := ⟨_, _, fp_X0_26, sh_27, rfl⟩
theorem mc_X0_add : Cond.code yX0_add cX0_add 2 none ∈ wd_tab := wd_tab_in (List.mem_of_getElem? (i := 430) (by decide +kernel)) (by decide +kernel)
theorem fl_X1_9 : wd_FL RX1 9 1 2 := ⟨RX1, TX1, 4, wcls_X1, by decide, wd_tab_in (List.mem_of_getElem? (i := 173) (by decide +kernel)) (by decide +kernel)⟩
theorem g_X1_9_18 : wd_GR RX1 9 18 2 19 := ⟨_, _, fl_X1_9, sh_18, rfl⟩
theorem fl_X1_15 : wd_FL RX1 15 1 3 := ⟨RX1, TX1, 4, wcls_X1, by decide, wd_tab_in (List.mem_of_getElem? (i := 174) (by decide +kernel)) (by decide +kernel)⟩
theorem g_X1_15_18 : wd_GR RX1 15 18 3 20 := ⟨_, _, fl_X1_15, sh_18, rfl⟩
theorem mc_X1_tell : Cond.code yX1_tell cX1_tell 4 none ∈ wd_tab := wd_tab_in (List.mem_of_getElem? (i := 455) (by decide +kernel)) (by decide +kernel)
theorem fl_X1_22 : wd_FL RX1 22 1 1 := ⟨RX1, TX1, 4, wcls_X1, by decide, wd_tab_in (List.mem_of_getElem? (i := 172) (by decide +kernel)) (by decide +kernel)⟩
theorem g_X1_22_18 : wd_GR RX1 22 18 1 9 := ⟨_, _, fl_X1_22, sh_18, rfl⟩
theorem fl_X1_52 : wd_FL RX1 52 3 1 := ⟨RX3, TX3, 9, wcls_X3, by decide, wd_tab_in (List.mem_of_getElem? (i := 131) (by decide +kernel)) (by decide +kernel)⟩
theorem g_X1_52_9 : wd_GR RX1 52 9 1 10 := ⟨_, _, fl_X1_52, sh_9, rfl⟩
theorem fl_X1_81 : wd_FL RX1 81 3 2 := ⟨RX3, TX3, 9, wcls_X3, by decide, wd_tab_in (List.mem_of_getElem? (i := 133) (by decide +kernel)) (by decide +kernel)⟩
theorem g_X1_81_9 : wd_GR RX1 81 9 2 11 := ⟨_, _, fl_X1_81, sh_9, rfl⟩
theorem ml_X1_84 : wd_MV RX1 84 yX3_surely 2 := ⟨⟨wd_tab_in (List.mem_of_getElem? (i := 451) (by decide +kernel)) (by decide +kernel), wd_tab_in (List.mem_of_getElem? (i := 6) (by decide +kernel)) (by decide +kernel), by decide +kernel⟩, wd_tab_in (List.mem_of_getElem? (i := 415) (by decide +kernel)) (by decide +kernel), wd_tab_in (List.mem_of_getElem? (i := 416) (by decide +kernel)) (by decide +kernel)⟩
theorem fl_X1_18 : wd_FL RX1 18 1 0 := ⟨RX1, TX1, 4, wcls_X1, by decide, wd_tab_in (List.mem_of_getElem? (i := 171) (by decide +kernel)) (by decide +kernel)⟩
theorem g_X1_18_18 : wd_GR RX1 18 18 0 3 := ⟨_, _, fl_X1_18, sh_18, rfl⟩
theorem fl_X1_87 : wd_FL RX1 87 4 3 := ⟨RX4, TX4, 4, wcls_X4, by decide, wd_tab_in (List.mem_of_getElem? (i := 76) (by decide +kernel)) (by decide +kernel)⟩
theorem g_X1_87_3 : wd_GR RX1 87 3 3 5 := ⟨_, _, fl_X1_87, sh_3, rfl⟩
theorem fl_X1_90 : wd_FL RX1 90 4 0 := ⟨RX4, TX4, 4, wcls_X4, by decide, wd_tab_in (List.mem_of_getElem? (i := 55) (by decide +kernel)) (by decide +kernel)⟩
theorem g_X1_90_3 : wd_GI RX1 90 3 0 := ⟨_, _, fl_X1_90, sh_3, rfl⟩
theorem fl_X1_93 : wd_FL RX1 93 4 2 := ⟨RX4, TX4, 4, wcls_X4, by decide, wd_tab_in (List.mem_of_getElem? (i := 70) (by decide +kernel)) (by decide +kernel)⟩
theorem g_X1_93_3 : wd_GR RX1 93 3 2 4 := ⟨_, _, fl_X1_93, sh_3, rfl⟩
theorem ml_X1_96 : wd_MV RX1 96 yX1_tell 3 := ⟨⟨wd_tab_in (List.mem_of_getElem? (i := 452) (by decide +kernel)) (by decide +kernel), wd_tab_in (List.mem_of_getElem? (i := 7) (by decide +kernel)) (by decide +kernel), by decide +kernel⟩, wd_tab_in (List.mem_of_getElem? (i := 454) (by decide +kernel)) (by decide +kernel), wd_tab_sel (i := 17) (q := (yX1_tell, _)) rfl⟩
theorem rc_18 : wd_RC 18 RX1 := ⟨_, _, sh_18, rfl⟩
theorem fl_X1_68 : wd_FL RX1 68 3 4 := ⟨RX3, TX3, 9, wcls_X3, by decide, wd_tab_in (List.mem_of_getElem? (i := 137) (by decide +kernel)) (by decide +kernel)⟩
theorem g_X1_68_9 : wd_GR RX1 68 9 4 13 := ⟨_, _, fl_X1_68, sh_9, rfl⟩
theorem mc_X1_byMust : Cond.code yX1_byMust cX1_byMust 5 none ∈ wd_tab := wd_tab_in (List.mem_of_getElem? (i := 450) (by decide +kernel)) (by decide +kernel)
theorem fl_X1_107 : wd_FL RX1 107 3 5 := ⟨RX3, TX3, 9, wcls_X3, by decide, wd_tab_in (List.mem_of_getElem? (i := 139) (by decide +kernel)) (by decide +kernel)⟩
theorem g_X1_107_9 : wd_GR RX1 107 9 5 14 := ⟨_, _, fl_X1_107, sh_9, rfl⟩
theorem mm_X1_71 : wd_MM RX1 71 Lib.Math.min.name Lib.Math.min.code := ⟨wd_tab_in (List.mem_of_getElem? (i := 464) (by decide +kernel)) (by decide +kernel), wd_tab_in (List.mem_of_getElem? (i := 282) (by decide +kernel)) (by decide +kernel), wd_tab_in (List.mem_of_getElem? (i := 10) (by decide +kernel)) (by decide +kernel), wd_tab_in (List.mem_of_getElem? (i := 283) (by decide +kernel)) (by decide +kernel)⟩
theorem fl_X1_110 : wd_FL RX1 110 3 8 := ⟨RX3, TX3, 9, wcls_X3, by decide, wd_tab_in (List.mem_of_getElem? (i := 145) (by decide +kernel)) (by decide +kernel)⟩
theorem g_X1_110_9 : wd_GR RX1 110 9 8 17 := ⟨_, _, fl_X1_110, sh_9, rfl⟩
theorem fl_X1_113 : wd_FL RX1 113 3 6 := ⟨RX3, TX3, 9, wcls_X3, by decide, wd_tab_in (List.mem_of_getElem? (i := 141) (by decide +kernel)) (by decide +kernel)⟩
theorem g_X1_113_9 : wd_GR RX1 113 9 6 15 := ⟨_, _, fl_X1_113, sh_9, rfl⟩
theorem mc_X1_endsBehind : Cond.code yX1_endsBehind cX1_endsBehind 4 (some .boolean) ∈ wd_tab := wd_tab_in (List.mem_of_getElem? (i := 463) (by decide +kernel)) (by decide +kernel)
theorem mc_X1_tellRest : Cond.code yX1_tellRest cX1_tellRest 7 none ∈ wd_tab := wd_tab_in (List.mem_of_getElem? (i := 468) (by decide +kernel)) (by decide +kernel)
theorem fl_X1_46 : wd_FL RX1 46 4 1 := ⟨RX4, TX4, 4, wcls_X4, by decide, wd_tab_in (List.mem_of_getElem? (i := 62) (by decide +kernel)) (by decide +kernel)⟩
theorem g_X1_46_3 : wd_GI RX1 46 3 1 := ⟨_, _, fl_X1_46, sh_3, rfl⟩
theorem ml_X1_100 : wd_MV RX1 100 yX1_endsBehind 2 := ⟨⟨wd_tab_in (List.mem_of_getElem? (i := 460) (by decide +kernel)) (by decide +kernel), wd_tab_in (List.mem_of_getElem? (i := 7) (by decide +kernel)) (by decide +kernel), by decide +kernel⟩, wd_tab_in (List.mem_of_getElem? (i := 462) (by decide +kernel)) (by decide +kernel), wd_tab_sel (i := 19) (q := (yX1_endsBehind, _)) rfl⟩
theorem ml_X1_104 : wd_MV RX1 104 yX1_tellRest 3 := ⟨⟨wd_tab_in (List.mem_of_getElem? (i := 465) (by decide +kernel)) (by decide +kernel), wd_tab_in (List.mem_of_getElem? (i := 7) (by decide +kernel)) (by decide +kernel), by decide +kernel⟩, wd_tab_in (List.mem_of_getElem? (i := 467) (by decide +kernel)) (by decide +kernel), wd_tab_sel (i := 20) (q := (yX1_tellRest, _)) rfl⟩
theorem mc_X1_byEdge : Cond.code yX1_byEdge cX1_byEdge 4 none ∈ wd_tab := wd_tab_in (List.mem_of_getElem? (i := 459) (by decide +kernel)) (by decide +kernel)
theorem fl_X1_119 : wd_FL RX1 119 3 7 := ⟨RX3, TX3, 9, wcls_X3, by decide, wd_tab_in (List.mem_of_getElem? (i := 143) (by decide +kernel)) (by decide +kernel)⟩
theorem g_X1_119_9 : wd_GR RX1 119 9 7 16 := ⟨_, _, fl_X1_119, sh_9, rfl⟩
theorem fl_X1_122 : wd_FL RX1 122 3 3 := ⟨RX3, TX3, 9, wcls_X3, by decide, wd_tab_in (List.mem_of_getElem? (i := 135) (by decide +kernel)) (by decide +kernel)⟩
theorem g_X1_122_9 : wd_GR RX1 122 9 3 12 := ⟨_, _, fl_X1_122, sh_9, rfl⟩
theorem mc_X1_canNotBeFirst : Cond.code yX1_canNotBeFirst cX1_canNotBeFirst 5 (some .boolean) ∈ wd_tab := wd_tab_in (List.mem_of_getElem? (i := 476) (by decide +kernel)) (by decide +kernel)
theorem ml_X1_116 : wd_MV RX1 116 yX1_canNotBeFirst 2 := ⟨⟨wd_tab_in (List.mem_of_getElem? (i := 473) (by decide +kernel)) (by decide +kernel), wd_tab_in (List.mem_of_getElem? (i := 7) (by decide +kernel)) (by decide +kernel), by decide +kernel⟩, wd_tab_in (List.mem_of_getElem? (i := 475) (by decide +kernel)) (by decide +kernel), wd_tab_sel (i := 22) (q := (yX1_canNotBeFirst, _)) rfl⟩
theorem mc_X1_byFirst : Cond.code yX1_byFirst cX1_byFirst 3 none ∈ wd_tab := wd_tab_in (List.mem_of_getElem? (i := 472) (by decide +kernel)) (by decide +kernel)
theorem mc_X3_least : Cond.code yX3_least cX3_least 5 (some .int) ∈ wd_tab := wd_tab_in (List.mem_of_getElem? (i := 488) (by decide +kernel)) (by decide +kernel)
theorem fl_X3_74 : wd_FL RX3 74 4 0 := ⟨RX4, TX4, 4, wcls_X4, by decide, wd_tab_in (List.mem_of_getElem? (i := 56) (by decide +kernel)) (by decide +kernel)⟩
theorem g_X3_74_3 : wd_GI RX3 74 3 0 := ⟨_, _, fl_X3_74, sh_3, rfl⟩
theorem ml_X3_77 : wd_MV RX3 77 yX3_least 3 := ⟨⟨wd_tab_in (List.mem_of_getElem? (i := 485) (by decide +kernel)) (by decide +kernel), wd_tab_in (List.mem_of_getElem? (i := 6) (by decide +kernel)) (by decide +kernel), by decide +kernel⟩, wd_tab_in (List.mem_of_getElem? (i := 487) (by decide +kernel)) (by decide +kernel), wd_tab_sel (i := 24) (q := (yX3_least, _)) rfl⟩
theorem mc_X3_free : Cond.code yX3_free cX3_free 6 (some .int) ∈ wd_tab := wd_tab_in (List.mem_of_getElem? (i := 484) (by decide +kernel)) (by decide +kernel)
theorem mc_X3_mostLeft : Cond.code yX3_mostLeft cX3_mostLeft 5 (some .int) ∈ wd_tab := wd_tab_in (List.mem_of_getElem? (i := 492) (by decide +kernel)) (by decide +kernel)
theorem ml_X1_125 : wd_MV RX1 125 yX3_free 3 := ⟨⟨wd_tab_in (List.mem_of_getElem? (i := 481) (by decide +kernel)) (by decide +kernel), wd_tab_in (List.mem_of_getElem? (i := 6) (by decide +kernel)) (by decide +kernel), by decide +kernel⟩, wd_tab_in (List.mem_of_getElem? (i := 482) (by decide +kernel)) (by decide +kernel), wd_tab_in (List.mem_of_getElem? (i := 483) (by decide +kernel)) (by decide +kernel)⟩
theorem ml_X1_129 : wd_MV RX1 129 yX3_mostLeft 3 := ⟨⟨wd_tab_in (List.mem_of_getElem? (i := 489) (by decide +kernel)) (by decide +kernel), wd_tab_in (List.mem_of_getElem? (i := 6) (by decide +kernel)) (by decide +kernel), by decide +kernel⟩, wd_tab_in (List.mem_of_getElem? (i := 490) (by decide +kernel)) (by decide +kernel), wd_tab_in (List.mem_of_getElem? (i := 491) (by decide +kernel)) (by decide +kernel)⟩
theorem mc_X1_bySpan : Cond.code yX1_bySpan cX1_bySpan 6 none ∈ wd_tab := wd_tab_in (List.mem_of_getElem? (i := 480) (by decide +kernel)) (by decide +kernel)
theorem ml_X1_40 : wd_MV RX1 40 yX3_look 2 := ⟨⟨wd_tab_in (List.mem_of_getElem? (i := 446) (by decide +kernel)) (by decide +kernel), wd_tab_in (List.mem_of_getElem? (i := 6) (by decide +kernel)) (by decide +kernel), by decide +kernel⟩, wd_tab_in (List.mem_of_getElem? (i := 400) (by decide +kernel)) (by decide +kernel), wd_tab_in (List.mem_of_getElem? (i := 401) (by decide +kernel)) (by decide +kernel)⟩
theorem ml_X1_55 : wd_MV RX1 55 yX1_byMust 1 := ⟨⟨wd_tab_in (List.mem_of_getElem? (i := 447) (by decide +kernel)) (by decide +kernel), wd_tab_in (List.mem_of_getElem? (i := 7) (by decide +kernel)) (by decide +kernel), by decide +kernel⟩, wd_tab_in (List.mem_of_getElem? (i := 449) (by decide +kernel)) (by decide +kernel), wd_tab_sel (i := 16) (q := (yX1_byMust, _)) rfl⟩
theorem ml_X1_77 : wd_MV RX1 77 yX6_move 5 := ⟨⟨wd_tab_in (List.mem_of_getElem? (i := 493) (by decide +kernel)) (by decide +kernel), wd_tab_in (List.mem_of_getElem? (i := 4) (by decide +kernel)) (by decide +kernel), by decide +kernel⟩, wd_tab_in (List.mem_of_getElem? (i := 301) (by decide +kernel)) (by decide +kernel), wd_tab_in (List.mem_of_getElem? (i := 302) (by decide +kernel)) (by decide +kernel)⟩
theorem ml_X1_59 : wd_MV RX1 59 yX1_byEdge 1 := ⟨⟨wd_tab_in (List.mem_of_getElem? (i := 456) (by decide +kernel)) (by decide +kernel), wd_tab_in (List.mem_of_getElem? (i := 7) (by decide +kernel)) (by decide +kernel), by decide +kernel⟩, wd_tab_in (List.mem_of_getElem? (i := 458) (by decide +kernel)) (by decide +kernel), wd_tab_sel (i := 18) (q := (yX1_byEdge, _)) rfl⟩
theorem ml_X1_62 : wd_MV RX1 62 yX1_byFirst 1 := ⟨⟨wd_tab_in (List.mem_of_getElem? (i := 469) (by decide +kernel)) (by decide +kernel), wd_tab_in (List.mem_of_getElem? (i := 7) (by decide +kernel)) (by decide +kernel), by decide +kernel⟩, wd_tab_in (List.mem_of_getElem? (i := 471) (by decide +kernel)) (by decide +kernel), wd_tab_sel (i := 21) (q := (yX1_byFirst, _)) rfl⟩
theorem ml_X1_65 : wd_MV RX1 65 yX1_bySpan 1 := ⟨⟨wd_tab_in (List.mem_of_getElem? (i := 477) (by decide +kernel)) (by decide +kernel), wd_tab_in (List.mem_of_getElem? (i := 7) (by decide +kernel)) (by decide +kernel), by decide +kernel⟩, wd_tab_in (List.mem_of_getElem? (i := 479) (by decide +kernel)) (by decide +kernel), wd_tab_sel (i := 23) (q := (yX1_bySpan, _)) rfl⟩
theorem mc_X1_tightenSide : Cond.code yX1_tightenSide cX1_tightenSide 7 (some .boolean) ∈ wd_tab := wd_tab_in (List.mem_of_getElem? (i := 445) (by decide +kernel)) (by decide +kernel)
theorem ml_X1_36 : wd_MV RX1 36 yX1_tightenSide 3 := ⟨⟨wd_tab_in (List.mem_of_getElem? (i := 442) (by decide +kernel)) (by decide +kernel), wd_tab_in (List.mem_of_getElem? (i := 7) (by decide +kernel)) (by decide +kernel), by decide +kernel⟩, wd_tab_in (List.mem_of_getElem? (i := 444) (by decide +kernel)) (by decide +kernel), wd_tab_sel (i := 15) (q := (yX1_tightenSide, _)) rfl⟩
theorem ml_X1_26 : wd_MV RX1 26 yX6_isBroken 1 := ⟨⟨wd_tab_in (List.mem_of_getElem? (i := 437) (by decide +kernel)) (by decide +kernel), wd_tab_in (List.mem_of_getElem? (i := 4) (by decide +kernel)) (by decide +kernel), by decide +kernel⟩, wd_tab_in (List.mem_of_getElem? (i := 423) (by decide +kernel)) (by decide +kernel), wd_tab_in (List.mem_of_getElem? (i := 424) (by decide +kernel)) (by decide +kernel)⟩
theorem mc_X1_tighten : Cond.code yX1_tighten cX1_tighten 5 (some .boolean) ∈ wd_tab := wd_tab_in (List.mem_of_getElem? (i := 441) (by decide +kernel)) (by decide +kernel)
theorem sp_10000 : (Int16.ofInt (10000)).toInt32 = (10000 : Int32) := by decide
theorem ic_4 : Int32.ofInt (4) = (4 : Int32) := by decide
theorem ml_X1_32 : wd_MV RX1 32 yX1_tighten 2 := ⟨⟨wd_tab_in (List.mem_of_getElem? (i := 438) (by decide +kernel)) (by decide +kernel), wd_tab_in (List.mem_of_getElem? (i := 7) (by decide +kernel)) (by decide +kernel), by decide +kernel⟩, wd_tab_in (List.mem_of_getElem? (i := 439) (by decide +kernel)) (by decide +kernel), wd_tab_in (List.mem_of_getElem? (i := 440) (by decide +kernel)) (by decide +kernel)⟩
theorem mc_X1_tightenByAll : Cond.code yX1_tightenByAll cX1_tightenByAll 4 none ∈ wd_tab := wd_tab_in (List.mem_of_getElem? (i := 436) (by decide +kernel)) (by decide +kernel)
theorem mc_X0_latest : Cond.code yX0_latest cX0_latest 1 (some (.object "WindowDesk$Windows")) ∈ wd_tab := wd_tab_in (List.mem_of_getElem? (i := 498) (by decide +kernel)) (by decide +kernel)
theorem mc_X6_others : Cond.code yX6_others cX6_others 5 (some .int) ∈ wd_tab := wd_tab_in (List.mem_of_getElem? (i := 502) (by decide +kernel)) (by decide +kernel)
theorem ml_X7_134 : wd_MV RX7 134 yX6_isBroken 1 := ⟨⟨wd_tab_in (List.mem_of_getElem? (i := 422) (by decide +kernel)) (by decide +kernel), wd_tab_in (List.mem_of_getElem? (i := 4) (by decide +kernel)) (by decide +kernel), by decide +kernel⟩, wd_tab_in (List.mem_of_getElem? (i := 423) (by decide +kernel)) (by decide +kernel), wd_tab_in (List.mem_of_getElem? (i := 424) (by decide +kernel)) (by decide +kernel)⟩
theorem ml_X7_138 : wd_MV RX7 138 yX0_add 1 := ⟨⟨wd_tab_in (List.mem_of_getElem? (i := 427) (by decide +kernel)) (by decide +kernel), wd_tab_in (List.mem_of_getElem? (i := 5) (by decide +kernel)) (by decide +kernel), by decide +kernel⟩, wd_tab_in (List.mem_of_getElem? (i := 428) (by decide +kernel)) (by decide +kernel), wd_tab_in (List.mem_of_getElem? (i := 429) (by decide +kernel)) (by decide +kernel)⟩
theorem rc_27 : wd_RC 27 RX0 := ⟨_, _, sh_27, rfl⟩
theorem fl_X7_65 : wd_FL RX7 65 7 9 := ⟨RX7, TX7, 11, wcls_X7, by decide, wd_tab_in (List.mem_of_getElem? (i := 221) (by decide +kernel)) (by decide +kernel)⟩
theorem g_X7_65_0 : wd_GR RX7 65 0 9 18 := ⟨_, _, fl_X7_65, sh_0, rfl⟩
theorem ml_X7_143 : wd_MV RX7 143 yX1_tighten 2 := ⟨⟨wd_tab_in (List.mem_of_getElem? (i := 494) (by decide +kernel)) (by decide +kernel), wd_tab_in (List.mem_of_getElem? (i := 7) (by decide +kernel)) (by decide +kernel), by decide +kernel⟩, wd_tab_in (List.mem_of_getElem? (i := 439) (by decide +kernel)) (by decide +kernel), wd_tab_in (List.mem_of_getElem? (i := 440) (by decide +kernel)) (by decide +kernel)⟩
theorem ml_X7_147 : wd_MV RX7 147 yX0_latest 0 := ⟨⟨wd_tab_in (List.mem_of_getElem? (i := 495) (by decide +kernel)) (by decide +kernel), wd_tab_in (List.mem_of_getElem? (i := 5) (by decide +kernel)) (by decide +kernel), by decide +kernel⟩, wd_tab_in (List.mem_of_getElem? (i := 496) (by decide +kernel)) (by decide +kernel), wd_tab_in (List.mem_of_getElem? (i := 497) (by decide +kernel)) (by decide +kernel)⟩
theorem fl_X7_151 : wd_FL RX7 151 4 1 := ⟨RX4, TX4, 4, wcls_X4, by decide, wd_tab_in (List.mem_of_getElem? (i := 64) (by decide +kernel)) (by decide +kernel)⟩
theorem g_X7_151_3 : wd_GI RX7 151 3 1 := ⟨_, _, fl_X7_151, sh_3, rfl⟩
theorem ml_X7_154 : wd_MV RX7 154 yX6_others 2 := ⟨⟨wd_tab_in (List.mem_of_getElem? (i := 499) (by decide +kernel)) (by decide +kernel), wd_tab_in (List.mem_of_getElem? (i := 4) (by decide +kernel)) (by decide +kernel), by decide +kernel⟩, wd_tab_in (List.mem_of_getElem? (i := 500) (by decide +kernel)) (by decide +kernel), wd_tab_in (List.mem_of_getElem? (i := 501) (by decide +kernel)) (by decide +kernel)⟩
theorem ml_X7_140 : wd_MV RX7 140 yX1_tightenByAll 1 := ⟨⟨wd_tab_in (List.mem_of_getElem? (i := 433) (by decide +kernel)) (by decide +kernel), wd_tab_in (List.mem_of_getElem? (i := 7) (by decide +kernel)) (by decide +kernel), by decide +kernel⟩, wd_tab_in (List.mem_of_getElem? (i := 434) (by decide +kernel)) (by decide +kernel), wd_tab_in (List.mem_of_getElem? (i := 435) (by decide +kernel)) (by decide +kernel)⟩
theorem mc_X7_tightens : Cond.code yX7_tightens cX7_tightens 2 (some .int) ∈ wd_tab := wd_tab_in (List.mem_of_getElem? (i := 421) (by decide +kernel)) (by decide +kernel)
theorem mc_X7_mayPut : Cond.code yX7_mayPut cX7_mayPut 6 (some .boolean) ∈ wd_tab := wd_tab_in (List.mem_of_getElem? (i := 510) (by decide +kernel)) (by decide +kernel)
theorem ml_X7_157 : wd_MV RX7 157 yX7_mayPut 3 := ⟨⟨wd_tab_in (List.mem_of_getElem? (i := 507) (by decide +kernel)) (by decide +kernel), wd_tab_in (List.mem_of_getElem? (i := 1) (by decide +kernel)) (by decide +kernel), by decide +kernel⟩, wd_tab_in (List.mem_of_getElem? (i := 509) (by decide +kernel)) (by decide +kernel), wd_tab_sel (i := 25) (q := (yX7_mayPut, _)) rfl⟩
theorem rc_0 : wd_RC 0 RX7 := ⟨_, _, sh_0, rfl⟩
theorem ml_X7_161 : wd_MV RX7 161 yX6_move 5 := ⟨⟨wd_tab_in (List.mem_of_getElem? (i := 511) (by decide +kernel)) (by decide +kernel), wd_tab_in (List.mem_of_getElem? (i := 4) (by decide +kernel)) (by decide +kernel), by decide +kernel⟩, wd_tab_in (List.mem_of_getElem? (i := 301) (by decide +kernel)) (by decide +kernel), wd_tab_in (List.mem_of_getElem? (i := 302) (by decide +kernel)) (by decide +kernel)⟩
theorem mc_X7_puts : Cond.code yX7_puts cX7_puts 5 (some .int) ∈ wd_tab := wd_tab_in (List.mem_of_getElem? (i := 506) (by decide +kernel)) (by decide +kernel)
theorem mc_X0_giveBack : Cond.code yX0_giveBack cX0_giveBack 2 none ∈ wd_tab := wd_tab_in (List.mem_of_getElem? (i := 519) (by decide +kernel)) (by decide +kernel)
theorem fl_X7_94 : wd_FL RX7 94 0 2 := ⟨RX0, TX0, 3, wcls_X0, by decide, wd_tab_in (List.mem_of_getElem? (i := 114) (by decide +kernel)) (by decide +kernel)⟩
theorem g_X7_94_27 : wd_GI RX7 94 27 2 := ⟨_, _, fl_X7_94, sh_27, rfl⟩
theorem ml_X7_165 : wd_MV RX7 165 yX0_giveBack 1 := ⟨⟨wd_tab_in (List.mem_of_getElem? (i := 516) (by decide +kernel)) (by decide +kernel), wd_tab_in (List.mem_of_getElem? (i := 5) (by decide +kernel)) (by decide +kernel), by decide +kernel⟩, wd_tab_in (List.mem_of_getElem? (i := 517) (by decide +kernel)) (by decide +kernel), wd_tab_in (List.mem_of_getElem? (i := 518) (by decide +kernel)) (by decide +kernel)⟩
theorem mc_X7_undo : Cond.code yX7_undo cX7_undo 1 (some .int) ∈ wd_tab := wd_tab_in (List.mem_of_getElem? (i := 515) (by decide +kernel)) (by decide +kernel)
theorem mc_X4_hasSet : Cond.code yX4_hasSet cX4_hasSet 2 (some .boolean) ∈ wd_tab := wd_tab_in (List.mem_of_getElem? (i := 527) (by decide +kernel)) (by decide +kernel)
theorem mc_X3_wrapOf : Cond.code yX3_wrapOf cX3_wrapOf 4 (some .int) ∈ wd_tab := wd_tab_in (List.mem_of_getElem? (i := 531) (by decide +kernel)) (by decide +kernel)
theorem ml_X7_168 : wd_MV RX7 168 yX4_hasSet 1 := ⟨⟨wd_tab_in (List.mem_of_getElem? (i := 524) (by decide +kernel)) (by decide +kernel), wd_tab_in (List.mem_of_getElem? (i := 3) (by decide +kernel)) (by decide +kernel), by decide +kernel⟩, wd_tab_in (List.mem_of_getElem? (i := 525) (by decide +kernel)) (by decide +kernel), wd_tab_in (List.mem_of_getElem? (i := 526) (by decide +kernel)) (by decide +kernel)⟩
theorem ml_X7_171 : wd_MV RX7 171 yX3_wrapOf 1 := ⟨⟨wd_tab_in (List.mem_of_getElem? (i := 528) (by decide +kernel)) (by decide +kernel), wd_tab_in (List.mem_of_getElem? (i := 6) (by decide +kernel)) (by decide +kernel), by decide +kernel⟩, wd_tab_in (List.mem_of_getElem? (i := 529) (by decide +kernel)) (by decide +kernel), wd_tab_in (List.mem_of_getElem? (i := 530) (by decide +kernel)) (by decide +kernel)⟩
theorem mc_X7_wrap : Cond.code yX7_wrap cX7_wrap 2 (some .int) ∈ wd_tab := wd_tab_in (List.mem_of_getElem? (i := 523) (by decide +kernel)) (by decide +kernel)
theorem ml_X3_84 : wd_MV RX3 84 yX3_wrapOf 1 := ⟨⟨wd_tab_in (List.mem_of_getElem? (i := 540) (by decide +kernel)) (by decide +kernel), wd_tab_in (List.mem_of_getElem? (i := 6) (by decide +kernel)) (by decide +kernel), by decide +kernel⟩, wd_tab_in (List.mem_of_getElem? (i := 529) (by decide +kernel)) (by decide +kernel), wd_tab_in (List.mem_of_getElem? (i := 530) (by decide +kernel)) (by decide +kernel)⟩
theorem mc_X3_greyest : Cond.code yX3_greyest cX3_greyest 6 (some .int) ∈ wd_tab := wd_tab_in (List.mem_of_getElem? (i := 539) (by decide +kernel)) (by decide +kernel)
theorem ml_X7_175 : wd_MV RX7 175 yX3_greyest 2 := ⟨⟨wd_tab_in (List.mem_of_getElem? (i := 536) (by decide +kernel)) (by decide +kernel), wd_tab_in (List.mem_of_getElem? (i := 6) (by decide +kernel)) (by decide +kernel), by decide +kernel⟩, wd_tab_in (List.mem_of_getElem? (i := 537) (by decide +kernel)) (by decide +kernel), wd_tab_in (List.mem_of_getElem? (i := 538) (by decide +kernel)) (by decide +kernel)⟩
theorem mc_X7_grey : Cond.code yX7_grey cX7_grey 5 (some .int) ∈ wd_tab := wd_tab_in (List.mem_of_getElem? (i := 535) (by decide +kernel)) (by decide +kernel)
theorem ck_J6_265 : Cond.constant RJ6 265 (1431655765 : Int32) ∈ wd_tab := (wd_tab_in (List.mem_of_getElem? (i := 552) (by decide +kernel)) (by decide +kernel))
theorem ck_J6_266 : Cond.constant RJ6 266 (858993459 : Int32) ∈ wd_tab := (wd_tab_in (List.mem_of_getElem? (i := 553) (by decide +kernel)) (by decide +kernel))
theorem ck_J6_267 : Cond.constant RJ6 267 (252645135 : Int32) ∈ wd_tab := (wd_tab_in (List.mem_of_getElem? (i := 554) (by decide +kernel)) (by decide +kernel))
theorem bp_8 : (Int8.ofInt (8)).toInt32 = (8 : Int32) := by decide
theorem bp_63 : (Int8.ofInt (63)).toInt32 = (63 : Int32) := by decide
theorem mc_J6_bitCount_0f7a4 : Cond.code yJ6_bitCount_0f7a4 cJ6_bitCount_0f7a4 1 (some .int) ∈ wd_tab := wd_tab_in (List.mem_of_getElem? (i := 551) (by decide +kernel)) (by decide +kernel)
theorem mc_X7_power : Cond.code yX7_power cX7_power 4 (some .int) ∈ wd_tab := wd_tab_in (List.mem_of_getElem? (i := 557) (by decide +kernel)) (by decide +kernel)
theorem mc_X2_growNeeds : Cond.code yX2_growNeeds cX2_growNeeds 3 none ∈ wd_tab := wd_tab_in (List.mem_of_getElem? (i := 561) (by decide +kernel)) (by decide +kernel)
theorem ml_X2_95 : wd_MS RX2 95 yJ6_bitCount_0f7a4 1 := ⟨⟨wd_tab_in (List.mem_of_getElem? (i := 549) (by decide +kernel)) (by decide +kernel), wd_tab_in (List.mem_of_getElem? (i := 11) (by decide +kernel)) (by decide +kernel), by decide +kernel⟩, wd_tab_in (List.mem_of_getElem? (i := 550) (by decide +kernel)) (by decide +kernel)⟩
theorem ml_X2_103 : wd_MV RX2 103 yX2_growNeeds 1 := ⟨⟨wd_tab_in (List.mem_of_getElem? (i := 558) (by decide +kernel)) (by decide +kernel), wd_tab_in (List.mem_of_getElem? (i := 8) (by decide +kernel)) (by decide +kernel), by decide +kernel⟩, wd_tab_in (List.mem_of_getElem? (i := 560) (by decide +kernel)) (by decide +kernel), wd_tab_sel (i := 26) (q := (yX2_growNeeds, _)) rfl⟩
theorem mc_X2_luckyOf : Cond.code yX2_luckyOf cX2_luckyOf 7 (some .int) ∈ wd_tab := wd_tab_in (List.mem_of_getElem? (i := 548) (by decide +kernel)) (by decide +kernel)
theorem mm_X7_204 : wd_MM RX7 204 Lib.Math.max.name Lib.Math.max.code := ⟨wd_tab_in (List.mem_of_getElem? (i := 566) (by decide +kernel)) (by decide +kernel), wd_tab_in (List.mem_of_getElem? (i := 361) (by decide +kernel)) (by decide +kernel), wd_tab_in (List.mem_of_getElem? (i := 10) (by decide +kernel)) (by decide +kernel), wd_tab_in (List.mem_of_getElem? (i := 362) (by decide +kernel)) (by decide +kernel)⟩
theorem mm_X7_209 : wd_MM RX7 209 Lib.Math.min.name Lib.Math.min.code := ⟨wd_tab_in (List.mem_of_getElem? (i := 567) (by decide +kernel)) (by decide +kernel), wd_tab_in (List.mem_of_getElem? (i := 282) (by decide +kernel)) (by decide +kernel), wd_tab_in (List.mem_of_getElem? (i := 10) (by decide +kernel)) (by decide +kernel), wd_tab_in (List.mem_of_getElem? (i := 283) (by decide +kernel)) (by decide +kernel)⟩
theorem mc_X7_commonDivisor : Cond.code yX7_commonDivisor cX7_commonDivisor 6 (some .int) ∈ wd_tab := wd_tab_in (List.mem_of_getElem? (i := 565) (by decide +kernel)) (by decide +kernel)
theorem ml_X7_178 : wd_MV RX7 178 yX2_luckyOf 2 := ⟨⟨wd_tab_in (List.mem_of_getElem? (i := 545) (by decide +kernel)) (by decide +kernel), wd_tab_in (List.mem_of_getElem? (i := 8) (by decide +kernel)) (by decide +kernel), by decide +kernel⟩, wd_tab_in (List.mem_of_getElem? (i := 546) (by decide +kernel)) (by decide +kernel), wd_tab_in (List.mem_of_getElem? (i := 547) (by decide +kernel)) (by decide +kernel)⟩
theorem ml_X7_181 : wd_MS RX7 181 yX7_power 2 := ⟨⟨wd_tab_in (List.mem_of_getElem? (i := 562) (by decide +kernel)) (by decide +kernel), wd_tab_in (List.mem_of_getElem? (i := 1) (by decide +kernel)) (by decide +kernel), by decide +kernel⟩, wd_tab_in (List.mem_of_getElem? (i := 556) (by decide +kernel)) (by decide +kernel)⟩
theorem ml_X7_184 : wd_MS RX7 184 yX7_commonDivisor 2 := ⟨⟨wd_tab_in (List.mem_of_getElem? (i := 563) (by decide +kernel)) (by decide +kernel), wd_tab_in (List.mem_of_getElem? (i := 1) (by decide +kernel)) (by decide +kernel), by decide +kernel⟩, wd_tab_in (List.mem_of_getElem? (i := 564) (by decide +kernel)) (by decide +kernel)⟩
theorem mc_X7_odds : Cond.code yX7_odds cX7_odds 6 (some .int) ∈ wd_tab := wd_tab_in (List.mem_of_getElem? (i := 544) (by decide +kernel)) (by decide +kernel)
theorem fl_X7_36 : wd_FL RX7 36 7 5 := ⟨RX7, TX7, 11, wcls_X7, by decide, wd_tab_in (List.mem_of_getElem? (i := 217) (by decide +kernel)) (by decide +kernel)⟩
theorem g_X7_36_0 : wd_GR RX7 36 0 5 29 := ⟨_, _, fl_X7_36, sh_0, rfl⟩
theorem mc_X7_keep : Cond.code yX7_keep cX7_keep 2 (some .int) ∈ wd_tab := wd_tab_in (List.mem_of_getElem? (i := 571) (by decide +kernel)) (by decide +kernel)
theorem mc_X7_back : Cond.code yX7_back cX7_back 2 (some .int) ∈ wd_tab := wd_tab_in (List.mem_of_getElem? (i := 575) (by decide +kernel)) (by decide +kernel)
theorem ml_X2_65 : wd_MV RX2 65 yX4_energy 1 := ⟨⟨wd_tab_in (List.mem_of_getElem? (i := 588) (by decide +kernel)) (by decide +kernel), wd_tab_in (List.mem_of_getElem? (i := 3) (by decide +kernel)) (by decide +kernel), by decide +kernel⟩, wd_tab_in (List.mem_of_getElem? (i := 411) (by decide +kernel)) (by decide +kernel), wd_tab_in (List.mem_of_getElem? (i := 412) (by decide +kernel)) (by decide +kernel)⟩
theorem fl_X2_21 : wd_FL RX2 21 2 4 := ⟨RX2, TX2, 7, wcls_X2, by decide, wd_tab_in (List.mem_of_getElem? (i := 194) (by decide +kernel)) (by decide +kernel)⟩
theorem g_X2_21_21 : wd_GR RX2 21 21 4 25 := ⟨_, _, fl_X2_21, sh_21, rfl⟩
theorem mc_X2_putInOrder : Cond.code yX2_putInOrder cX2_putInOrder 5 none ∈ wd_tab := wd_tab_in (List.mem_of_getElem? (i := 587) (by decide +kernel)) (by decide +kernel)
theorem ml_X2_61 : wd_MV RX2 61 yX2_countFrom 1 := ⟨⟨wd_tab_in (List.mem_of_getElem? (i := 589) (by decide +kernel)) (by decide +kernel), wd_tab_in (List.mem_of_getElem? (i := 8) (by decide +kernel)) (by decide +kernel), by decide +kernel⟩, wd_tab_in (List.mem_of_getElem? (i := 591) (by decide +kernel)) (by decide +kernel), wd_tab_sel (i := 28) (q := (yX2_countFrom, _)) rfl⟩
theorem mc_X2_countWith : Cond.code yX2_countWith cX2_countWith 4 none ∈ wd_tab := wd_tab_in (List.mem_of_getElem? (i := 596) (by decide +kernel)) (by decide +kernel)
theorem fl_X2_51 : wd_FL RX2 51 2 6 := ⟨RX2, TX2, 7, wcls_X2, by decide, wd_tab_in (List.mem_of_getElem? (i := 196) (by decide +kernel)) (by decide +kernel)⟩
theorem g_X2_51_21 : wd_GI RX2 51 21 6 := ⟨_, _, fl_X2_51, sh_21, rfl⟩
theorem sp_9999 : (Int16.ofInt (9999)).toInt32 = (9999 : Int32) := by decide
theorem ml_X2_81 : wd_MV RX2 81 yX2_countWith 3 := ⟨⟨wd_tab_in (List.mem_of_getElem? (i := 593) (by decide +kernel)) (by decide +kernel), wd_tab_in (List.mem_of_getElem? (i := 8) (by decide +kernel)) (by decide +kernel), by decide +kernel⟩, wd_tab_in (List.mem_of_getElem? (i := 595) (by decide +kernel)) (by decide +kernel), wd_tab_sel (i := 29) (q := (yX2_countWith, _)) rfl⟩
theorem fp_X2_51 : wd_FP RX2 51 2 6 := ⟨RX2, TX2, 7, wcls_X2, by decide, wd_tab_in (List.mem_of_getElem? (i := 196) (by decide +kernel)) (by decide +kernel), rfl, by decide +kernel⟩
theorem p_X2_51_21 : wd_PI RX2 51 21 6 := ⟨_, _, fp_X2_51, sh_21, rfl⟩
theorem mc_X2_countFrom : Cond.code yX2_countFrom cX2_countFrom 5 none ∈ wd_tab := wd_tab_in (List.mem_of_getElem? (i := 592) (by decide +kernel)) (by decide +kernel)
theorem ml_X2_58 : wd_MV RX2 58 yX2_putInOrder 0 := ⟨⟨wd_tab_in (List.mem_of_getElem? (i := 584) (by decide +kernel)) (by decide +kernel), wd_tab_in (List.mem_of_getElem? (i := 8) (by decide +kernel)) (by decide +kernel), by decide +kernel⟩, wd_tab_in (List.mem_of_getElem? (i := 586) (by decide +kernel)) (by decide +kernel), wd_tab_sel (i := 27) (q := (yX2_putInOrder, _)) rfl⟩
theorem mc_X2_schedules : Cond.code yX2_schedules cX2_schedules 2 (some .int) ∈ wd_tab := wd_tab_in (List.mem_of_getElem? (i := 583) (by decide +kernel)) (by decide +kernel)
theorem mc_X2_shortest : Cond.code yX2_shortest cX2_shortest 4 (some .int) ∈ wd_tab := wd_tab_in (List.mem_of_getElem? (i := 600) (by decide +kernel)) (by decide +kernel)
theorem ml_X3_81 : wd_MV RX3 81 yX3_free 3 := ⟨⟨wd_tab_in (List.mem_of_getElem? (i := 605) (by decide +kernel)) (by decide +kernel), wd_tab_in (List.mem_of_getElem? (i := 6) (by decide +kernel)) (by decide +kernel), by decide +kernel⟩, wd_tab_in (List.mem_of_getElem? (i := 482) (by decide +kernel)) (by decide +kernel), wd_tab_in (List.mem_of_getElem? (i := 483) (by decide +kernel)) (by decide +kernel)⟩
theorem mc_X3_heaviest : Cond.code yX3_heaviest cX3_heaviest 6 (some .int) ∈ wd_tab := wd_tab_in (List.mem_of_getElem? (i := 604) (by decide +kernel)) (by decide +kernel)
theorem ml_X4_25 : wd_MV RX4 25 yX4_energy 1 := ⟨⟨wd_tab_in (List.mem_of_getElem? (i := 610) (by decide +kernel)) (by decide +kernel), wd_tab_in (List.mem_of_getElem? (i := 3) (by decide +kernel)) (by decide +kernel), by decide +kernel⟩, wd_tab_in (List.mem_of_getElem? (i := 411) (by decide +kernel)) (by decide +kernel), wd_tab_in (List.mem_of_getElem? (i := 412) (by decide +kernel)) (by decide +kernel)⟩
theorem mc_X4_energyOfAll : Cond.code yX4_energyOfAll cX4_energyOfAll 3 (some .int) ∈ wd_tab := wd_tab_in (List.mem_of_getElem? (i := 609) (by decide +kernel)) (by decide +kernel)
theorem fl_X7_187 : wd_FL RX7 187 4 0 := ⟨RX4, TX4, 4, wcls_X4, by decide, wd_tab_in (List.mem_of_getElem? (i := 58) (by decide +kernel)) (by decide +kernel)⟩
theorem g_X7_187_3 : wd_GI RX7 187 3 0 := ⟨_, _, fl_X7_187, sh_3, rfl⟩
theorem ml_X7_190 : wd_MV RX7 190 yX2_schedules 1 := ⟨⟨wd_tab_in (List.mem_of_getElem? (i := 580) (by decide +kernel)) (by decide +kernel), wd_tab_in (List.mem_of_getElem? (i := 8) (by decide +kernel)) (by decide +kernel), by decide +kernel⟩, wd_tab_in (List.mem_of_getElem? (i := 581) (by decide +kernel)) (by decide +kernel), wd_tab_in (List.mem_of_getElem? (i := 582) (by decide +kernel)) (by decide +kernel)⟩
theorem ml_X7_194 : wd_MV RX7 194 yX2_shortest 1 := ⟨⟨wd_tab_in (List.mem_of_getElem? (i := 597) (by decide +kernel)) (by decide +kernel), wd_tab_in (List.mem_of_getElem? (i := 8) (by decide +kernel)) (by decide +kernel), by decide +kernel⟩, wd_tab_in (List.mem_of_getElem? (i := 598) (by decide +kernel)) (by decide +kernel), wd_tab_in (List.mem_of_getElem? (i := 599) (by decide +kernel)) (by decide +kernel)⟩
theorem ml_X7_197 : wd_MV RX7 197 yX3_heaviest 0 := ⟨⟨wd_tab_in (List.mem_of_getElem? (i := 601) (by decide +kernel)) (by decide +kernel), wd_tab_in (List.mem_of_getElem? (i := 6) (by decide +kernel)) (by decide +kernel), by decide +kernel⟩, wd_tab_in (List.mem_of_getElem? (i := 602) (by decide +kernel)) (by decide +kernel), wd_tab_in (List.mem_of_getElem? (i := 603) (by decide +kernel)) (by decide +kernel)⟩
theorem ml_X7_201 : wd_MV RX7 201 yX4_energyOfAll 0 := ⟨⟨wd_tab_in (List.mem_of_getElem? (i := 606) (by decide +kernel)) (by decide +kernel), wd_tab_in (List.mem_of_getElem? (i := 3) (by decide +kernel)) (by decide +kernel), by decide +kernel⟩, wd_tab_in (List.mem_of_getElem? (i := 607) (by decide +kernel)) (by decide +kernel), wd_tab_in (List.mem_of_getElem? (i := 608) (by decide +kernel)) (by decide +kernel)⟩
theorem mc_X7_count : Cond.code yX7_count cX7_count 2 (some .int) ∈ wd_tab := wd_tab_in (List.mem_of_getElem? (i := 579) (by decide +kernel)) (by decide +kernel)
theorem mc_X8_in : Cond.code yX8_in cX8_in 3 (some .boolean) ∈ wd_tab := wd_tab_in (List.mem_of_getElem? (i := 708) (by decide +kernel)) (by decide +kernel)
theorem ml_X8_63 : wd_MS RX8 63 yX8_in 3 := ⟨⟨wd_tab_in (List.mem_of_getElem? (i := 706) (by decide +kernel)) (by decide +kernel), wd_tab_in (List.mem_of_getElem? (i := 9) (by decide +kernel)) (by decide +kernel), by decide +kernel⟩, wd_tab_in (List.mem_of_getElem? (i := 707) (by decide +kernel)) (by decide +kernel)⟩
theorem fl_X8_67 : wd_FL RX8 67 8 10 := ⟨RX8, TX8, 28, wcls_X8, by decide, wd_tab_in (List.mem_of_getElem? (i := 627) (by decide +kernel)) (by decide +kernel)⟩
theorem g_X8_67_31 : wd_GI RX8 67 31 10 := ⟨_, _, fl_X8_67, sh_31, rfl⟩
theorem fl_X8_29 : wd_FL RX8 29 8 11 := ⟨RX8, TX8, 28, wcls_X8, by decide, wd_tab_in (List.mem_of_getElem? (i := 628) (by decide +kernel)) (by decide +kernel)⟩
theorem g_X8_29_31 : wd_GR RX8 29 31 11 38 := ⟨_, _, fl_X8_29, sh_31, rfl⟩
theorem fp_X8_67 : wd_FP RX8 67 8 10 := ⟨RX8, TX8, 28, wcls_X8, by decide, wd_tab_in (List.mem_of_getElem? (i := 627) (by decide +kernel)) (by decide +kernel), rfl, by decide +kernel⟩
theorem p_X8_67_31 : wd_PI RX8 67 31 10 := ⟨_, _, fp_X8_67, sh_31, rfl⟩
theorem mc_X8_type : Cond.code yX8_type cX8_type 2 (some .int) ∈ wd_tab := wd_tab_in (List.mem_of_getElem? (i := 705) (by decide +kernel)) (by decide +kernel)
theorem mc_X8_clear : Cond.code yX8_clear cX8_clear 2 (some .int) ∈ wd_tab := wd_tab_in (List.mem_of_getElem? (i := 712) (by decide +kernel)) (by decide +kernel)
theorem fl_X8_70 : wd_FL RX8 70 8 12 := ⟨RX8, TX8, 28, wcls_X8, by decide, wd_tab_in (List.mem_of_getElem? (i := 629) (by decide +kernel)) (by decide +kernel)⟩
theorem g_X8_70_31 : wd_GI RX8 70 31 12 := ⟨_, _, fl_X8_70, sh_31, rfl⟩
theorem fp_X8_70 : wd_FP RX8 70 8 12 := ⟨RX8, TX8, 28, wcls_X8, by decide, wd_tab_in (List.mem_of_getElem? (i := 629) (by decide +kernel)) (by decide +kernel), rfl, by decide +kernel⟩
theorem p_X8_70_31 : wd_PI RX8 70 31 12 := ⟨_, _, fp_X8_70, sh_31, rfl⟩
theorem mc_X8_blanks : Cond.code yX8_blanks cX8_blanks 1 none ∈ wd_tab := wd_tab_in (List.mem_of_getElem? (i := 720) (by decide +kernel)) (by decide +kernel)
theorem mc_X8_isFigure : Cond.code yX8_isFigure cX8_isFigure 1 (some .boolean) ∈ wd_tab := wd_tab_in (List.mem_of_getElem? (i := 732) (by decide +kernel)) (by decide +kernel)
theorem ml_X8_73 : wd_MV RX8 73 yX8_blanks 0 := ⟨⟨wd_tab_in (List.mem_of_getElem? (i := 717) (by decide +kernel)) (by decide +kernel), wd_tab_in (List.mem_of_getElem? (i := 9) (by decide +kernel)) (by decide +kernel), by decide +kernel⟩, wd_tab_in (List.mem_of_getElem? (i := 719) (by decide +kernel)) (by decide +kernel), wd_tab_sel (i := 30) (q := (yX8_blanks, _)) rfl⟩
theorem rc_31 : wd_RC 31 RX8 := ⟨_, _, sh_31, rfl⟩
theorem fp_X8_76 : wd_FP RX8 76 8 13 := ⟨RX8, TX8, 28, wcls_X8, by decide, wd_tab_in (List.mem_of_getElem? (i := 630) (by decide +kernel)) (by decide +kernel), rfl, by decide +kernel⟩
theorem p_X8_76_31 : wd_PI RX8 76 31 13 := ⟨_, _, fp_X8_76, sh_31, rfl⟩
theorem ml_X8_82 : wd_MV RX8 82 yX8_isFigure 0 := ⟨⟨wd_tab_in (List.mem_of_getElem? (i := 729) (by decide +kernel)) (by decide +kernel), wd_tab_in (List.mem_of_getElem? (i := 9) (by decide +kernel)) (by decide +kernel), by decide +kernel⟩, wd_tab_in (List.mem_of_getElem? (i := 731) (by decide +kernel)) (by decide +kernel), wd_tab_sel (i := 33) (q := (yX8_isFigure, _)) rfl⟩
theorem fp_X8_79 : wd_FP RX8 79 8 14 := ⟨RX8, TX8, 28, wcls_X8, by decide, wd_tab_in (List.mem_of_getElem? (i := 631) (by decide +kernel)) (by decide +kernel), rfl, by decide +kernel⟩
theorem p_X8_79_31 : wd_PI RX8 79 31 14 := ⟨_, _, fp_X8_79, sh_31, rfl⟩
theorem fp_X8_86 : wd_FP RX8 86 8 15 := ⟨RX8, TX8, 28, wcls_X8, by decide, wd_tab_in (List.mem_of_getElem? (i := 632) (by decide +kernel)) (by decide +kernel), rfl, by decide +kernel⟩
theorem p_X8_86_31 : wd_PI RX8 86 31 15 := ⟨_, _, fp_X8_86, sh_31, rfl⟩
theorem fl_X8_86 : wd_FL RX8 86 8 15 := ⟨RX8, TX8, 28, wcls_X8, by decide, wd_tab_in (List.mem_of_getElem? (i := 632) (by decide +kernel)) (by decide +kernel)⟩
theorem g_X8_86_31 : wd_GI RX8 86 31 15 := ⟨_, _, fl_X8_86, sh_31, rfl⟩
theorem fl_X8_76 : wd_FL RX8 76 8 13 := ⟨RX8, TX8, 28, wcls_X8, by decide, wd_tab_in (List.mem_of_getElem? (i := 630) (by decide +kernel)) (by decide +kernel)⟩
theorem g_X8_76_31 : wd_GI RX8 76 31 13 := ⟨_, _, fl_X8_76, sh_31, rfl⟩
theorem mc_X8_next : Cond.code yX8_next cX8_next 2 none ∈ wd_tab := wd_tab_in (List.mem_of_getElem? (i := 728) (by decide +kernel)) (by decide +kernel)
theorem fp_X8_89 : wd_FP RX8 89 8 16 := ⟨RX8, TX8, 28, wcls_X8, by decide, wd_tab_in (List.mem_of_getElem? (i := 633) (by decide +kernel)) (by decide +kernel), rfl, by decide +kernel⟩
theorem p_X8_89_31 : wd_PI RX8 89 31 16 := ⟨_, _, fp_X8_89, sh_31, rfl⟩
theorem mc_X8_fails : Cond.code yX8_fails cX8_fails 1 (some .boolean) ∈ wd_tab := wd_tab_in (List.mem_of_getElem? (i := 740) (by decide +kernel)) (by decide +kernel)
theorem ml_X8_92 : wd_MV RX8 92 yX8_next 0 := ⟨⟨wd_tab_in (List.mem_of_getElem? (i := 725) (by decide +kernel)) (by decide +kernel), wd_tab_in (List.mem_of_getElem? (i := 9) (by decide +kernel)) (by decide +kernel), by decide +kernel⟩, wd_tab_in (List.mem_of_getElem? (i := 727) (by decide +kernel)) (by decide +kernel), wd_tab_sel (i := 32) (q := (yX8_next, _)) rfl⟩
theorem fl_X8_79 : wd_FL RX8 79 8 14 := ⟨RX8, TX8, 28, wcls_X8, by decide, wd_tab_in (List.mem_of_getElem? (i := 631) (by decide +kernel)) (by decide +kernel)⟩
theorem g_X8_79_31 : wd_GI RX8 79 31 14 := ⟨_, _, fl_X8_79, sh_31, rfl⟩
theorem ml_X8_95 : wd_MV RX8 95 yX8_fails 0 := ⟨⟨wd_tab_in (List.mem_of_getElem? (i := 737) (by decide +kernel)) (by decide +kernel), wd_tab_in (List.mem_of_getElem? (i := 9) (by decide +kernel)) (by decide +kernel), by decide +kernel⟩, wd_tab_in (List.mem_of_getElem? (i := 739) (by decide +kernel)) (by decide +kernel), wd_tab_sel (i := 35) (q := (yX8_fails, _)) rfl⟩
theorem mc_X8_number : Cond.code yX8_number cX8_number 3 (some .boolean) ∈ wd_tab := wd_tab_in (List.mem_of_getElem? (i := 744) (by decide +kernel)) (by decide +kernel)
theorem mc_X8_ends : Cond.code yX8_ends cX8_ends 1 (some .boolean) ∈ wd_tab := wd_tab_in (List.mem_of_getElem? (i := 748) (by decide +kernel)) (by decide +kernel)
theorem fl_X8_98 : wd_FL RX8 98 8 17 := ⟨RX8, TX8, 28, wcls_X8, by decide, wd_tab_in (List.mem_of_getElem? (i := 634) (by decide +kernel)) (by decide +kernel)⟩
theorem g_X8_98_31 : wd_GI RX8 98 31 17 := ⟨_, _, fl_X8_98, sh_31, rfl⟩
theorem ml_X8_101 : wd_MV RX8 101 yX8_number 2 := ⟨⟨wd_tab_in (List.mem_of_getElem? (i := 741) (by decide +kernel)) (by decide +kernel), wd_tab_in (List.mem_of_getElem? (i := 9) (by decide +kernel)) (by decide +kernel), by decide +kernel⟩, wd_tab_in (List.mem_of_getElem? (i := 743) (by decide +kernel)) (by decide +kernel), wd_tab_sel (i := 36) (q := (yX8_number, _)) rfl⟩
theorem fl_X8_32 : wd_FL RX8 32 8 19 := ⟨RX8, TX8, 28, wcls_X8, by decide, wd_tab_in (List.mem_of_getElem? (i := 636) (by decide +kernel)) (by decide +kernel)⟩
theorem g_X8_32_31 : wd_GR RX8 32 31 19 39 := ⟨_, _, fl_X8_32, sh_31, rfl⟩
theorem fl_X8_105 : wd_FL RX8 105 8 18 := ⟨RX8, TX8, 28, wcls_X8, by decide, wd_tab_in (List.mem_of_getElem? (i := 635) (by decide +kernel)) (by decide +kernel)⟩
theorem g_X8_105_31 : wd_GI RX8 105 31 18 := ⟨_, _, fl_X8_105, sh_31, rfl⟩
theorem fp_X8_98 : wd_FP RX8 98 8 17 := ⟨RX8, TX8, 28, wcls_X8, by decide, wd_tab_in (List.mem_of_getElem? (i := 634) (by decide +kernel)) (by decide +kernel), rfl, by decide +kernel⟩
theorem p_X8_98_31 : wd_PI RX8 98 31 17 := ⟨_, _, fp_X8_98, sh_31, rfl⟩
theorem ml_X8_108 : wd_MV RX8 108 yX8_ends 0 := ⟨⟨wd_tab_in (List.mem_of_getElem? (i := 745) (by decide +kernel)) (by decide +kernel), wd_tab_in (List.mem_of_getElem? (i := 9) (by decide +kernel)) (by decide +kernel), by decide +kernel⟩, wd_tab_in (List.mem_of_getElem? (i := 747) (by decide +kernel)) (by decide +kernel), wd_tab_sel (i := 37) (q := (yX8_ends, _)) rfl⟩
theorem mc_X8_readsTask : Cond.code yX8_readsTask cX8_readsTask 3 (some .boolean) ∈ wd_tab := wd_tab_in (List.mem_of_getElem? (i := 736) (by decide +kernel)) (by decide +kernel)
theorem fp_X8_105 : wd_FP RX8 105 8 18 := ⟨RX8, TX8, 28, wcls_X8, by decide, wd_tab_in (List.mem_of_getElem? (i := 635) (by decide +kernel)) (by decide +kernel), rfl, by decide +kernel⟩
theorem p_X8_105_31 : wd_PI RX8 105 31 18 := ⟨_, _, fp_X8_105, sh_31, rfl⟩
theorem ml_X8_111 : wd_MV RX8 111 yX8_readsTask 0 := ⟨⟨wd_tab_in (List.mem_of_getElem? (i := 733) (by decide +kernel)) (by decide +kernel), wd_tab_in (List.mem_of_getElem? (i := 9) (by decide +kernel)) (by decide +kernel), by decide +kernel⟩, wd_tab_in (List.mem_of_getElem? (i := 735) (by decide +kernel)) (by decide +kernel), wd_tab_sel (i := 34) (q := (yX8_readsTask, _)) rfl⟩
theorem mc_X8_readsItem : Cond.code yX8_readsItem cX8_readsItem 2 (some .boolean) ∈ wd_tab := wd_tab_in (List.mem_of_getElem? (i := 724) (by decide +kernel)) (by decide +kernel)
theorem ml_X8_114 : wd_MV RX8 114 yX8_readsItem 1 := ⟨⟨wd_tab_in (List.mem_of_getElem? (i := 721) (by decide +kernel)) (by decide +kernel), wd_tab_in (List.mem_of_getElem? (i := 9) (by decide +kernel)) (by decide +kernel), by decide +kernel⟩, wd_tab_in (List.mem_of_getElem? (i := 723) (by decide +kernel)) (by decide +kernel), wd_tab_sel (i := 31) (q := (yX8_readsItem, _)) rfl⟩
theorem fl_X8_89 : wd_FL RX8 89 8 16 := ⟨RX8, TX8, 28, wcls_X8, by decide, wd_tab_in (List.mem_of_getElem? (i := 633) (by decide +kernel)) (by decide +kernel)⟩
theorem g_X8_89_31 : wd_GI RX8 89 31 16 := ⟨_, _, fl_X8_89, sh_31, rfl⟩
theorem fp_X8_118 : wd_FP RX8 118 8 0 := ⟨RX8, TX8, 28, wcls_X8, by decide, wd_tab_in (List.mem_of_getElem? (i := 617) (by decide +kernel)) (by decide +kernel), rfl, by decide +kernel⟩
theorem p_X8_118_31 : wd_PI RX8 118 31 0 := ⟨_, _, fp_X8_118, sh_31, rfl⟩
theorem fp_X8_59 : wd_FP RX8 59 8 1 := ⟨RX8, TX8, 28, wcls_X8, by decide, wd_tab_in (List.mem_of_getElem? (i := 618) (by decide +kernel)) (by decide +kernel), rfl, by decide +kernel⟩
theorem p_X8_59_31 : wd_PI RX8 59 31 1 := ⟨_, _, fp_X8_59, sh_31, rfl⟩
theorem fl_X8_16 : wd_FL RX8 16 8 4 := ⟨RX8, TX8, 28, wcls_X8, by decide, wd_tab_in (List.mem_of_getElem? (i := 621) (by decide +kernel)) (by decide +kernel)⟩
theorem g_X8_16_31 : wd_GR RX8 16 31 4 34 := ⟨_, _, fl_X8_16, sh_31, rfl⟩
theorem fl_X8_118 : wd_FL RX8 118 8 0 := ⟨RX8, TX8, 28, wcls_X8, by decide, wd_tab_in (List.mem_of_getElem? (i := 617) (by decide +kernel)) (by decide +kernel)⟩
theorem g_X8_118_31 : wd_GI RX8 118 31 0 := ⟨_, _, fl_X8_118, sh_31, rfl⟩
theorem fl_X8_7 : wd_FL RX8 7 8 2 := ⟨RX8, TX8, 28, wcls_X8, by decide, wd_tab_in (List.mem_of_getElem? (i := 619) (by decide +kernel)) (by decide +kernel)⟩
theorem g_X8_7_31 : wd_GR RX8 7 31 2 32 := ⟨_, _, fl_X8_7, sh_31, rfl⟩
theorem fl_X8_13 : wd_FL RX8 13 8 3 := ⟨RX8, TX8, 28, wcls_X8, by decide, wd_tab_in (List.mem_of_getElem? (i := 620) (by decide +kernel)) (by decide +kernel)⟩
theorem g_X8_13_31 : wd_GR RX8 13 31 3 33 := ⟨_, _, fl_X8_13, sh_31, rfl⟩
theorem fp_X8_121 : wd_FP RX8 121 8 5 := ⟨RX8, TX8, 28, wcls_X8, by decide, wd_tab_in (List.mem_of_getElem? (i := 622) (by decide +kernel)) (by decide +kernel), rfl, by decide +kernel⟩
theorem p_X8_121_31 : wd_PI RX8 121 31 5 := ⟨_, _, fp_X8_121, sh_31, rfl⟩
theorem fl_X8_22 : wd_FL RX8 22 8 8 := ⟨RX8, TX8, 28, wcls_X8, by decide, wd_tab_in (List.mem_of_getElem? (i := 625) (by decide +kernel)) (by decide +kernel)⟩
theorem g_X8_22_31 : wd_GR RX8 22 31 8 36 := ⟨_, _, fl_X8_22, sh_31, rfl⟩
theorem mc_X8_desk : Cond.code yX8_desk cX8_desk 3 (some .int) ∈ wd_tab := wd_tab_in (List.mem_of_getElem? (i := 716) (by decide +kernel)) (by decide +kernel)
theorem mc_X8_isBroken : Cond.code yX8_isBroken cX8_isBroken 3 (some .boolean) ∈ wd_tab := wd_tab_in (List.mem_of_getElem? (i := 756) (by decide +kernel)) (by decide +kernel)
theorem bp_30 : (Int8.ofInt (30)).toInt32 = (30 : Int32) := by decide
theorem fl_X8_19 : wd_FL RX8 19 8 7 := ⟨RX8, TX8, 28, wcls_X8, by decide, wd_tab_in (List.mem_of_getElem? (i := 624) (by decide +kernel)) (by decide +kernel)⟩
theorem g_X8_19_31 : wd_GR RX8 19 31 7 35 := ⟨_, _, fl_X8_19, sh_31, rfl⟩
theorem fl_X8_185 : wd_FL RX8 185 8 6 := ⟨RX8, TX8, 28, wcls_X8, by decide, wd_tab_in (List.mem_of_getElem? (i := 623) (by decide +kernel)) (by decide +kernel)⟩
theorem g_X8_185_31 : wd_GI RX8 185 31 6 := ⟨_, _, fl_X8_185, sh_31, rfl⟩
theorem fp_X8_185 : wd_FP RX8 185 8 6 := ⟨RX8, TX8, 28, wcls_X8, by decide, wd_tab_in (List.mem_of_getElem? (i := 623) (by decide +kernel)) (by decide +kernel), rfl, by decide +kernel⟩
theorem p_X8_185_31 : wd_PI RX8 185 31 6 := ⟨_, _, fp_X8_185, sh_31, rfl⟩
theorem fl_X8_121 : wd_FL RX8 121 8 5 := ⟨RX8, TX8, 28, wcls_X8, by decide, wd_tab_in (List.mem_of_getElem? (i := 622) (by decide +kernel)) (by decide +kernel)⟩
theorem g_X8_121_31 : wd_GI RX8 121 31 5 := ⟨_, _, fl_X8_121, sh_31, rfl⟩
theorem mc_X8_remember : Cond.code yX8_remember cX8_remember 2 none ∈ wd_tab := wd_tab_in (List.mem_of_getElem? (i := 760) (by decide +kernel)) (by decide +kernel)
theorem fl_X8_38 : wd_FL RX8 38 8 21 := ⟨RX8, TX8, 28, wcls_X8, by decide, wd_tab_in (List.mem_of_getElem? (i := 638) (by decide +kernel)) (by decide +kernel)⟩
theorem g_X8_38_31 : wd_GR RX8 38 31 21 41 := ⟨_, _, fl_X8_38, sh_31, rfl⟩
theorem mc_X8_start : Cond.code yX8_start cX8_start 2 (some .int) ∈ wd_tab := wd_tab_in (List.mem_of_getElem? (i := 780) (by decide +kernel)) (by decide +kernel)
theorem fl_X8_35 : wd_FL RX8 35 8 20 := ⟨RX8, TX8, 28, wcls_X8, by decide, wd_tab_in (List.mem_of_getElem? (i := 637) (by decide +kernel)) (by decide +kernel)⟩
theorem g_X8_35_31 : wd_GR RX8 35 31 20 40 := ⟨_, _, fl_X8_35, sh_31, rfl⟩
theorem mc_X8_done : Cond.code yX8_done cX8_done 2 (some .int) ∈ wd_tab := wd_tab_in (List.mem_of_getElem? (i := 784) (by decide +kernel)) (by decide +kernel)
theorem ml_X8_131 : wd_MV RX8 131 yX8_start 1 := ⟨⟨wd_tab_in (List.mem_of_getElem? (i := 777) (by decide +kernel)) (by decide +kernel), wd_tab_in (List.mem_of_getElem? (i := 9) (by decide +kernel)) (by decide +kernel), by decide +kernel⟩, wd_tab_in (List.mem_of_getElem? (i := 779) (by decide +kernel)) (by decide +kernel), wd_tab_sel (i := 44) (q := (yX8_start, _)) rfl⟩
theorem ml_X8_127 : wd_MV RX8 127 yX8_done 1 := ⟨⟨wd_tab_in (List.mem_of_getElem? (i := 781) (by decide +kernel)) (by decide +kernel), wd_tab_in (List.mem_of_getElem? (i := 9) (by decide +kernel)) (by decide +kernel), by decide +kernel⟩, wd_tab_in (List.mem_of_getElem? (i := 783) (by decide +kernel)) (by decide +kernel), wd_tab_sel (i := 45) (q := (yX8_done, _)) rfl⟩
theorem fl_X8_59 : wd_FL RX8 59 8 1 := ⟨RX8, TX8, 28, wcls_X8, by decide, wd_tab_in (List.mem_of_getElem? (i := 618) (by decide +kernel)) (by decide +kernel)⟩
theorem g_X8_59_31 : wd_GI RX8 59 31 1 := ⟨_, _, fl_X8_59, sh_31, rfl⟩
theorem mc_X8_isShut : Cond.code yX8_isShut cX8_isShut 5 (some .boolean) ∈ wd_tab := wd_tab_in (List.mem_of_getElem? (i := 776) (by decide +kernel)) (by decide +kernel)
theorem fl_X8_41 : wd_FL RX8 41 8 22 := ⟨RX8, TX8, 28, wcls_X8, by decide, wd_tab_in (List.mem_of_getElem? (i := 639) (by decide +kernel)) (by decide +kernel)⟩
theorem g_X8_41_31 : wd_GR RX8 41 31 22 42 := ⟨_, _, fl_X8_41, sh_31, rfl⟩
theorem fl_X8_44 : wd_FL RX8 44 8 23 := ⟨RX8, TX8, 28, wcls_X8, by decide, wd_tab_in (List.mem_of_getElem? (i := 640) (by decide +kernel)) (by decide +kernel)⟩
theorem g_X8_44_31 : wd_GR RX8 44 31 23 43 := ⟨_, _, fl_X8_44, sh_31, rfl⟩
theorem mc_X8_tells : Cond.code yX8_tells cX8_tells 4 none ∈ wd_tab := wd_tab_in (List.mem_of_getElem? (i := 788) (by decide +kernel)) (by decide +kernel)
theorem ml_X8_134 : wd_MV RX8 134 yX8_isShut 2 := ⟨⟨wd_tab_in (List.mem_of_getElem? (i := 773) (by decide +kernel)) (by decide +kernel), wd_tab_in (List.mem_of_getElem? (i := 9) (by decide +kernel)) (by decide +kernel), by decide +kernel⟩, wd_tab_in (List.mem_of_getElem? (i := 775) (by decide +kernel)) (by decide +kernel), wd_tab_sel (i := 43) (q := (yX8_isShut, _)) rfl⟩
theorem ml_X8_137 : wd_MV RX8 137 yX8_tells 3 := ⟨⟨wd_tab_in (List.mem_of_getElem? (i := 785) (by decide +kernel)) (by decide +kernel), wd_tab_in (List.mem_of_getElem? (i := 9) (by decide +kernel)) (by decide +kernel), by decide +kernel⟩, wd_tab_in (List.mem_of_getElem? (i := 787) (by decide +kernel)) (by decide +kernel), wd_tab_sel (i := 46) (q := (yX8_tells, _)) rfl⟩
theorem mc_X8_musts : Cond.code yX8_musts cX8_musts 5 none ∈ wd_tab := wd_tab_in (List.mem_of_getElem? (i := 772) (by decide +kernel)) (by decide +kernel)
theorem mc_X8_all : Cond.code yX8_all cX8_all 1 (some .int) ∈ wd_tab := wd_tab_in (List.mem_of_getElem? (i := 796) (by decide +kernel)) (by decide +kernel)
theorem mc_X8_has : Cond.code yX8_has cX8_has 2 (some .boolean) ∈ wd_tab := wd_tab_in (List.mem_of_getElem? (i := 803) (by decide +kernel)) (by decide +kernel)
theorem ml_X8_124 : wd_MS RX8 124 yX8_has 2 := ⟨⟨wd_tab_in (List.mem_of_getElem? (i := 801) (by decide +kernel)) (by decide +kernel), wd_tab_in (List.mem_of_getElem? (i := 9) (by decide +kernel)) (by decide +kernel), by decide +kernel⟩, wd_tab_in (List.mem_of_getElem? (i := 802) (by decide +kernel)) (by decide +kernel)⟩
theorem mc_X8_setEarly : Cond.code yX8_setEarly cX8_setEarly 4 (some .int) ∈ wd_tab := wd_tab_in (List.mem_of_getElem? (i := 800) (by decide +kernel)) (by decide +kernel)
theorem mc_X8_energy : Cond.code yX8_energy cX8_energy 4 (some .int) ∈ wd_tab := wd_tab_in (List.mem_of_getElem? (i := 807) (by decide +kernel)) (by decide +kernel)
theorem mc_X8_setLate : Cond.code yX8_setLate cX8_setLate 4 (some .int) ∈ wd_tab := wd_tab_in (List.mem_of_getElem? (i := 811) (by decide +kernel)) (by decide +kernel)
theorem ml_X8_141 : wd_MV RX8 141 yX8_all 0 := ⟨⟨wd_tab_in (List.mem_of_getElem? (i := 793) (by decide +kernel)) (by decide +kernel), wd_tab_in (List.mem_of_getElem? (i := 9) (by decide +kernel)) (by decide +kernel), by decide +kernel⟩, wd_tab_in (List.mem_of_getElem? (i := 795) (by decide +kernel)) (by decide +kernel), wd_tab_sel (i := 48) (q := (yX8_all, _)) rfl⟩
theorem ml_X8_145 : wd_MV RX8 145 yX8_setEarly 1 := ⟨⟨wd_tab_in (List.mem_of_getElem? (i := 797) (by decide +kernel)) (by decide +kernel), wd_tab_in (List.mem_of_getElem? (i := 9) (by decide +kernel)) (by decide +kernel), by decide +kernel⟩, wd_tab_in (List.mem_of_getElem? (i := 799) (by decide +kernel)) (by decide +kernel), wd_tab_sel (i := 49) (q := (yX8_setEarly, _)) rfl⟩
theorem ml_X8_148 : wd_MV RX8 148 yX8_energy 1 := ⟨⟨wd_tab_in (List.mem_of_getElem? (i := 804) (by decide +kernel)) (by decide +kernel), wd_tab_in (List.mem_of_getElem? (i := 9) (by decide +kernel)) (by decide +kernel), by decide +kernel⟩, wd_tab_in (List.mem_of_getElem? (i := 806) (by decide +kernel)) (by decide +kernel), wd_tab_sel (i := 50) (q := (yX8_energy, _)) rfl⟩
theorem ml_X8_151 : wd_MV RX8 151 yX8_setLate 1 := ⟨⟨wd_tab_in (List.mem_of_getElem? (i := 808) (by decide +kernel)) (by decide +kernel), wd_tab_in (List.mem_of_getElem? (i := 9) (by decide +kernel)) (by decide +kernel), by decide +kernel⟩, wd_tab_in (List.mem_of_getElem? (i := 810) (by decide +kernel)) (by decide +kernel), wd_tab_sel (i := 51) (q := (yX8_setLate, _)) rfl⟩
theorem mc_X8_edges : Cond.code yX8_edges cX8_edges 7 none ∈ wd_tab := wd_tab_in (List.mem_of_getElem? (i := 792) (by decide +kernel)) (by decide +kernel)
theorem mc_X8_setDone : Cond.code yX8_setDone cX8_setDone 4 (some .int) ∈ wd_tab := wd_tab_in (List.mem_of_getElem? (i := 819) (by decide +kernel)) (by decide +kernel)
theorem ml_X8_154 : wd_MV RX8 154 yX8_setDone 1 := ⟨⟨wd_tab_in (List.mem_of_getElem? (i := 816) (by decide +kernel)) (by decide +kernel), wd_tab_in (List.mem_of_getElem? (i := 9) (by decide +kernel)) (by decide +kernel), by decide +kernel⟩, wd_tab_in (List.mem_of_getElem? (i := 818) (by decide +kernel)) (by decide +kernel), wd_tab_sel (i := 53) (q := (yX8_setDone, _)) rfl⟩
theorem mc_X8_firsts : Cond.code yX8_firsts cX8_firsts 4 none ∈ wd_tab := wd_tab_in (List.mem_of_getElem? (i := 815) (by decide +kernel)) (by decide +kernel)
theorem mc_X8_lesser : Cond.code yX8_lesser cX8_lesser 2 (some .int) ∈ wd_tab := wd_tab_in (List.mem_of_getElem? (i := 830) (by decide +kernel)) (by decide +kernel)
theorem ml_X8_157 : wd_MS RX8 157 yX8_lesser 2 := ⟨⟨wd_tab_in (List.mem_of_getElem? (i := 828) (by decide +kernel)) (by decide +kernel), wd_tab_in (List.mem_of_getElem? (i := 9) (by decide +kernel)) (by decide +kernel), by decide +kernel⟩, wd_tab_in (List.mem_of_getElem? (i := 829) (by decide +kernel)) (by decide +kernel)⟩
theorem mc_X8_leastOf : Cond.code yX8_leastOf cX8_leastOf 5 (some .int) ∈ wd_tab := wd_tab_in (List.mem_of_getElem? (i := 827) (by decide +kernel)) (by decide +kernel)
theorem ml_X8_161 : wd_MV RX8 161 yX8_leastOf 3 := ⟨⟨wd_tab_in (List.mem_of_getElem? (i := 824) (by decide +kernel)) (by decide +kernel), wd_tab_in (List.mem_of_getElem? (i := 9) (by decide +kernel)) (by decide +kernel), by decide +kernel⟩, wd_tab_in (List.mem_of_getElem? (i := 826) (by decide +kernel)) (by decide +kernel), wd_tab_sel (i := 55) (q := (yX8_leastOf, _)) rfl⟩
theorem mc_X8_spans : Cond.code yX8_spans cX8_spans 6 none ∈ wd_tab := wd_tab_in (List.mem_of_getElem? (i := 823) (by decide +kernel)) (by decide +kernel)
theorem ml_X8_165 : wd_MV RX8 165 yX8_musts 1 := ⟨⟨wd_tab_in (List.mem_of_getElem? (i := 769) (by decide +kernel)) (by decide +kernel), wd_tab_in (List.mem_of_getElem? (i := 9) (by decide +kernel)) (by decide +kernel), by decide +kernel⟩, wd_tab_in (List.mem_of_getElem? (i := 771) (by decide +kernel)) (by decide +kernel), wd_tab_sel (i := 42) (q := (yX8_musts, _)) rfl⟩
theorem ml_X8_169 : wd_MV RX8 169 yX8_edges 1 := ⟨⟨wd_tab_in (List.mem_of_getElem? (i := 789) (by decide +kernel)) (by decide +kernel), wd_tab_in (List.mem_of_getElem? (i := 9) (by decide +kernel)) (by decide +kernel), by decide +kernel⟩, wd_tab_in (List.mem_of_getElem? (i := 791) (by decide +kernel)) (by decide +kernel), wd_tab_sel (i := 47) (q := (yX8_edges, _)) rfl⟩
theorem ml_X8_172 : wd_MV RX8 172 yX8_firsts 1 := ⟨⟨wd_tab_in (List.mem_of_getElem? (i := 812) (by decide +kernel)) (by decide +kernel), wd_tab_in (List.mem_of_getElem? (i := 9) (by decide +kernel)) (by decide +kernel), by decide +kernel⟩, wd_tab_in (List.mem_of_getElem? (i := 814) (by decide +kernel)) (by decide +kernel), wd_tab_sel (i := 52) (q := (yX8_firsts, _)) rfl⟩
theorem ml_X8_175 : wd_MV RX8 175 yX8_spans 1 := ⟨⟨wd_tab_in (List.mem_of_getElem? (i := 820) (by decide +kernel)) (by decide +kernel), wd_tab_in (List.mem_of_getElem? (i := 9) (by decide +kernel)) (by decide +kernel), by decide +kernel⟩, wd_tab_in (List.mem_of_getElem? (i := 822) (by decide +kernel)) (by decide +kernel), wd_tab_sel (i := 54) (q := (yX8_spans, _)) rfl⟩
theorem mc_X8_passes : Cond.code yX8_passes cX8_passes 5 none ∈ wd_tab := wd_tab_in (List.mem_of_getElem? (i := 768) (by decide +kernel)) (by decide +kernel)
theorem ml_X8_178 : wd_MV RX8 178 yX8_passes 2 := ⟨⟨wd_tab_in (List.mem_of_getElem? (i := 765) (by decide +kernel)) (by decide +kernel), wd_tab_in (List.mem_of_getElem? (i := 9) (by decide +kernel)) (by decide +kernel), by decide +kernel⟩, wd_tab_in (List.mem_of_getElem? (i := 767) (by decide +kernel)) (by decide +kernel), wd_tab_sel (i := 41) (q := (yX8_passes, _)) rfl⟩
theorem ml_X8_182 : wd_MV RX8 182 yX8_isBroken 0 := ⟨⟨wd_tab_in (List.mem_of_getElem? (i := 753) (by decide +kernel)) (by decide +kernel), wd_tab_in (List.mem_of_getElem? (i := 9) (by decide +kernel)) (by decide +kernel), by decide +kernel⟩, wd_tab_in (List.mem_of_getElem? (i := 755) (by decide +kernel)) (by decide +kernel), wd_tab_sel (i := 38) (q := (yX8_isBroken, _)) rfl⟩
theorem mc_X8_rules : Cond.code yX8_rules cX8_rules 2 none ∈ wd_tab := wd_tab_in (List.mem_of_getElem? (i := 764) (by decide +kernel)) (by decide +kernel)
theorem fl_X8_47 : wd_FL RX8 47 8 24 := ⟨RX8, TX8, 28, wcls_X8, by decide, wd_tab_in (List.mem_of_getElem? (i := 641) (by decide +kernel)) (by decide +kernel)⟩
theorem g_X8_47_31 : wd_GR RX8 47 31 24 44 := ⟨_, _, fl_X8_47, sh_31, rfl⟩
theorem mc_X8_unlike : Cond.code yX8_unlike cX8_unlike 3 (some .int) ∈ wd_tab := wd_tab_in (List.mem_of_getElem? (i := 834) (by decide +kernel)) (by decide +kernel)
theorem mc_X8_windows : Cond.code yX8_windows cX8_windows 3 (some .int) ∈ wd_tab := wd_tab_in (List.mem_of_getElem? (i := 838) (by decide +kernel)) (by decide +kernel)
theorem ml_X8_188 : wd_MV RX8 188 yX8_remember 0 := ⟨⟨wd_tab_in (List.mem_of_getElem? (i := 757) (by decide +kernel)) (by decide +kernel), wd_tab_in (List.mem_of_getElem? (i := 9) (by decide +kernel)) (by decide +kernel), by decide +kernel⟩, wd_tab_in (List.mem_of_getElem? (i := 759) (by decide +kernel)) (by decide +kernel), wd_tab_sel (i := 39) (q := (yX8_remember, _)) rfl⟩
theorem bp_m99 : (Int8.ofInt (-99)).toInt32 = (-99 : Int32) := by decide
theorem ml_X8_197 : wd_MV RX8 197 yX8_windows 0 := ⟨⟨wd_tab_in (List.mem_of_getElem? (i := 835) (by decide +kernel)) (by decide +kernel), wd_tab_in (List.mem_of_getElem? (i := 9) (by decide +kernel)) (by decide +kernel), by decide +kernel⟩, wd_tab_in (List.mem_of_getElem? (i := 837) (by decide +kernel)) (by decide +kernel), wd_tab_sel (i := 57) (q := (yX8_windows, _)) rfl⟩
theorem ml_X8_191 : wd_MV RX8 191 yX8_rules 1 := ⟨⟨wd_tab_in (List.mem_of_getElem? (i := 761) (by decide +kernel)) (by decide +kernel), wd_tab_in (List.mem_of_getElem? (i := 9) (by decide +kernel)) (by decide +kernel), by decide +kernel⟩, wd_tab_in (List.mem_of_getElem? (i := 763) (by decide +kernel)) (by decide +kernel), wd_tab_sel (i := 40) (q := (yX8_rules, _)) rfl⟩
theorem ml_X8_194 : wd_MV RX8 194 yX8_unlike 0 := ⟨⟨wd_tab_in (List.mem_of_getElem? (i := 831) (by decide +kernel)) (by decide +kernel), wd_tab_in (List.mem_of_getElem? (i := 9) (by decide +kernel)) (by decide +kernel), by decide +kernel⟩, wd_tab_in (List.mem_of_getElem? (i := 833) (by decide +kernel)) (by decide +kernel), wd_tab_sel (i := 56) (q := (yX8_unlike, _)) rfl⟩
theorem mc_X8_tightens : Cond.code yX8_tightens cX8_tightens 4 (some .int) ∈ wd_tab := wd_tab_in (List.mem_of_getElem? (i := 752) (by decide +kernel)) (by decide +kernel)
theorem mc_X8_isTask : Cond.code yX8_isTask cX8_isTask 2 (some .boolean) ∈ wd_tab := wd_tab_in (List.mem_of_getElem? (i := 846) (by decide +kernel)) (by decide +kernel)
theorem ml_X8_200 : wd_MV RX8 200 yX8_isTask 1 := ⟨⟨wd_tab_in (List.mem_of_getElem? (i := 843) (by decide +kernel)) (by decide +kernel), wd_tab_in (List.mem_of_getElem? (i := 9) (by decide +kernel)) (by decide +kernel), by decide +kernel⟩, wd_tab_in (List.mem_of_getElem? (i := 845) (by decide +kernel)) (by decide +kernel), wd_tab_sel (i := 58) (q := (yX8_isTask, _)) rfl⟩
theorem mc_X8_puts : Cond.code yX8_puts cX8_puts 7 (some .int) ∈ wd_tab := wd_tab_in (List.mem_of_getElem? (i := 842) (by decide +kernel)) (by decide +kernel)
theorem mc_X8_undo : Cond.code yX8_undo cX8_undo 2 (some .int) ∈ wd_tab := wd_tab_in (List.mem_of_getElem? (i := 850) (by decide +kernel)) (by decide +kernel)
theorem fl_X8_56 : wd_FL RX8 56 8 27 := ⟨RX8, TX8, 28, wcls_X8, by decide, wd_tab_in (List.mem_of_getElem? (i := 644) (by decide +kernel)) (by decide +kernel)⟩
theorem g_X8_56_31 : wd_GR RX8 56 31 27 47 := ⟨_, _, fl_X8_56, sh_31, rfl⟩
theorem mc_X8_plain : Cond.code yX8_plain cX8_plain 2 none ∈ wd_tab := wd_tab_in (List.mem_of_getElem? (i := 862) (by decide +kernel)) (by decide +kernel)
theorem fl_X8_50 : wd_FL RX8 50 8 25 := ⟨RX8, TX8, 28, wcls_X8, by decide, wd_tab_in (List.mem_of_getElem? (i := 642) (by decide +kernel)) (by decide +kernel)⟩
theorem g_X8_50_31 : wd_GR RX8 50 31 25 45 := ⟨_, _, fl_X8_50, sh_31, rfl⟩
theorem fl_X8_53 : wd_FL RX8 53 8 26 := ⟨RX8, TX8, 28, wcls_X8, by decide, wd_tab_in (List.mem_of_getElem? (i := 643) (by decide +kernel)) (by decide +kernel)⟩
theorem g_X8_53_31 : wd_GR RX8 53 31 26 46 := ⟨_, _, fl_X8_53, sh_31, rfl⟩
theorem mc_X8_runs : Cond.code yX8_runs cX8_runs 4 none ∈ wd_tab := wd_tab_in (List.mem_of_getElem? (i := 870) (by decide +kernel)) (by decide +kernel)
theorem mc_X8_isRoom : Cond.code yX8_isRoom cX8_isRoom 4 (some .boolean) ∈ wd_tab := wd_tab_in (List.mem_of_getElem? (i := 874) (by decide +kernel)) (by decide +kernel)
theorem ml_X8_207 : wd_MV RX8 207 yX8_isRoom 1 := ⟨⟨wd_tab_in (List.mem_of_getElem? (i := 871) (by decide +kernel)) (by decide +kernel), wd_tab_in (List.mem_of_getElem? (i := 9) (by decide +kernel)) (by decide +kernel), by decide +kernel⟩, wd_tab_in (List.mem_of_getElem? (i := 873) (by decide +kernel)) (by decide +kernel), wd_tab_sel (i := 63) (q := (yX8_isRoom, _)) rfl⟩
theorem ml_X8_204 : wd_MV RX8 204 yX8_runs 2 := ⟨⟨wd_tab_in (List.mem_of_getElem? (i := 867) (by decide +kernel)) (by decide +kernel), wd_tab_in (List.mem_of_getElem? (i := 9) (by decide +kernel)) (by decide +kernel), by decide +kernel⟩, wd_tab_in (List.mem_of_getElem? (i := 869) (by decide +kernel)) (by decide +kernel), wd_tab_sel (i := 62) (q := (yX8_runs, _)) rfl⟩
theorem mc_X8_schedules : Cond.code yX8_schedules cX8_schedules 8 (some .int) ∈ wd_tab := wd_tab_in (List.mem_of_getElem? (i := 866) (by decide +kernel)) (by decide +kernel)
theorem ml_X8_210 : wd_MV RX8 210 yX8_plain 0 := ⟨⟨wd_tab_in (List.mem_of_getElem? (i := 859) (by decide +kernel)) (by decide +kernel), wd_tab_in (List.mem_of_getElem? (i := 9) (by decide +kernel)) (by decide +kernel), by decide +kernel⟩, wd_tab_in (List.mem_of_getElem? (i := 861) (by decide +kernel)) (by decide +kernel), wd_tab_sel (i := 60) (q := (yX8_plain, _)) rfl⟩
theorem ml_X8_213 : wd_MV RX8 213 yX8_schedules 4 := ⟨⟨wd_tab_in (List.mem_of_getElem? (i := 863) (by decide +kernel)) (by decide +kernel), wd_tab_in (List.mem_of_getElem? (i := 9) (by decide +kernel)) (by decide +kernel), by decide +kernel⟩, wd_tab_in (List.mem_of_getElem? (i := 865) (by decide +kernel)) (by decide +kernel), wd_tab_sel (i := 61) (q := (yX8_schedules, _)) rfl⟩
theorem mc_X8_belong : Cond.code yX8_belong cX8_belong 4 (some .int) ∈ wd_tab := wd_tab_in (List.mem_of_getElem? (i := 858) (by decide +kernel)) (by decide +kernel)
theorem mc_X8_firstOf : Cond.code yX8_firstOf cX8_firstOf 2 (some .int) ∈ wd_tab := wd_tab_in (List.mem_of_getElem? (i := 878) (by decide +kernel)) (by decide +kernel)
theorem ml_X8_217 : wd_MV RX8 217 yX8_belong 1 := ⟨⟨wd_tab_in (List.mem_of_getElem? (i := 855) (by decide +kernel)) (by decide +kernel), wd_tab_in (List.mem_of_getElem? (i := 9) (by decide +kernel)) (by decide +kernel), by decide +kernel⟩, wd_tab_in (List.mem_of_getElem? (i := 857) (by decide +kernel)) (by decide +kernel), wd_tab_sel (i := 59) (q := (yX8_belong, _)) rfl⟩
theorem ml_X8_220 : wd_MV RX8 220 yX8_firstOf 1 := ⟨⟨wd_tab_in (List.mem_of_getElem? (i := 875) (by decide +kernel)) (by decide +kernel), wd_tab_in (List.mem_of_getElem? (i := 9) (by decide +kernel)) (by decide +kernel), by decide +kernel⟩, wd_tab_in (List.mem_of_getElem? (i := 877) (by decide +kernel)) (by decide +kernel), wd_tab_sel (i := 64) (q := (yX8_firstOf, _)) rfl⟩
theorem mc_X8_task : Cond.code yX8_task cX8_task 3 (some .int) ∈ wd_tab := wd_tab_in (List.mem_of_getElem? (i := 854) (by decide +kernel)) (by decide +kernel)
theorem mc_X8_why : Cond.code yX8_why cX8_why 4 (some .int) ∈ wd_tab := wd_tab_in (List.mem_of_getElem? (i := 882) (by decide +kernel)) (by decide +kernel)
theorem mc_X8_asIs : Cond.code yX8_asIs cX8_asIs 2 none ∈ wd_tab := wd_tab_in (List.mem_of_getElem? (i := 890) (by decide +kernel)) (by decide +kernel)
theorem ml_X8_223 : wd_MV RX8 223 yX8_asIs 0 := ⟨⟨wd_tab_in (List.mem_of_getElem? (i := 887) (by decide +kernel)) (by decide +kernel), wd_tab_in (List.mem_of_getElem? (i := 9) (by decide +kernel)) (by decide +kernel), by decide +kernel⟩, wd_tab_in (List.mem_of_getElem? (i := 889) (by decide +kernel)) (by decide +kernel), wd_tab_sel (i := 65) (q := (yX8_asIs, _)) rfl⟩
theorem mc_X8_must : Cond.code yX8_must cX8_must 4 (some .int) ∈ wd_tab := wd_tab_in (List.mem_of_getElem? (i := 886) (by decide +kernel)) (by decide +kernel)
theorem mc_X8_wrapOf : Cond.code yX8_wrapOf cX8_wrapOf 5 (some .int) ∈ wd_tab := wd_tab_in (List.mem_of_getElem? (i := 898) (by decide +kernel)) (by decide +kernel)
theorem ml_X8_226 : wd_MV RX8 226 yX8_wrapOf 1 := ⟨⟨wd_tab_in (List.mem_of_getElem? (i := 895) (by decide +kernel)) (by decide +kernel), wd_tab_in (List.mem_of_getElem? (i := 9) (by decide +kernel)) (by decide +kernel), by decide +kernel⟩, wd_tab_in (List.mem_of_getElem? (i := 897) (by decide +kernel)) (by decide +kernel), wd_tab_sel (i := 66) (q := (yX8_wrapOf, _)) rfl⟩
theorem mc_X8_wrap : Cond.code yX8_wrap cX8_wrap 2 (some .int) ∈ wd_tab := wd_tab_in (List.mem_of_getElem? (i := 894) (by decide +kernel)) (by decide +kernel)
theorem mc_X8_grey : Cond.code yX8_grey cX8_grey 8 (some .int) ∈ wd_tab := wd_tab_in (List.mem_of_getElem? (i := 902) (by decide +kernel)) (by decide +kernel)
theorem mc_X8_odds : Cond.code yX8_odds cX8_odds 8 (some .int) ∈ wd_tab := wd_tab_in (List.mem_of_getElem? (i := 906) (by decide +kernel)) (by decide +kernel)
theorem fl_X8_26 : wd_FL RX8 26 8 9 := ⟨RX8, TX8, 28, wcls_X8, by decide, wd_tab_in (List.mem_of_getElem? (i := 626) (by decide +kernel)) (by decide +kernel)⟩
theorem g_X8_26_31 : wd_GR RX8 26 31 9 37 := ⟨_, _, fl_X8_26, sh_31, rfl⟩
theorem mc_X8_keep : Cond.code yX8_keep cX8_keep 3 (some .int) ∈ wd_tab := wd_tab_in (List.mem_of_getElem? (i := 910) (by decide +kernel)) (by decide +kernel)
theorem mc_X8_back : Cond.code yX8_back cX8_back 3 (some .int) ∈ wd_tab := wd_tab_in (List.mem_of_getElem? (i := 914) (by decide +kernel)) (by decide +kernel)
theorem mc_X8_countSchedules : Cond.code yX8_countSchedules cX8_countSchedules 1 (some .int) ∈ wd_tab := wd_tab_in (List.mem_of_getElem? (i := 922) (by decide +kernel)) (by decide +kernel)
theorem mc_X8_shortest : Cond.code yX8_shortest cX8_shortest 2 (some .int) ∈ wd_tab := wd_tab_in (List.mem_of_getElem? (i := 926) (by decide +kernel)) (by decide +kernel)
theorem mc_X8_heavy : Cond.code yX8_heavy cX8_heavy 7 (some .int) ∈ wd_tab := wd_tab_in (List.mem_of_getElem? (i := 930) (by decide +kernel)) (by decide +kernel)
theorem ml_X8_229 : wd_MV RX8 229 yX8_countSchedules 0 := ⟨⟨wd_tab_in (List.mem_of_getElem? (i := 919) (by decide +kernel)) (by decide +kernel), wd_tab_in (List.mem_of_getElem? (i := 9) (by decide +kernel)) (by decide +kernel), by decide +kernel⟩, wd_tab_in (List.mem_of_getElem? (i := 921) (by decide +kernel)) (by decide +kernel), wd_tab_sel (i := 67) (q := (yX8_countSchedules, _)) rfl⟩
theorem ml_X8_232 : wd_MV RX8 232 yX8_shortest 0 := ⟨⟨wd_tab_in (List.mem_of_getElem? (i := 923) (by decide +kernel)) (by decide +kernel), wd_tab_in (List.mem_of_getElem? (i := 9) (by decide +kernel)) (by decide +kernel), by decide +kernel⟩, wd_tab_in (List.mem_of_getElem? (i := 925) (by decide +kernel)) (by decide +kernel), wd_tab_sel (i := 68) (q := (yX8_shortest, _)) rfl⟩
theorem ml_X8_235 : wd_MV RX8 235 yX8_heavy 0 := ⟨⟨wd_tab_in (List.mem_of_getElem? (i := 927) (by decide +kernel)) (by decide +kernel), wd_tab_in (List.mem_of_getElem? (i := 9) (by decide +kernel)) (by decide +kernel), by decide +kernel⟩, wd_tab_in (List.mem_of_getElem? (i := 929) (by decide +kernel)) (by decide +kernel), wd_tab_sel (i := 69) (q := (yX8_heavy, _)) rfl⟩
theorem mc_X8_count : Cond.code yX8_count cX8_count 2 (some .int) ∈ wd_tab := wd_tab_in (List.mem_of_getElem? (i := 918) (by decide +kernel)) (by decide +kernel)
