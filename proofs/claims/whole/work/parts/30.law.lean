/-! THE CLAIM OUT OF ONE WALK OF THE LAW'S BODY. Your part is whole_start (and what it stands on); all else here is the same for every law, but numbers. -/
def R_law : String := "WindowDeskLaw"
def lw_P (b : Addr) (xs : List Int32) (args : Array Value) (s : State) : Prop := args = #[.ref b] ∧ s.IntsAt b xs ∧ xs.length ≤ 2048 ∧ (Jvm.Cond.and given_1 narrow_1).before args s = true
def lw_Q (_ : Array Value) (s : State) (o : Outcome) (t : State) : Prop := o = .returned (some (.int 1)) ∧ Framed s o t [] 600000 7302250
def lw_Z (below : List Frame) (a : Array Value) (s : State) : State → Prop := fun t => ∃ o, t.status = .running ∧ Ended t below o ∧ lw_Q a s o t
/-- the law's own end, with 1 on the stack, nothing written that was there before, its room as the claim has it -/
theorem lw_ret {p : Program} {l : Launch} {e : Env} {s : State} {m : MethodId} {below : List Frame} {meth : Method} {c : Code} {b : Nat} (hx : p.tables.exec = Jvm.exec) (hb : c.code = code) (hr : meth.sig.returnType = ret) (hlocks : meth.locks = false) {pc : Nat} {H : Heap} {ls : Array Slot} (hdg : decode code pc = .ok (.ireturn, 1)) : W p l e room_1 s m #[Value.ref b] below meth c H [] 600000 7302250 (lw_Z below #[Value.ref b] s) (F0 m pc ls [.int 1]) := by
  intro T hT X
  obtain ⟨fs, hret, hrun, hended, hW, hframe⟩ := X.leave (v := some (.int 1)) (hlocks := hlocks) (fun h => by rw [hr] at h; cases h)
  have hmeth' : T.vm.method? m = some meth := X.method'
  refine ⟨T.setFrames fs, ?_, .returned (some (.int 1)), hrun, hended, rfl, ⟨_, rfl⟩, hW, hframe⟩
  jvm_step X.here [X.here.top, hx, hb, hdg, hmeth', hr, ret, narrow_b1]
  (try refine ⟨rfl, ?_⟩); (try refine ⟨rfl, ?_⟩)
  first | (intro acts; rw [hret _ acts rfl rfl rfl]) | rw [hret _ _ rfl rfl rfl]
  exact Steps.refl _
/-- what holds at the law's entry: the machine, the code, the tables' words (any of lw_tbl by 'hts w (by decide +kernel)'), the script of L ints xs at the cell b, what the Statement gives of the start (any of its parts by flat_of_before) -/
def lw_At (p : Program) (s : State) (m : MethodId) (meth : Method) (c : Code) (b L : Nat) (xs : Nat → Int32) : Prop :=
  p.tables.exec = Jvm.exec ∧ c.code = code ∧ meth.sig.returnType = ret ∧ c.maxLocals = 4 ∧ s.vm.findClass R_law = some m.cls ∧ (∀ w ∈ lw_tbl, w.before #[Value.ref b] s = true) ∧ va_X b L xs s s.heap ∧ b < s.heap.size ∧ meth.locks = false ∧ (Jvm.Cond.and given_1 narrow_1).before #[Value.ref b] s = true
theorem ml_L_13 : wd_MV RL 13 yX7_type 1 := ⟨⟨wd_tab_in (List.mem_of_getElem? (i := 246) (by decide +kernel)) (by decide +kernel), wd_tab_in (List.mem_of_getElem? (i := 1) (by decide +kernel)) (by decide +kernel), by decide +kernel⟩, wd_tab_in (List.mem_of_getElem? (i := 247) (by decide +kernel)) (by decide +kernel), wd_tab_in (List.mem_of_getElem? (i := 248) (by decide +kernel)) (by decide +kernel)⟩
theorem ml_L_17 : wd_MV RL 17 yX8_type 1 := ⟨⟨wd_tab_in (List.mem_of_getElem? (i := 702) (by decide +kernel)) (by decide +kernel), wd_tab_in (List.mem_of_getElem? (i := 9) (by decide +kernel)) (by decide +kernel), by decide +kernel⟩, wd_tab_in (List.mem_of_getElem? (i := 703) (by decide +kernel)) (by decide +kernel), wd_tab_in (List.mem_of_getElem? (i := 704) (by decide +kernel)) (by decide +kernel)⟩
theorem ml_L_18 : wd_MV RL 18 yX7_clear 0 := ⟨⟨wd_tab_in (List.mem_of_getElem? (i := 254) (by decide +kernel)) (by decide +kernel), wd_tab_in (List.mem_of_getElem? (i := 1) (by decide +kernel)) (by decide +kernel), by decide +kernel⟩, wd_tab_in (List.mem_of_getElem? (i := 255) (by decide +kernel)) (by decide +kernel), wd_tab_in (List.mem_of_getElem? (i := 256) (by decide +kernel)) (by decide +kernel)⟩
theorem ml_L_22 : wd_MV RL 22 yX8_clear 0 := ⟨⟨wd_tab_in (List.mem_of_getElem? (i := 709) (by decide +kernel)) (by decide +kernel), wd_tab_in (List.mem_of_getElem? (i := 9) (by decide +kernel)) (by decide +kernel), by decide +kernel⟩, wd_tab_in (List.mem_of_getElem? (i := 710) (by decide +kernel)) (by decide +kernel), wd_tab_in (List.mem_of_getElem? (i := 711) (by decide +kernel)) (by decide +kernel)⟩
theorem ml_L_23 : wd_MV RL 23 yX7_desk 0 := ⟨⟨wd_tab_in (List.mem_of_getElem? (i := 258) (by decide +kernel)) (by decide +kernel), wd_tab_in (List.mem_of_getElem? (i := 1) (by decide +kernel)) (by decide +kernel), by decide +kernel⟩, wd_tab_in (List.mem_of_getElem? (i := 259) (by decide +kernel)) (by decide +kernel), wd_tab_in (List.mem_of_getElem? (i := 260) (by decide +kernel)) (by decide +kernel)⟩
theorem ml_L_26 : wd_MV RL 26 yX8_desk 0 := ⟨⟨wd_tab_in (List.mem_of_getElem? (i := 713) (by decide +kernel)) (by decide +kernel), wd_tab_in (List.mem_of_getElem? (i := 9) (by decide +kernel)) (by decide +kernel), by decide +kernel⟩, wd_tab_in (List.mem_of_getElem? (i := 714) (by decide +kernel)) (by decide +kernel), wd_tab_in (List.mem_of_getElem? (i := 715) (by decide +kernel)) (by decide +kernel)⟩
theorem ml_L_27 : wd_MV RL 27 yX7_task 2 := ⟨⟨wd_tab_in (List.mem_of_getElem? (i := 323) (by decide +kernel)) (by decide +kernel), wd_tab_in (List.mem_of_getElem? (i := 1) (by decide +kernel)) (by decide +kernel), by decide +kernel⟩, wd_tab_in (List.mem_of_getElem? (i := 324) (by decide +kernel)) (by decide +kernel), wd_tab_in (List.mem_of_getElem? (i := 325) (by decide +kernel)) (by decide +kernel)⟩
theorem ml_L_31 : wd_MV RL 31 yX8_task 2 := ⟨⟨wd_tab_in (List.mem_of_getElem? (i := 851) (by decide +kernel)) (by decide +kernel), wd_tab_in (List.mem_of_getElem? (i := 9) (by decide +kernel)) (by decide +kernel), by decide +kernel⟩, wd_tab_in (List.mem_of_getElem? (i := 852) (by decide +kernel)) (by decide +kernel), wd_tab_in (List.mem_of_getElem? (i := 853) (by decide +kernel)) (by decide +kernel)⟩
theorem ml_L_32 : wd_MV RL 32 yX7_why 3 := ⟨⟨wd_tab_in (List.mem_of_getElem? (i := 380) (by decide +kernel)) (by decide +kernel), wd_tab_in (List.mem_of_getElem? (i := 1) (by decide +kernel)) (by decide +kernel), by decide +kernel⟩, wd_tab_in (List.mem_of_getElem? (i := 381) (by decide +kernel)) (by decide +kernel), wd_tab_in (List.mem_of_getElem? (i := 382) (by decide +kernel)) (by decide +kernel)⟩
theorem ml_L_36 : wd_MV RL 36 yX8_why 3 := ⟨⟨wd_tab_in (List.mem_of_getElem? (i := 879) (by decide +kernel)) (by decide +kernel), wd_tab_in (List.mem_of_getElem? (i := 9) (by decide +kernel)) (by decide +kernel), by decide +kernel⟩, wd_tab_in (List.mem_of_getElem? (i := 880) (by decide +kernel)) (by decide +kernel), wd_tab_in (List.mem_of_getElem? (i := 881) (by decide +kernel)) (by decide +kernel)⟩
theorem ml_L_37 : wd_MV RL 37 yX7_must 1 := ⟨⟨wd_tab_in (List.mem_of_getElem? (i := 395) (by decide +kernel)) (by decide +kernel), wd_tab_in (List.mem_of_getElem? (i := 1) (by decide +kernel)) (by decide +kernel), by decide +kernel⟩, wd_tab_in (List.mem_of_getElem? (i := 396) (by decide +kernel)) (by decide +kernel), wd_tab_in (List.mem_of_getElem? (i := 397) (by decide +kernel)) (by decide +kernel)⟩
theorem ml_L_40 : wd_MV RL 40 yX8_must 1 := ⟨⟨wd_tab_in (List.mem_of_getElem? (i := 883) (by decide +kernel)) (by decide +kernel), wd_tab_in (List.mem_of_getElem? (i := 9) (by decide +kernel)) (by decide +kernel), by decide +kernel⟩, wd_tab_in (List.mem_of_getElem? (i := 884) (by decide +kernel)) (by decide +kernel), wd_tab_in (List.mem_of_getElem? (i := 885) (by decide +kernel)) (by decide +kernel)⟩
theorem ml_L_41 : wd_MV RL 41 yX7_tightens 1 := ⟨⟨wd_tab_in (List.mem_of_getElem? (i := 418) (by decide +kernel)) (by decide +kernel), wd_tab_in (List.mem_of_getElem? (i := 1) (by decide +kernel)) (by decide +kernel), by decide +kernel⟩, wd_tab_in (List.mem_of_getElem? (i := 419) (by decide +kernel)) (by decide +kernel), wd_tab_in (List.mem_of_getElem? (i := 420) (by decide +kernel)) (by decide +kernel)⟩
theorem ml_L_44 : wd_MV RL 44 yX8_tightens 1 := ⟨⟨wd_tab_in (List.mem_of_getElem? (i := 749) (by decide +kernel)) (by decide +kernel), wd_tab_in (List.mem_of_getElem? (i := 9) (by decide +kernel)) (by decide +kernel), by decide +kernel⟩, wd_tab_in (List.mem_of_getElem? (i := 750) (by decide +kernel)) (by decide +kernel), wd_tab_in (List.mem_of_getElem? (i := 751) (by decide +kernel)) (by decide +kernel)⟩
theorem ml_L_45 : wd_MV RL 45 yX7_puts 3 := ⟨⟨wd_tab_in (List.mem_of_getElem? (i := 503) (by decide +kernel)) (by decide +kernel), wd_tab_in (List.mem_of_getElem? (i := 1) (by decide +kernel)) (by decide +kernel), by decide +kernel⟩, wd_tab_in (List.mem_of_getElem? (i := 504) (by decide +kernel)) (by decide +kernel), wd_tab_in (List.mem_of_getElem? (i := 505) (by decide +kernel)) (by decide +kernel)⟩
theorem ml_L_48 : wd_MV RL 48 yX8_puts 3 := ⟨⟨wd_tab_in (List.mem_of_getElem? (i := 839) (by decide +kernel)) (by decide +kernel), wd_tab_in (List.mem_of_getElem? (i := 9) (by decide +kernel)) (by decide +kernel), by decide +kernel⟩, wd_tab_in (List.mem_of_getElem? (i := 840) (by decide +kernel)) (by decide +kernel), wd_tab_in (List.mem_of_getElem? (i := 841) (by decide +kernel)) (by decide +kernel)⟩
theorem ml_L_49 : wd_MV RL 49 yX7_undo 0 := ⟨⟨wd_tab_in (List.mem_of_getElem? (i := 512) (by decide +kernel)) (by decide +kernel), wd_tab_in (List.mem_of_getElem? (i := 1) (by decide +kernel)) (by decide +kernel), by decide +kernel⟩, wd_tab_in (List.mem_of_getElem? (i := 513) (by decide +kernel)) (by decide +kernel), wd_tab_in (List.mem_of_getElem? (i := 514) (by decide +kernel)) (by decide +kernel)⟩
theorem ml_L_52 : wd_MV RL 52 yX8_undo 0 := ⟨⟨wd_tab_in (List.mem_of_getElem? (i := 847) (by decide +kernel)) (by decide +kernel), wd_tab_in (List.mem_of_getElem? (i := 9) (by decide +kernel)) (by decide +kernel), by decide +kernel⟩, wd_tab_in (List.mem_of_getElem? (i := 848) (by decide +kernel)) (by decide +kernel), wd_tab_in (List.mem_of_getElem? (i := 849) (by decide +kernel)) (by decide +kernel)⟩
theorem ml_L_53 : wd_MV RL 53 yX7_wrap 1 := ⟨⟨wd_tab_in (List.mem_of_getElem? (i := 520) (by decide +kernel)) (by decide +kernel), wd_tab_in (List.mem_of_getElem? (i := 1) (by decide +kernel)) (by decide +kernel), by decide +kernel⟩, wd_tab_in (List.mem_of_getElem? (i := 521) (by decide +kernel)) (by decide +kernel), wd_tab_in (List.mem_of_getElem? (i := 522) (by decide +kernel)) (by decide +kernel)⟩
theorem ml_L_56 : wd_MV RL 56 yX8_wrap 1 := ⟨⟨wd_tab_in (List.mem_of_getElem? (i := 891) (by decide +kernel)) (by decide +kernel), wd_tab_in (List.mem_of_getElem? (i := 9) (by decide +kernel)) (by decide +kernel), by decide +kernel⟩, wd_tab_in (List.mem_of_getElem? (i := 892) (by decide +kernel)) (by decide +kernel), wd_tab_in (List.mem_of_getElem? (i := 893) (by decide +kernel)) (by decide +kernel)⟩
theorem ml_L_57 : wd_MV RL 57 yX7_grey 3 := ⟨⟨wd_tab_in (List.mem_of_getElem? (i := 532) (by decide +kernel)) (by decide +kernel), wd_tab_in (List.mem_of_getElem? (i := 1) (by decide +kernel)) (by decide +kernel), by decide +kernel⟩, wd_tab_in (List.mem_of_getElem? (i := 533) (by decide +kernel)) (by decide +kernel), wd_tab_in (List.mem_of_getElem? (i := 534) (by decide +kernel)) (by decide +kernel)⟩
theorem ml_L_60 : wd_MV RL 60 yX8_grey 3 := ⟨⟨wd_tab_in (List.mem_of_getElem? (i := 899) (by decide +kernel)) (by decide +kernel), wd_tab_in (List.mem_of_getElem? (i := 9) (by decide +kernel)) (by decide +kernel), by decide +kernel⟩, wd_tab_in (List.mem_of_getElem? (i := 900) (by decide +kernel)) (by decide +kernel), wd_tab_in (List.mem_of_getElem? (i := 901) (by decide +kernel)) (by decide +kernel)⟩
theorem ml_L_61 : wd_MV RL 61 yX7_odds 2 := ⟨⟨wd_tab_in (List.mem_of_getElem? (i := 541) (by decide +kernel)) (by decide +kernel), wd_tab_in (List.mem_of_getElem? (i := 1) (by decide +kernel)) (by decide +kernel), by decide +kernel⟩, wd_tab_in (List.mem_of_getElem? (i := 542) (by decide +kernel)) (by decide +kernel), wd_tab_in (List.mem_of_getElem? (i := 543) (by decide +kernel)) (by decide +kernel)⟩
theorem ml_L_64 : wd_MV RL 64 yX8_odds 2 := ⟨⟨wd_tab_in (List.mem_of_getElem? (i := 903) (by decide +kernel)) (by decide +kernel), wd_tab_in (List.mem_of_getElem? (i := 9) (by decide +kernel)) (by decide +kernel), by decide +kernel⟩, wd_tab_in (List.mem_of_getElem? (i := 904) (by decide +kernel)) (by decide +kernel), wd_tab_in (List.mem_of_getElem? (i := 905) (by decide +kernel)) (by decide +kernel)⟩
theorem ml_L_65 : wd_MV RL 65 yX7_keep 1 := ⟨⟨wd_tab_in (List.mem_of_getElem? (i := 568) (by decide +kernel)) (by decide +kernel), wd_tab_in (List.mem_of_getElem? (i := 1) (by decide +kernel)) (by decide +kernel), by decide +kernel⟩, wd_tab_in (List.mem_of_getElem? (i := 569) (by decide +kernel)) (by decide +kernel), wd_tab_in (List.mem_of_getElem? (i := 570) (by decide +kernel)) (by decide +kernel)⟩
theorem ml_L_68 : wd_MV RL 68 yX8_keep 1 := ⟨⟨wd_tab_in (List.mem_of_getElem? (i := 907) (by decide +kernel)) (by decide +kernel), wd_tab_in (List.mem_of_getElem? (i := 9) (by decide +kernel)) (by decide +kernel), by decide +kernel⟩, wd_tab_in (List.mem_of_getElem? (i := 908) (by decide +kernel)) (by decide +kernel), wd_tab_in (List.mem_of_getElem? (i := 909) (by decide +kernel)) (by decide +kernel)⟩
theorem ml_L_69 : wd_MV RL 69 yX7_back 1 := ⟨⟨wd_tab_in (List.mem_of_getElem? (i := 572) (by decide +kernel)) (by decide +kernel), wd_tab_in (List.mem_of_getElem? (i := 1) (by decide +kernel)) (by decide +kernel), by decide +kernel⟩, wd_tab_in (List.mem_of_getElem? (i := 573) (by decide +kernel)) (by decide +kernel), wd_tab_in (List.mem_of_getElem? (i := 574) (by decide +kernel)) (by decide +kernel)⟩
theorem ml_L_72 : wd_MV RL 72 yX8_back 1 := ⟨⟨wd_tab_in (List.mem_of_getElem? (i := 911) (by decide +kernel)) (by decide +kernel), wd_tab_in (List.mem_of_getElem? (i := 9) (by decide +kernel)) (by decide +kernel), by decide +kernel⟩, wd_tab_in (List.mem_of_getElem? (i := 912) (by decide +kernel)) (by decide +kernel), wd_tab_in (List.mem_of_getElem? (i := 913) (by decide +kernel)) (by decide +kernel)⟩
theorem ml_L_73 : wd_MV RL 73 yX7_count 1 := ⟨⟨wd_tab_in (List.mem_of_getElem? (i := 576) (by decide +kernel)) (by decide +kernel), wd_tab_in (List.mem_of_getElem? (i := 1) (by decide +kernel)) (by decide +kernel), by decide +kernel⟩, wd_tab_in (List.mem_of_getElem? (i := 577) (by decide +kernel)) (by decide +kernel), wd_tab_in (List.mem_of_getElem? (i := 578) (by decide +kernel)) (by decide +kernel)⟩
theorem ml_L_76 : wd_MV RL 76 yX8_count 1 := ⟨⟨wd_tab_in (List.mem_of_getElem? (i := 915) (by decide +kernel)) (by decide +kernel), wd_tab_in (List.mem_of_getElem? (i := 9) (by decide +kernel)) (by decide +kernel), by decide +kernel⟩, wd_tab_in (List.mem_of_getElem? (i := 916) (by decide +kernel)) (by decide +kernel), wd_tab_in (List.mem_of_getElem? (i := 917) (by decide +kernel)) (by decide +kernel)⟩
/-! ===== what is wanted of the pure functions: a relation P that every call keeps, with one answer on both sides ===== -/
def wd_Ops (P : wd_Mem → Prop) : Prop :=
  (∀ (μ : wd_Mem) (x1 : Int32), P μ → ∃ (r : Int32) (μ1 μ2 : wd_Mem), X7_type μ x1 = some (r, μ1) ∧ X8_type μ1 x1 = some (r, μ2) ∧ P μ2) ∧
  (∀ (μ : wd_Mem), P μ → ∃ (r : Int32) (μ1 μ2 : wd_Mem), X7_clear μ  = some (r, μ1) ∧ X8_clear μ1  = some (r, μ2) ∧ P μ2) ∧
  (∀ (μ : wd_Mem), P μ → ∃ (r : Int32) (μ1 μ2 : wd_Mem), X7_desk μ  = some (r, μ1) ∧ X8_desk μ1  = some (r, μ2) ∧ P μ2) ∧
  (∀ (μ : wd_Mem) (x1 x2 : Int32), P μ → ∃ (r : Int32) (μ1 μ2 : wd_Mem), X7_task μ x1 x2 = some (r, μ1) ∧ X8_task μ1 x1 x2 = some (r, μ2) ∧ P μ2) ∧
  (∀ (μ : wd_Mem) (x1 x2 x3 : Int32), P μ → ∃ r : Int32, X7_why μ x1 x2 x3 = some r ∧ X8_why μ x1 x2 x3 = some r) ∧
  (∀ (μ : wd_Mem) (x1 : Int32), P μ → ∃ (r : Int32) (μ1 μ2 : wd_Mem), X7_must μ x1 = some (r, μ1) ∧ X8_must μ1 x1 = some (r, μ2) ∧ P μ2) ∧
  (∀ (μ : wd_Mem) (x1 : Int32), P μ → ∃ (r : Int32) (μ1 μ2 : wd_Mem), X7_tightens μ x1 = some (r, μ1) ∧ X8_tightens μ1 x1 = some (r, μ2) ∧ P μ2) ∧
  (∀ (μ : wd_Mem) (x1 x2 x3 : Int32), P μ → ∃ (r : Int32) (μ1 μ2 : wd_Mem), X7_puts μ x1 x2 x3 = some (r, μ1) ∧ X8_puts μ1 x1 x2 x3 = some (r, μ2) ∧ P μ2) ∧
  (∀ (μ : wd_Mem), P μ → ∃ (r : Int32) (μ1 μ2 : wd_Mem), X7_undo μ  = some (r, μ1) ∧ X8_undo μ1  = some (r, μ2) ∧ P μ2) ∧
  (∀ (μ : wd_Mem) (x1 : Int32), P μ → ∃ (r : Int32) (μ1 μ2 : wd_Mem), X7_wrap μ x1 = some (r, μ1) ∧ X8_wrap μ1 x1 = some (r, μ2) ∧ P μ2) ∧
  (∀ (μ : wd_Mem) (x1 x2 x3 : Int32), P μ → ∃ (r : Int32) (μ1 μ2 : wd_Mem), X7_grey μ x1 x2 x3 = some (r, μ1) ∧ X8_grey μ1 x1 x2 x3 = some (r, μ2) ∧ P μ2) ∧
  (∀ (μ : wd_Mem) (x1 x2 : Int32), P μ → ∃ (r : Int32) (μ1 μ2 : wd_Mem), X7_odds μ x1 x2 = some (r, μ1) ∧ X8_odds μ1 x1 x2 = some (r, μ2) ∧ P μ2) ∧
  (∀ (μ : wd_Mem) (x1 : Int32), P μ → ∃ (r : Int32) (μ1 μ2 : wd_Mem), X7_keep μ x1 = some (r, μ1) ∧ X8_keep μ1 x1 = some (r, μ2) ∧ P μ2) ∧
  (∀ (μ : wd_Mem) (x1 : Int32), P μ → ∃ (r : Int32) (μ1 μ2 : wd_Mem), X7_back μ x1 = some (r, μ1) ∧ X8_back μ1 x1 = some (r, μ2) ∧ P μ2) ∧
  (∀ (μ : wd_Mem) (x1 : Int32), P μ → ∃ (r : Int32) (μ1 μ2 : wd_Mem), X7_count μ x1 = some (r, μ1) ∧ X8_count μ1 x1 = some (r, μ2) ∧ P μ2)
def wl_At (G : wd_G) (p : Program) (s : State) (m : MethodId) (c : Code) (b L : Nat) (xs : Nat → Int32) : Prop := p.tables.exec = Jvm.exec ∧ c.code = cL_law ∧ c.maxLocals = 4 ∧ s.vm.findClass RL = some m.cls ∧ (∀ w ∈ wd_tab, w.before #[Value.ref b] s = true) ∧ wd_KK G s ∧ va_X b L xs s s.heap ∧ b < s.heap.size ∧ (∀ k, k < wd_sh.length → s.heap.size ≤ G.2.2.1 k)
section LAW
variable {p : Program} {e : Env} {s : State} {m : MethodId} {below : List Frame} {meth : Method} {c : Code} {G : wd_G} {b L : Nat} {xs : Nat → Int32} {Qw : State → Prop} {cells slots : Nat}
theorem wl_call (C : wl_At G p s m c b L xs) (hc : cells ≤ 600000) (hs : slots ≤ 7302250) {idx k pc pc' : Nat} {y : MethodName} (as : List wd_AV) {μ ν : wd_Mem} {x : Int32} {H : Heap} {locs : List Loc} {ls : Array Slot} {st0 rest : List Value} (hz : ls.size = 4) (hP : va_P G.2.1 vwCl (wd_W G μ) H) (hD : va_D (fun q : Nat => s.heap.size ≤ q) (wd_W G μ)) (hS : va_S (fun q : Nat => s.heap.size ≤ q) s.heap H locs) (Mv : wd_MV RL idx y as.length) (rc : wd_RC k y.cls) (hst : st0 = (as.map (wd_cv G.2.2.1)).reverse ++ .ref (G.2.2.1 k) :: rest) (h8 : (rest.map fun v => v.category).sum ≤ 8) (hdg : decode cL_law pc = .ok (.invokevirtual idx, 3)) (hp : pc + 3 = pc') (hC : wd_C G 40 y (.inr k :: as) μ (fun r u => r = some (.inl x) ∧ u = ν))
    (kk : ∀ (H1 : Heap) (locs1 : List Loc), va_P G.2.1 vwCl (wd_W G ν) H1 → va_D (fun q : Nat => s.heap.size ≤ q) (wd_W G ν) → va_S (fun q : Nat => s.heap.size ≤ q) s.heap H1 locs1 → W p G.1 e room_1 s m #[Value.ref b] below meth c H1 locs1 cells slots Qw (F0 m pc' ls (.int x :: rest))) : W p G.1 e room_1 s m #[Value.ref b] below meth c H locs cells slots Qw (F0 m pc ls st0) := by
  subst hp
  obtain ⟨hx, hb, hml, hown, hts, hKK, hX, hbl, hA0⟩ := C
  obtain ⟨ci, sl, hs1, hcl⟩ := rc
  refine wd_goes (G := G) (Q' := fun r u => r = some (.inl x) ∧ u = ν) (a := (Value.ref (G.2.2.1 k) :: as.map (wd_cv G.2.2.1)).toArray) (rest := rest) (wd_runV ⟨hx, hb, hml, hown, hts⟩ hKK hz hP hD Mv hs1 hcl hst h8 hdg hC (Nat.le_of_ble_eq_true rfl) (Nat.le_of_ble_eq_true rfl) hc hs) hS (fun k hk => hA0 k hk) (fun q h => h) (fun r u H1 locs1 hq hP1 _ _ hS1 => ?_)
  obtain ⟨rfl, rfl⟩ := hq
  exact kk H1 locs1 hP1 (wd_D_any G hD (fun k hk => hA0 k hk)) hS1
set_option maxRecDepth 100000 in
set_option maxHeartbeats 4000000 in
theorem wl_case_type (C : wl_At G p s m c b L xs) (hc : cells ≤ 600000) (hs : slots ≤ 7302250) {P : wd_Mem → Prop} (hop : wd_Ops P) {a : Nat} (ha : a + 4 ≤ L) (hL : L ≤ 2048) {μ : wd_Mem} (hP0 : P μ) {H : Heap} {locs : List Loc} {ls : Array Slot} (hl : lv_has ls 4 [(0, .ref b), (1, .ref (G.2.2.1 0)), (2, .ref (G.2.2.1 31)), (3, .int (nI a))]) (hP : va_P G.2.1 vwCl (wd_W G μ) H) (hD : va_D (fun q : Nat => s.heap.size ≤ q) (wd_W G μ)) (hS : va_S (fun q : Nat => s.heap.size ≤ q) s.heap H locs)
    (kk : ∀ (ν : wd_Mem) (H1 : Heap) (locs1 : List Loc), P ν → va_P G.2.1 vwCl (wd_W G ν) H1 → va_D (fun q : Nat => s.heap.size ≤ q) (wd_W G ν) → va_S (fun q : Nat => s.heap.size ≤ q) s.heap H1 locs1 → W p G.1 e room_1 s m #[Value.ref b] below meth c H1 locs1 cells slots Qw (F0 m 503 ls [])) : W p G.1 e room_1 s m #[Value.ref b] below meth c H locs cells slots Qw (F0 m 108 ls []) := by
  obtain ⟨hx, hb, hml, hown, hts, hKK, hX, hbl, hA0⟩ := id C
  have hbA : ¬ (fun q : Nat => s.heap.size ≤ q) b := Nat.not_le.mpr hbl
  have v1 : vp_in (nI a + (1 : Int32)) L := by rw [show nI a + (1 : Int32) = nI (a + 1) from nI_add a 1]; exact vp_in_nI (by omega) (by omega)
  obtain ⟨r, μ1, μ2, e1, e2, hP2⟩ := hop.1 μ (xs (Int32.toNatClampNeg (nI a + (1 : Int32)))) hP0
  refine lv_aload_n hx hb dL_law_108 rfl (lv_at hl 1 rfl) ?_
  refine lv_aload_n hx hb dL_law_109 rfl (lv_at hl 0 rfl) ?_
  refine lv_iload_n hx hb dL_law_110 rfl (lv_at hl 3 rfl) ?_
  refine lv_iconst (v := (1 : Int32)) hx hb dL_law_111 (by decide) ?_
  refine lv_iadd hx hb dL_law_112 ?_
  refine va_sld hx hb hX hbl hbA hS v1 dL_law_113 ?_
  refine wl_call C hc hs (pc' := 117) (x := r) (ν := μ1) (rest := []) [.inl (xs (Int32.toNatClampNeg (nI a + (1 : Int32))))] hl.1 hP hD hS ml_L_13 rc_0 rfl (Nat.le_of_ble_eq_true rfl) dL_law_114 rfl (c_X7_type G 40 (Nat.le_of_ble_eq_true rfl) e1) (fun H locs hP hD hS => ?_)
  refine lv_aload_n hx hb dL_law_117 rfl (lv_at hl 2 rfl) ?_
  refine lv_aload_n hx hb dL_law_118 rfl (lv_at hl 0 rfl) ?_
  refine lv_iload_n hx hb dL_law_119 rfl (lv_at hl 3 rfl) ?_
  refine lv_iconst (v := (1 : Int32)) hx hb dL_law_120 (by decide) ?_
  refine lv_iadd hx hb dL_law_121 ?_
  refine va_sld hx hb hX hbl hbA hS v1 dL_law_122 ?_
  refine wl_call C hc hs (pc' := 126) (x := r) (ν := μ2) (rest := [.int r]) [.inl (xs (Int32.toNatClampNeg (nI a + (1 : Int32))))] hl.1 hP hD hS ml_L_17 rc_31 rfl (Nat.le_of_ble_eq_true rfl) dL_law_123 rfl (c_X8_type G 40 (Nat.le_of_ble_eq_true rfl) e2) (fun H locs hP hD hS => ?_)
  refine lv_icmp_eq (tgt := 503) hx hb dL_law_126 (by decide) (fun _ => ?_) (fun c9 => absurd rfl c9)
  exact kk μ2 H locs hP2 hP hD hS
set_option maxRecDepth 100000 in
set_option maxHeartbeats 4000000 in
theorem wl_case_clear (C : wl_At G p s m c b L xs) (hc : cells ≤ 600000) (hs : slots ≤ 7302250) {P : wd_Mem → Prop} (hop : wd_Ops P) {a : Nat} (ha : a + 4 ≤ L) (hL : L ≤ 2048) {μ : wd_Mem} (hP0 : P μ) {H : Heap} {locs : List Loc} {ls : Array Slot} (hl : lv_has ls 4 [(0, .ref b), (1, .ref (G.2.2.1 0)), (2, .ref (G.2.2.1 31)), (3, .int (nI a))]) (hP : va_P G.2.1 vwCl (wd_W G μ) H) (hD : va_D (fun q : Nat => s.heap.size ≤ q) (wd_W G μ)) (hS : va_S (fun q : Nat => s.heap.size ≤ q) s.heap H locs)
    (kk : ∀ (ν : wd_Mem) (H1 : Heap) (locs1 : List Loc), P ν → va_P G.2.1 vwCl (wd_W G ν) H1 → va_D (fun q : Nat => s.heap.size ≤ q) (wd_W G ν) → va_S (fun q : Nat => s.heap.size ≤ q) s.heap H1 locs1 → W p G.1 e room_1 s m #[Value.ref b] below meth c H1 locs1 cells slots Qw (F0 m 503 ls [])) : W p G.1 e room_1 s m #[Value.ref b] below meth c H locs cells slots Qw (F0 m 131 ls []) := by
  obtain ⟨hx, hb, hml, hown, hts, hKK, hX, hbl, hA0⟩ := id C
  have hbA : ¬ (fun q : Nat => s.heap.size ≤ q) b := Nat.not_le.mpr hbl
  obtain ⟨r, μ1, μ2, e1, e2, hP2⟩ := hop.2.1 μ  hP0
  refine lv_aload_n hx hb dL_law_131 rfl (lv_at hl 1 rfl) ?_
  refine wl_call C hc hs (pc' := 135) (x := r) (ν := μ1) (rest := []) [] hl.1 hP hD hS ml_L_18 rc_0 rfl (Nat.le_of_ble_eq_true rfl) dL_law_132 rfl (c_X7_clear G 40 (Nat.le_of_ble_eq_true rfl) e1) (fun H locs hP hD hS => ?_)
  refine lv_aload_n hx hb dL_law_135 rfl (lv_at hl 2 rfl) ?_
  refine wl_call C hc hs (pc' := 139) (x := r) (ν := μ2) (rest := [.int r]) [] hl.1 hP hD hS ml_L_22 rc_31 rfl (Nat.le_of_ble_eq_true rfl) dL_law_136 rfl (c_X8_clear G 40 (Nat.le_of_ble_eq_true rfl) e2) (fun H locs hP hD hS => ?_)
  refine lv_icmp_eq (tgt := 503) hx hb dL_law_139 (by decide) (fun _ => ?_) (fun c9 => absurd rfl c9)
  exact kk μ2 H locs hP2 hP hD hS
set_option maxRecDepth 100000 in
set_option maxHeartbeats 4000000 in
theorem wl_case_desk (C : wl_At G p s m c b L xs) (hc : cells ≤ 600000) (hs : slots ≤ 7302250) {P : wd_Mem → Prop} (hop : wd_Ops P) {a : Nat} (ha : a + 4 ≤ L) (hL : L ≤ 2048) {μ : wd_Mem} (hP0 : P μ) {H : Heap} {locs : List Loc} {ls : Array Slot} (hl : lv_has ls 4 [(0, .ref b), (1, .ref (G.2.2.1 0)), (2, .ref (G.2.2.1 31)), (3, .int (nI a))]) (hP : va_P G.2.1 vwCl (wd_W G μ) H) (hD : va_D (fun q : Nat => s.heap.size ≤ q) (wd_W G μ)) (hS : va_S (fun q : Nat => s.heap.size ≤ q) s.heap H locs)
    (kk : ∀ (ν : wd_Mem) (H1 : Heap) (locs1 : List Loc), P ν → va_P G.2.1 vwCl (wd_W G ν) H1 → va_D (fun q : Nat => s.heap.size ≤ q) (wd_W G ν) → va_S (fun q : Nat => s.heap.size ≤ q) s.heap H1 locs1 → W p G.1 e room_1 s m #[Value.ref b] below meth c H1 locs1 cells slots Qw (F0 m 503 ls [])) : W p G.1 e room_1 s m #[Value.ref b] below meth c H locs cells slots Qw (F0 m 144 ls []) := by
  obtain ⟨hx, hb, hml, hown, hts, hKK, hX, hbl, hA0⟩ := id C
  have hbA : ¬ (fun q : Nat => s.heap.size ≤ q) b := Nat.not_le.mpr hbl
  obtain ⟨r, μ1, μ2, e1, e2, hP2⟩ := hop.2.2.1 μ  hP0
  refine lv_aload_n hx hb dL_law_144 rfl (lv_at hl 1 rfl) ?_
  refine wl_call C hc hs (pc' := 148) (x := r) (ν := μ1) (rest := []) [] hl.1 hP hD hS ml_L_23 rc_0 rfl (Nat.le_of_ble_eq_true rfl) dL_law_145 rfl (c_X7_desk G 40 (Nat.le_of_ble_eq_true rfl) e1) (fun H locs hP hD hS => ?_)
  refine lv_aload_n hx hb dL_law_148 rfl (lv_at hl 2 rfl) ?_
  refine wl_call C hc hs (pc' := 152) (x := r) (ν := μ2) (rest := [.int r]) [] hl.1 hP hD hS ml_L_26 rc_31 rfl (Nat.le_of_ble_eq_true rfl) dL_law_149 rfl (c_X8_desk G 40 (Nat.le_of_ble_eq_true rfl) e2) (fun H locs hP hD hS => ?_)
  refine lv_icmp_eq (tgt := 503) hx hb dL_law_152 (by decide) (fun _ => ?_) (fun c9 => absurd rfl c9)
  exact kk μ2 H locs hP2 hP hD hS
set_option maxRecDepth 100000 in
set_option maxHeartbeats 4000000 in
theorem wl_case_task (C : wl_At G p s m c b L xs) (hc : cells ≤ 600000) (hs : slots ≤ 7302250) {P : wd_Mem → Prop} (hop : wd_Ops P) {a : Nat} (ha : a + 4 ≤ L) (hL : L ≤ 2048) {μ : wd_Mem} (hP0 : P μ) {H : Heap} {locs : List Loc} {ls : Array Slot} (hl : lv_has ls 4 [(0, .ref b), (1, .ref (G.2.2.1 0)), (2, .ref (G.2.2.1 31)), (3, .int (nI a))]) (hP : va_P G.2.1 vwCl (wd_W G μ) H) (hD : va_D (fun q : Nat => s.heap.size ≤ q) (wd_W G μ)) (hS : va_S (fun q : Nat => s.heap.size ≤ q) s.heap H locs)
    (kk : ∀ (ν : wd_Mem) (H1 : Heap) (locs1 : List Loc), P ν → va_P G.2.1 vwCl (wd_W G ν) H1 → va_D (fun q : Nat => s.heap.size ≤ q) (wd_W G ν) → va_S (fun q : Nat => s.heap.size ≤ q) s.heap H1 locs1 → W p G.1 e room_1 s m #[Value.ref b] below meth c H1 locs1 cells slots Qw (F0 m 503 ls [])) : W p G.1 e room_1 s m #[Value.ref b] below meth c H locs cells slots Qw (F0 m 157 ls []) := by
  obtain ⟨hx, hb, hml, hown, hts, hKK, hX, hbl, hA0⟩ := id C
  have hbA : ¬ (fun q : Nat => s.heap.size ≤ q) b := Nat.not_le.mpr hbl
  have v1 : vp_in (nI a + (1 : Int32)) L := by rw [show nI a + (1 : Int32) = nI (a + 1) from nI_add a 1]; exact vp_in_nI (by omega) (by omega)
  have v2 : vp_in (nI a + (2 : Int32)) L := by rw [show nI a + (2 : Int32) = nI (a + 2) from nI_add a 2]; exact vp_in_nI (by omega) (by omega)
  obtain ⟨r, μ1, μ2, e1, e2, hP2⟩ := hop.2.2.2.1 μ (xs (Int32.toNatClampNeg (nI a + (1 : Int32)))) (xs (Int32.toNatClampNeg (nI a + (2 : Int32)))) hP0
  refine lv_aload_n hx hb dL_law_157 rfl (lv_at hl 1 rfl) ?_
  refine lv_aload_n hx hb dL_law_158 rfl (lv_at hl 0 rfl) ?_
  refine lv_iload_n hx hb dL_law_159 rfl (lv_at hl 3 rfl) ?_
  refine lv_iconst (v := (1 : Int32)) hx hb dL_law_160 (by decide) ?_
  refine lv_iadd hx hb dL_law_161 ?_
  refine va_sld hx hb hX hbl hbA hS v1 dL_law_162 ?_
  refine lv_aload_n hx hb dL_law_163 rfl (lv_at hl 0 rfl) ?_
  refine lv_iload_n hx hb dL_law_164 rfl (lv_at hl 3 rfl) ?_
  refine lv_iconst (v := (2 : Int32)) hx hb dL_law_165 (by decide) ?_
  refine lv_iadd hx hb dL_law_166 ?_
  refine va_sld hx hb hX hbl hbA hS v2 dL_law_167 ?_
  refine wl_call C hc hs (pc' := 171) (x := r) (ν := μ1) (rest := []) [.inl (xs (Int32.toNatClampNeg (nI a + (1 : Int32)))), .inl (xs (Int32.toNatClampNeg (nI a + (2 : Int32))))] hl.1 hP hD hS ml_L_27 rc_0 rfl (Nat.le_of_ble_eq_true rfl) dL_law_168 rfl (c_X7_task G 40 (Nat.le_of_ble_eq_true rfl) e1) (fun H locs hP hD hS => ?_)
  refine lv_aload_n hx hb dL_law_171 rfl (lv_at hl 2 rfl) ?_
  refine lv_aload_n hx hb dL_law_172 rfl (lv_at hl 0 rfl) ?_
  refine lv_iload_n hx hb dL_law_173 rfl (lv_at hl 3 rfl) ?_
  refine lv_iconst (v := (1 : Int32)) hx hb dL_law_174 (by decide) ?_
  refine lv_iadd hx hb dL_law_175 ?_
  refine va_sld hx hb hX hbl hbA hS v1 dL_law_176 ?_
  refine lv_aload_n hx hb dL_law_177 rfl (lv_at hl 0 rfl) ?_
  refine lv_iload_n hx hb dL_law_178 rfl (lv_at hl 3 rfl) ?_
  refine lv_iconst (v := (2 : Int32)) hx hb dL_law_179 (by decide) ?_
  refine lv_iadd hx hb dL_law_180 ?_
  refine va_sld hx hb hX hbl hbA hS v2 dL_law_181 ?_
  refine wl_call C hc hs (pc' := 185) (x := r) (ν := μ2) (rest := [.int r]) [.inl (xs (Int32.toNatClampNeg (nI a + (1 : Int32)))), .inl (xs (Int32.toNatClampNeg (nI a + (2 : Int32))))] hl.1 hP hD hS ml_L_31 rc_31 rfl (Nat.le_of_ble_eq_true rfl) dL_law_182 rfl (c_X8_task G 40 (Nat.le_of_ble_eq_true rfl) e2) (fun H locs hP hD hS => ?_)
  refine lv_icmp_eq (tgt := 503) hx hb dL_law_185 (by decide) (fun _ => ?_) (fun c9 => absurd rfl c9)
  exact kk μ2 H locs hP2 hP hD hS
set_option maxRecDepth 100000 in
set_option maxHeartbeats 4000000 in
theorem wl_case_why (C : wl_At G p s m c b L xs) (hc : cells ≤ 600000) (hs : slots ≤ 7302250) {P : wd_Mem → Prop} (hop : wd_Ops P) {a : Nat} (ha : a + 4 ≤ L) (hL : L ≤ 2048) {μ : wd_Mem} (hP0 : P μ) {H : Heap} {locs : List Loc} {ls : Array Slot} (hl : lv_has ls 4 [(0, .ref b), (1, .ref (G.2.2.1 0)), (2, .ref (G.2.2.1 31)), (3, .int (nI a))]) (hP : va_P G.2.1 vwCl (wd_W G μ) H) (hD : va_D (fun q : Nat => s.heap.size ≤ q) (wd_W G μ)) (hS : va_S (fun q : Nat => s.heap.size ≤ q) s.heap H locs)
    (kk : ∀ (ν : wd_Mem) (H1 : Heap) (locs1 : List Loc), P ν → va_P G.2.1 vwCl (wd_W G ν) H1 → va_D (fun q : Nat => s.heap.size ≤ q) (wd_W G ν) → va_S (fun q : Nat => s.heap.size ≤ q) s.heap H1 locs1 → W p G.1 e room_1 s m #[Value.ref b] below meth c H1 locs1 cells slots Qw (F0 m 503 ls [])) : W p G.1 e room_1 s m #[Value.ref b] below meth c H locs cells slots Qw (F0 m 190 ls []) := by
  obtain ⟨hx, hb, hml, hown, hts, hKK, hX, hbl, hA0⟩ := id C
  have hbA : ¬ (fun q : Nat => s.heap.size ≤ q) b := Nat.not_le.mpr hbl
  have v1 : vp_in (nI a + (1 : Int32)) L := by rw [show nI a + (1 : Int32) = nI (a + 1) from nI_add a 1]; exact vp_in_nI (by omega) (by omega)
  have v2 : vp_in (nI a + (2 : Int32)) L := by rw [show nI a + (2 : Int32) = nI (a + 2) from nI_add a 2]; exact vp_in_nI (by omega) (by omega)
  have v3 : vp_in (nI a + (3 : Int32)) L := by rw [show nI a + (3 : Int32) = nI (a + 3) from nI_add a 3]; exact vp_in_nI (by omega) (by omega)
  obtain ⟨r, e1, e2⟩ := hop.2.2.2.2.1 μ (xs (Int32.toNatClampNeg (nI a + (1 : Int32)))) (xs (Int32.toNatClampNeg (nI a + (2 : Int32)))) (xs (Int32.toNatClampNeg (nI a + (3 : Int32)))) hP0
  refine lv_aload_n hx hb dL_law_190 rfl (lv_at hl 1 rfl) ?_
  refine lv_aload_n hx hb dL_law_191 rfl (lv_at hl 0 rfl) ?_
  refine lv_iload_n hx hb dL_law_192 rfl (lv_at hl 3 rfl) ?_
  refine lv_iconst (v := (1 : Int32)) hx hb dL_law_193 (by decide) ?_
  refine lv_iadd hx hb dL_law_194 ?_
  refine va_sld hx hb hX hbl hbA hS v1 dL_law_195 ?_
  refine lv_aload_n hx hb dL_law_196 rfl (lv_at hl 0 rfl) ?_
  refine lv_iload_n hx hb dL_law_197 rfl (lv_at hl 3 rfl) ?_
  refine lv_iconst (v := (2 : Int32)) hx hb dL_law_198 (by decide) ?_
  refine lv_iadd hx hb dL_law_199 ?_
  refine va_sld hx hb hX hbl hbA hS v2 dL_law_200 ?_
  refine lv_aload_n hx hb dL_law_201 rfl (lv_at hl 0 rfl) ?_
  refine lv_iload_n hx hb dL_law_202 rfl (lv_at hl 3 rfl) ?_
  refine lv_iconst (v := (3 : Int32)) hx hb dL_law_203 (by decide) ?_
  refine lv_iadd hx hb dL_law_204 ?_
  refine va_sld hx hb hX hbl hbA hS v3 dL_law_205 ?_
  refine wl_call C hc hs (pc' := 209) (x := r) (ν := μ) (rest := []) [.inl (xs (Int32.toNatClampNeg (nI a + (1 : Int32)))), .inl (xs (Int32.toNatClampNeg (nI a + (2 : Int32)))), .inl (xs (Int32.toNatClampNeg (nI a + (3 : Int32))))] hl.1 hP hD hS ml_L_32 rc_0 rfl (Nat.le_of_ble_eq_true rfl) dL_law_206 rfl (c_X7_why G 40 (Nat.le_of_ble_eq_true rfl) e1) (fun H locs hP hD hS => ?_)
  refine lv_aload_n hx hb dL_law_209 rfl (lv_at hl 2 rfl) ?_
  refine lv_aload_n hx hb dL_law_210 rfl (lv_at hl 0 rfl) ?_
  refine lv_iload_n hx hb dL_law_211 rfl (lv_at hl 3 rfl) ?_
  refine lv_iconst (v := (1 : Int32)) hx hb dL_law_212 (by decide) ?_
  refine lv_iadd hx hb dL_law_213 ?_
  refine va_sld hx hb hX hbl hbA hS v1 dL_law_214 ?_
  refine lv_aload_n hx hb dL_law_215 rfl (lv_at hl 0 rfl) ?_
  refine lv_iload_n hx hb dL_law_216 rfl (lv_at hl 3 rfl) ?_
  refine lv_iconst (v := (2 : Int32)) hx hb dL_law_217 (by decide) ?_
  refine lv_iadd hx hb dL_law_218 ?_
  refine va_sld hx hb hX hbl hbA hS v2 dL_law_219 ?_
  refine lv_aload_n hx hb dL_law_220 rfl (lv_at hl 0 rfl) ?_
  refine lv_iload_n hx hb dL_law_221 rfl (lv_at hl 3 rfl) ?_
  refine lv_iconst (v := (3 : Int32)) hx hb dL_law_222 (by decide) ?_
  refine lv_iadd hx hb dL_law_223 ?_
  refine va_sld hx hb hX hbl hbA hS v3 dL_law_224 ?_
  refine wl_call C hc hs (pc' := 228) (x := r) (ν := μ) (rest := [.int r]) [.inl (xs (Int32.toNatClampNeg (nI a + (1 : Int32)))), .inl (xs (Int32.toNatClampNeg (nI a + (2 : Int32)))), .inl (xs (Int32.toNatClampNeg (nI a + (3 : Int32))))] hl.1 hP hD hS ml_L_36 rc_31 rfl (Nat.le_of_ble_eq_true rfl) dL_law_225 rfl (c_X8_why G 40 (Nat.le_of_ble_eq_true rfl) e2) (fun H locs hP hD hS => ?_)
  refine lv_icmp_eq (tgt := 503) hx hb dL_law_228 (by decide) (fun _ => ?_) (fun c9 => absurd rfl c9)
  exact kk μ H locs hP0 hP hD hS
set_option maxRecDepth 100000 in
set_option maxHeartbeats 4000000 in
theorem wl_case_must (C : wl_At G p s m c b L xs) (hc : cells ≤ 600000) (hs : slots ≤ 7302250) {P : wd_Mem → Prop} (hop : wd_Ops P) {a : Nat} (ha : a + 4 ≤ L) (hL : L ≤ 2048) {μ : wd_Mem} (hP0 : P μ) {H : Heap} {locs : List Loc} {ls : Array Slot} (hl : lv_has ls 4 [(0, .ref b), (1, .ref (G.2.2.1 0)), (2, .ref (G.2.2.1 31)), (3, .int (nI a))]) (hP : va_P G.2.1 vwCl (wd_W G μ) H) (hD : va_D (fun q : Nat => s.heap.size ≤ q) (wd_W G μ)) (hS : va_S (fun q : Nat => s.heap.size ≤ q) s.heap H locs)
    (kk : ∀ (ν : wd_Mem) (H1 : Heap) (locs1 : List Loc), P ν → va_P G.2.1 vwCl (wd_W G ν) H1 → va_D (fun q : Nat => s.heap.size ≤ q) (wd_W G ν) → va_S (fun q : Nat => s.heap.size ≤ q) s.heap H1 locs1 → W p G.1 e room_1 s m #[Value.ref b] below meth c H1 locs1 cells slots Qw (F0 m 503 ls [])) : W p G.1 e room_1 s m #[Value.ref b] below meth c H locs cells slots Qw (F0 m 233 ls []) := by
  obtain ⟨hx, hb, hml, hown, hts, hKK, hX, hbl, hA0⟩ := id C
  have hbA : ¬ (fun q : Nat => s.heap.size ≤ q) b := Nat.not_le.mpr hbl
  have v1 : vp_in (nI a + (1 : Int32)) L := by rw [show nI a + (1 : Int32) = nI (a + 1) from nI_add a 1]; exact vp_in_nI (by omega) (by omega)
  obtain ⟨r, μ1, μ2, e1, e2, hP2⟩ := hop.2.2.2.2.2.1 μ (xs (Int32.toNatClampNeg (nI a + (1 : Int32)))) hP0
  refine lv_aload_n hx hb dL_law_233 rfl (lv_at hl 1 rfl) ?_
  refine lv_aload_n hx hb dL_law_234 rfl (lv_at hl 0 rfl) ?_
  refine lv_iload_n hx hb dL_law_235 rfl (lv_at hl 3 rfl) ?_
  refine lv_iconst (v := (1 : Int32)) hx hb dL_law_236 (by decide) ?_
  refine lv_iadd hx hb dL_law_237 ?_
  refine va_sld hx hb hX hbl hbA hS v1 dL_law_238 ?_
  refine wl_call C hc hs (pc' := 242) (x := r) (ν := μ1) (rest := []) [.inl (xs (Int32.toNatClampNeg (nI a + (1 : Int32))))] hl.1 hP hD hS ml_L_37 rc_0 rfl (Nat.le_of_ble_eq_true rfl) dL_law_239 rfl (c_X7_must G 40 (Nat.le_of_ble_eq_true rfl) e1) (fun H locs hP hD hS => ?_)
  refine lv_aload_n hx hb dL_law_242 rfl (lv_at hl 2 rfl) ?_
  refine lv_aload_n hx hb dL_law_243 rfl (lv_at hl 0 rfl) ?_
  refine lv_iload_n hx hb dL_law_244 rfl (lv_at hl 3 rfl) ?_
  refine lv_iconst (v := (1 : Int32)) hx hb dL_law_245 (by decide) ?_
  refine lv_iadd hx hb dL_law_246 ?_
  refine va_sld hx hb hX hbl hbA hS v1 dL_law_247 ?_
  refine wl_call C hc hs (pc' := 251) (x := r) (ν := μ2) (rest := [.int r]) [.inl (xs (Int32.toNatClampNeg (nI a + (1 : Int32))))] hl.1 hP hD hS ml_L_40 rc_31 rfl (Nat.le_of_ble_eq_true rfl) dL_law_248 rfl (c_X8_must G 40 (Nat.le_of_ble_eq_true rfl) e2) (fun H locs hP hD hS => ?_)
  refine lv_icmp_eq (tgt := 503) hx hb dL_law_251 (by decide) (fun _ => ?_) (fun c9 => absurd rfl c9)
  exact kk μ2 H locs hP2 hP hD hS
set_option maxRecDepth 100000 in
set_option maxHeartbeats 4000000 in
theorem wl_case_tightens (C : wl_At G p s m c b L xs) (hc : cells ≤ 600000) (hs : slots ≤ 7302250) {P : wd_Mem → Prop} (hop : wd_Ops P) {a : Nat} (ha : a + 4 ≤ L) (hL : L ≤ 2048) {μ : wd_Mem} (hP0 : P μ) {H : Heap} {locs : List Loc} {ls : Array Slot} (hl : lv_has ls 4 [(0, .ref b), (1, .ref (G.2.2.1 0)), (2, .ref (G.2.2.1 31)), (3, .int (nI a))]) (hP : va_P G.2.1 vwCl (wd_W G μ) H) (hD : va_D (fun q : Nat => s.heap.size ≤ q) (wd_W G μ)) (hS : va_S (fun q : Nat => s.heap.size ≤ q) s.heap H locs)
    (kk : ∀ (ν : wd_Mem) (H1 : Heap) (locs1 : List Loc), P ν → va_P G.2.1 vwCl (wd_W G ν) H1 → va_D (fun q : Nat => s.heap.size ≤ q) (wd_W G ν) → va_S (fun q : Nat => s.heap.size ≤ q) s.heap H1 locs1 → W p G.1 e room_1 s m #[Value.ref b] below meth c H1 locs1 cells slots Qw (F0 m 503 ls [])) : W p G.1 e room_1 s m #[Value.ref b] below meth c H locs cells slots Qw (F0 m 256 ls []) := by
  obtain ⟨hx, hb, hml, hown, hts, hKK, hX, hbl, hA0⟩ := id C
  have hbA : ¬ (fun q : Nat => s.heap.size ≤ q) b := Nat.not_le.mpr hbl
  have v1 : vp_in (nI a + (1 : Int32)) L := by rw [show nI a + (1 : Int32) = nI (a + 1) from nI_add a 1]; exact vp_in_nI (by omega) (by omega)
  obtain ⟨r, μ1, μ2, e1, e2, hP2⟩ := hop.2.2.2.2.2.2.1 μ (xs (Int32.toNatClampNeg (nI a + (1 : Int32)))) hP0
  refine lv_aload_n hx hb dL_law_256 rfl (lv_at hl 1 rfl) ?_
  refine lv_aload_n hx hb dL_law_257 rfl (lv_at hl 0 rfl) ?_
  refine lv_iload_n hx hb dL_law_258 rfl (lv_at hl 3 rfl) ?_
  refine lv_iconst (v := (1 : Int32)) hx hb dL_law_259 (by decide) ?_
  refine lv_iadd hx hb dL_law_260 ?_
  refine va_sld hx hb hX hbl hbA hS v1 dL_law_261 ?_
  refine wl_call C hc hs (pc' := 265) (x := r) (ν := μ1) (rest := []) [.inl (xs (Int32.toNatClampNeg (nI a + (1 : Int32))))] hl.1 hP hD hS ml_L_41 rc_0 rfl (Nat.le_of_ble_eq_true rfl) dL_law_262 rfl (c_X7_tightens G 40 (Nat.le_of_ble_eq_true rfl) e1) (fun H locs hP hD hS => ?_)
  refine lv_aload_n hx hb dL_law_265 rfl (lv_at hl 2 rfl) ?_
  refine lv_aload_n hx hb dL_law_266 rfl (lv_at hl 0 rfl) ?_
  refine lv_iload_n hx hb dL_law_267 rfl (lv_at hl 3 rfl) ?_
  refine lv_iconst (v := (1 : Int32)) hx hb dL_law_268 (by decide) ?_
  refine lv_iadd hx hb dL_law_269 ?_
  refine va_sld hx hb hX hbl hbA hS v1 dL_law_270 ?_
  refine wl_call C hc hs (pc' := 274) (x := r) (ν := μ2) (rest := [.int r]) [.inl (xs (Int32.toNatClampNeg (nI a + (1 : Int32))))] hl.1 hP hD hS ml_L_44 rc_31 rfl (Nat.le_of_ble_eq_true rfl) dL_law_271 rfl (c_X8_tightens G 40 (Nat.le_of_ble_eq_true rfl) e2) (fun H locs hP hD hS => ?_)
  refine lv_icmp_eq (tgt := 503) hx hb dL_law_274 (by decide) (fun _ => ?_) (fun c9 => absurd rfl c9)
  exact kk μ2 H locs hP2 hP hD hS
set_option maxRecDepth 100000 in
set_option maxHeartbeats 4000000 in
theorem wl_case_puts (C : wl_At G p s m c b L xs) (hc : cells ≤ 600000) (hs : slots ≤ 7302250) {P : wd_Mem → Prop} (hop : wd_Ops P) {a : Nat} (ha : a + 4 ≤ L) (hL : L ≤ 2048) {μ : wd_Mem} (hP0 : P μ) {H : Heap} {locs : List Loc} {ls : Array Slot} (hl : lv_has ls 4 [(0, .ref b), (1, .ref (G.2.2.1 0)), (2, .ref (G.2.2.1 31)), (3, .int (nI a))]) (hP : va_P G.2.1 vwCl (wd_W G μ) H) (hD : va_D (fun q : Nat => s.heap.size ≤ q) (wd_W G μ)) (hS : va_S (fun q : Nat => s.heap.size ≤ q) s.heap H locs)
    (kk : ∀ (ν : wd_Mem) (H1 : Heap) (locs1 : List Loc), P ν → va_P G.2.1 vwCl (wd_W G ν) H1 → va_D (fun q : Nat => s.heap.size ≤ q) (wd_W G ν) → va_S (fun q : Nat => s.heap.size ≤ q) s.heap H1 locs1 → W p G.1 e room_1 s m #[Value.ref b] below meth c H1 locs1 cells slots Qw (F0 m 503 ls [])) : W p G.1 e room_1 s m #[Value.ref b] below meth c H locs cells slots Qw (F0 m 279 ls []) := by
  obtain ⟨hx, hb, hml, hown, hts, hKK, hX, hbl, hA0⟩ := id C
  have hbA : ¬ (fun q : Nat => s.heap.size ≤ q) b := Nat.not_le.mpr hbl
  have v1 : vp_in (nI a + (1 : Int32)) L := by rw [show nI a + (1 : Int32) = nI (a + 1) from nI_add a 1]; exact vp_in_nI (by omega) (by omega)
  have v2 : vp_in (nI a + (2 : Int32)) L := by rw [show nI a + (2 : Int32) = nI (a + 2) from nI_add a 2]; exact vp_in_nI (by omega) (by omega)
  have v3 : vp_in (nI a + (3 : Int32)) L := by rw [show nI a + (3 : Int32) = nI (a + 3) from nI_add a 3]; exact vp_in_nI (by omega) (by omega)
  obtain ⟨r, μ1, μ2, e1, e2, hP2⟩ := hop.2.2.2.2.2.2.2.1 μ (xs (Int32.toNatClampNeg (nI a + (1 : Int32)))) (xs (Int32.toNatClampNeg (nI a + (2 : Int32)))) (xs (Int32.toNatClampNeg (nI a + (3 : Int32)))) hP0
  refine lv_aload_n hx hb dL_law_279 rfl (lv_at hl 1 rfl) ?_
  refine lv_aload_n hx hb dL_law_280 rfl (lv_at hl 0 rfl) ?_
  refine lv_iload_n hx hb dL_law_281 rfl (lv_at hl 3 rfl) ?_
  refine lv_iconst (v := (1 : Int32)) hx hb dL_law_282 (by decide) ?_
  refine lv_iadd hx hb dL_law_283 ?_
  refine va_sld hx hb hX hbl hbA hS v1 dL_law_284 ?_
  refine lv_aload_n hx hb dL_law_285 rfl (lv_at hl 0 rfl) ?_
  refine lv_iload_n hx hb dL_law_286 rfl (lv_at hl 3 rfl) ?_
  refine lv_iconst (v := (2 : Int32)) hx hb dL_law_287 (by decide) ?_
  refine lv_iadd hx hb dL_law_288 ?_
  refine va_sld hx hb hX hbl hbA hS v2 dL_law_289 ?_
  refine lv_aload_n hx hb dL_law_290 rfl (lv_at hl 0 rfl) ?_
  refine lv_iload_n hx hb dL_law_291 rfl (lv_at hl 3 rfl) ?_
  refine lv_iconst (v := (3 : Int32)) hx hb dL_law_292 (by decide) ?_
  refine lv_iadd hx hb dL_law_293 ?_
  refine va_sld hx hb hX hbl hbA hS v3 dL_law_294 ?_
  refine wl_call C hc hs (pc' := 298) (x := r) (ν := μ1) (rest := []) [.inl (xs (Int32.toNatClampNeg (nI a + (1 : Int32)))), .inl (xs (Int32.toNatClampNeg (nI a + (2 : Int32)))), .inl (xs (Int32.toNatClampNeg (nI a + (3 : Int32))))] hl.1 hP hD hS ml_L_45 rc_0 rfl (Nat.le_of_ble_eq_true rfl) dL_law_295 rfl (c_X7_puts G 40 (Nat.le_of_ble_eq_true rfl) e1) (fun H locs hP hD hS => ?_)
  refine lv_aload_n hx hb dL_law_298 rfl (lv_at hl 2 rfl) ?_
  refine lv_aload_n hx hb dL_law_299 rfl (lv_at hl 0 rfl) ?_
  refine lv_iload_n hx hb dL_law_300 rfl (lv_at hl 3 rfl) ?_
  refine lv_iconst (v := (1 : Int32)) hx hb dL_law_301 (by decide) ?_
  refine lv_iadd hx hb dL_law_302 ?_
  refine va_sld hx hb hX hbl hbA hS v1 dL_law_303 ?_
  refine lv_aload_n hx hb dL_law_304 rfl (lv_at hl 0 rfl) ?_
  refine lv_iload_n hx hb dL_law_305 rfl (lv_at hl 3 rfl) ?_
  refine lv_iconst (v := (2 : Int32)) hx hb dL_law_306 (by decide) ?_
  refine lv_iadd hx hb dL_law_307 ?_
  refine va_sld hx hb hX hbl hbA hS v2 dL_law_308 ?_
  refine lv_aload_n hx hb dL_law_309 rfl (lv_at hl 0 rfl) ?_
  refine lv_iload_n hx hb dL_law_310 rfl (lv_at hl 3 rfl) ?_
  refine lv_iconst (v := (3 : Int32)) hx hb dL_law_311 (by decide) ?_
  refine lv_iadd hx hb dL_law_312 ?_
  refine va_sld hx hb hX hbl hbA hS v3 dL_law_313 ?_
  refine wl_call C hc hs (pc' := 317) (x := r) (ν := μ2) (rest := [.int r]) [.inl (xs (Int32.toNatClampNeg (nI a + (1 : Int32)))), .inl (xs (Int32.toNatClampNeg (nI a + (2 : Int32)))), .inl (xs (Int32.toNatClampNeg (nI a + (3 : Int32))))] hl.1 hP hD hS ml_L_48 rc_31 rfl (Nat.le_of_ble_eq_true rfl) dL_law_314 rfl (c_X8_puts G 40 (Nat.le_of_ble_eq_true rfl) e2) (fun H locs hP hD hS => ?_)
  refine lv_icmp_eq (tgt := 503) hx hb dL_law_317 (by decide) (fun _ => ?_) (fun c9 => absurd rfl c9)
  exact kk μ2 H locs hP2 hP hD hS
set_option maxRecDepth 100000 in
set_option maxHeartbeats 4000000 in
theorem wl_case_undo (C : wl_At G p s m c b L xs) (hc : cells ≤ 600000) (hs : slots ≤ 7302250) {P : wd_Mem → Prop} (hop : wd_Ops P) {a : Nat} (ha : a + 4 ≤ L) (hL : L ≤ 2048) {μ : wd_Mem} (hP0 : P μ) {H : Heap} {locs : List Loc} {ls : Array Slot} (hl : lv_has ls 4 [(0, .ref b), (1, .ref (G.2.2.1 0)), (2, .ref (G.2.2.1 31)), (3, .int (nI a))]) (hP : va_P G.2.1 vwCl (wd_W G μ) H) (hD : va_D (fun q : Nat => s.heap.size ≤ q) (wd_W G μ)) (hS : va_S (fun q : Nat => s.heap.size ≤ q) s.heap H locs)
    (kk : ∀ (ν : wd_Mem) (H1 : Heap) (locs1 : List Loc), P ν → va_P G.2.1 vwCl (wd_W G ν) H1 → va_D (fun q : Nat => s.heap.size ≤ q) (wd_W G ν) → va_S (fun q : Nat => s.heap.size ≤ q) s.heap H1 locs1 → W p G.1 e room_1 s m #[Value.ref b] below meth c H1 locs1 cells slots Qw (F0 m 503 ls [])) : W p G.1 e room_1 s m #[Value.ref b] below meth c H locs cells slots Qw (F0 m 322 ls []) := by
  obtain ⟨hx, hb, hml, hown, hts, hKK, hX, hbl, hA0⟩ := id C
  have hbA : ¬ (fun q : Nat => s.heap.size ≤ q) b := Nat.not_le.mpr hbl
  obtain ⟨r, μ1, μ2, e1, e2, hP2⟩ := hop.2.2.2.2.2.2.2.2.1 μ  hP0
  refine lv_aload_n hx hb dL_law_322 rfl (lv_at hl 1 rfl) ?_
  refine wl_call C hc hs (pc' := 326) (x := r) (ν := μ1) (rest := []) [] hl.1 hP hD hS ml_L_49 rc_0 rfl (Nat.le_of_ble_eq_true rfl) dL_law_323 rfl (c_X7_undo G 40 (Nat.le_of_ble_eq_true rfl) e1) (fun H locs hP hD hS => ?_)
  refine lv_aload_n hx hb dL_law_326 rfl (lv_at hl 2 rfl) ?_
  refine wl_call C hc hs (pc' := 330) (x := r) (ν := μ2) (rest := [.int r]) [] hl.1 hP hD hS ml_L_52 rc_31 rfl (Nat.le_of_ble_eq_true rfl) dL_law_327 rfl (c_X8_undo G 40 (Nat.le_of_ble_eq_true rfl) e2) (fun H locs hP hD hS => ?_)
  refine lv_icmp_eq (tgt := 503) hx hb dL_law_330 (by decide) (fun _ => ?_) (fun c9 => absurd rfl c9)
  exact kk μ2 H locs hP2 hP hD hS
set_option maxRecDepth 100000 in
set_option maxHeartbeats 4000000 in
theorem wl_case_wrap (C : wl_At G p s m c b L xs) (hc : cells ≤ 600000) (hs : slots ≤ 7302250) {P : wd_Mem → Prop} (hop : wd_Ops P) {a : Nat} (ha : a + 4 ≤ L) (hL : L ≤ 2048) {μ : wd_Mem} (hP0 : P μ) {H : Heap} {locs : List Loc} {ls : Array Slot} (hl : lv_has ls 4 [(0, .ref b), (1, .ref (G.2.2.1 0)), (2, .ref (G.2.2.1 31)), (3, .int (nI a))]) (hP : va_P G.2.1 vwCl (wd_W G μ) H) (hD : va_D (fun q : Nat => s.heap.size ≤ q) (wd_W G μ)) (hS : va_S (fun q : Nat => s.heap.size ≤ q) s.heap H locs)
    (kk : ∀ (ν : wd_Mem) (H1 : Heap) (locs1 : List Loc), P ν → va_P G.2.1 vwCl (wd_W G ν) H1 → va_D (fun q : Nat => s.heap.size ≤ q) (wd_W G ν) → va_S (fun q : Nat => s.heap.size ≤ q) s.heap H1 locs1 → W p G.1 e room_1 s m #[Value.ref b] below meth c H1 locs1 cells slots Qw (F0 m 503 ls [])) : W p G.1 e room_1 s m #[Value.ref b] below meth c H locs cells slots Qw (F0 m 335 ls []) := by
  obtain ⟨hx, hb, hml, hown, hts, hKK, hX, hbl, hA0⟩ := id C
  have hbA : ¬ (fun q : Nat => s.heap.size ≤ q) b := Nat.not_le.mpr hbl
  have v1 : vp_in (nI a + (1 : Int32)) L := by rw [show nI a + (1 : Int32) = nI (a + 1) from nI_add a 1]; exact vp_in_nI (by omega) (by omega)
  obtain ⟨r, μ1, μ2, e1, e2, hP2⟩ := hop.2.2.2.2.2.2.2.2.2.1 μ (xs (Int32.toNatClampNeg (nI a + (1 : Int32)))) hP0
  refine lv_aload_n hx hb dL_law_335 rfl (lv_at hl 1 rfl) ?_
  refine lv_aload_n hx hb dL_law_336 rfl (lv_at hl 0 rfl) ?_
  refine lv_iload_n hx hb dL_law_337 rfl (lv_at hl 3 rfl) ?_
  refine lv_iconst (v := (1 : Int32)) hx hb dL_law_338 (by decide) ?_
  refine lv_iadd hx hb dL_law_339 ?_
  refine va_sld hx hb hX hbl hbA hS v1 dL_law_340 ?_
  refine wl_call C hc hs (pc' := 344) (x := r) (ν := μ1) (rest := []) [.inl (xs (Int32.toNatClampNeg (nI a + (1 : Int32))))] hl.1 hP hD hS ml_L_53 rc_0 rfl (Nat.le_of_ble_eq_true rfl) dL_law_341 rfl (c_X7_wrap G 40 (Nat.le_of_ble_eq_true rfl) e1) (fun H locs hP hD hS => ?_)
  refine lv_aload_n hx hb dL_law_344 rfl (lv_at hl 2 rfl) ?_
  refine lv_aload_n hx hb dL_law_345 rfl (lv_at hl 0 rfl) ?_
  refine lv_iload_n hx hb dL_law_346 rfl (lv_at hl 3 rfl) ?_
  refine lv_iconst (v := (1 : Int32)) hx hb dL_law_347 (by decide) ?_
  refine lv_iadd hx hb dL_law_348 ?_
  refine va_sld hx hb hX hbl hbA hS v1 dL_law_349 ?_
  refine wl_call C hc hs (pc' := 353) (x := r) (ν := μ2) (rest := [.int r]) [.inl (xs (Int32.toNatClampNeg (nI a + (1 : Int32))))] hl.1 hP hD hS ml_L_56 rc_31 rfl (Nat.le_of_ble_eq_true rfl) dL_law_350 rfl (c_X8_wrap G 40 (Nat.le_of_ble_eq_true rfl) e2) (fun H locs hP hD hS => ?_)
  refine lv_icmp_eq (tgt := 503) hx hb dL_law_353 (by decide) (fun _ => ?_) (fun c9 => absurd rfl c9)
  exact kk μ2 H locs hP2 hP hD hS
set_option maxRecDepth 100000 in
set_option maxHeartbeats 4000000 in
theorem wl_case_grey (C : wl_At G p s m c b L xs) (hc : cells ≤ 600000) (hs : slots ≤ 7302250) {P : wd_Mem → Prop} (hop : wd_Ops P) {a : Nat} (ha : a + 4 ≤ L) (hL : L ≤ 2048) {μ : wd_Mem} (hP0 : P μ) {H : Heap} {locs : List Loc} {ls : Array Slot} (hl : lv_has ls 4 [(0, .ref b), (1, .ref (G.2.2.1 0)), (2, .ref (G.2.2.1 31)), (3, .int (nI a))]) (hP : va_P G.2.1 vwCl (wd_W G μ) H) (hD : va_D (fun q : Nat => s.heap.size ≤ q) (wd_W G μ)) (hS : va_S (fun q : Nat => s.heap.size ≤ q) s.heap H locs)
    (kk : ∀ (ν : wd_Mem) (H1 : Heap) (locs1 : List Loc), P ν → va_P G.2.1 vwCl (wd_W G ν) H1 → va_D (fun q : Nat => s.heap.size ≤ q) (wd_W G ν) → va_S (fun q : Nat => s.heap.size ≤ q) s.heap H1 locs1 → W p G.1 e room_1 s m #[Value.ref b] below meth c H1 locs1 cells slots Qw (F0 m 503 ls [])) : W p G.1 e room_1 s m #[Value.ref b] below meth c H locs cells slots Qw (F0 m 358 ls []) := by
  obtain ⟨hx, hb, hml, hown, hts, hKK, hX, hbl, hA0⟩ := id C
  have hbA : ¬ (fun q : Nat => s.heap.size ≤ q) b := Nat.not_le.mpr hbl
  have v1 : vp_in (nI a + (1 : Int32)) L := by rw [show nI a + (1 : Int32) = nI (a + 1) from nI_add a 1]; exact vp_in_nI (by omega) (by omega)
  have v2 : vp_in (nI a + (2 : Int32)) L := by rw [show nI a + (2 : Int32) = nI (a + 2) from nI_add a 2]; exact vp_in_nI (by omega) (by omega)
  have v3 : vp_in (nI a + (3 : Int32)) L := by rw [show nI a + (3 : Int32) = nI (a + 3) from nI_add a 3]; exact vp_in_nI (by omega) (by omega)
  obtain ⟨r, μ1, μ2, e1, e2, hP2⟩ := hop.2.2.2.2.2.2.2.2.2.2.1 μ (xs (Int32.toNatClampNeg (nI a + (1 : Int32)))) (xs (Int32.toNatClampNeg (nI a + (2 : Int32)))) (xs (Int32.toNatClampNeg (nI a + (3 : Int32)))) hP0
  refine lv_aload_n hx hb dL_law_358 rfl (lv_at hl 1 rfl) ?_
  refine lv_aload_n hx hb dL_law_359 rfl (lv_at hl 0 rfl) ?_
  refine lv_iload_n hx hb dL_law_360 rfl (lv_at hl 3 rfl) ?_
  refine lv_iconst (v := (1 : Int32)) hx hb dL_law_361 (by decide) ?_
  refine lv_iadd hx hb dL_law_362 ?_
  refine va_sld hx hb hX hbl hbA hS v1 dL_law_363 ?_
  refine lv_aload_n hx hb dL_law_364 rfl (lv_at hl 0 rfl) ?_
  refine lv_iload_n hx hb dL_law_365 rfl (lv_at hl 3 rfl) ?_
  refine lv_iconst (v := (2 : Int32)) hx hb dL_law_366 (by decide) ?_
  refine lv_iadd hx hb dL_law_367 ?_
  refine va_sld hx hb hX hbl hbA hS v2 dL_law_368 ?_
  refine lv_aload_n hx hb dL_law_369 rfl (lv_at hl 0 rfl) ?_
  refine lv_iload_n hx hb dL_law_370 rfl (lv_at hl 3 rfl) ?_
  refine lv_iconst (v := (3 : Int32)) hx hb dL_law_371 (by decide) ?_
  refine lv_iadd hx hb dL_law_372 ?_
  refine va_sld hx hb hX hbl hbA hS v3 dL_law_373 ?_
  refine wl_call C hc hs (pc' := 377) (x := r) (ν := μ1) (rest := []) [.inl (xs (Int32.toNatClampNeg (nI a + (1 : Int32)))), .inl (xs (Int32.toNatClampNeg (nI a + (2 : Int32)))), .inl (xs (Int32.toNatClampNeg (nI a + (3 : Int32))))] hl.1 hP hD hS ml_L_57 rc_0 rfl (Nat.le_of_ble_eq_true rfl) dL_law_374 rfl (c_X7_grey G 40 (Nat.le_of_ble_eq_true rfl) e1) (fun H locs hP hD hS => ?_)
  refine lv_aload_n hx hb dL_law_377 rfl (lv_at hl 2 rfl) ?_
  refine lv_aload_n hx hb dL_law_378 rfl (lv_at hl 0 rfl) ?_
  refine lv_iload_n hx hb dL_law_379 rfl (lv_at hl 3 rfl) ?_
  refine lv_iconst (v := (1 : Int32)) hx hb dL_law_380 (by decide) ?_
  refine lv_iadd hx hb dL_law_381 ?_
  refine va_sld hx hb hX hbl hbA hS v1 dL_law_382 ?_
  refine lv_aload_n hx hb dL_law_383 rfl (lv_at hl 0 rfl) ?_
  refine lv_iload_n hx hb dL_law_384 rfl (lv_at hl 3 rfl) ?_
  refine lv_iconst (v := (2 : Int32)) hx hb dL_law_385 (by decide) ?_
  refine lv_iadd hx hb dL_law_386 ?_
  refine va_sld hx hb hX hbl hbA hS v2 dL_law_387 ?_
  refine lv_aload_n hx hb dL_law_388 rfl (lv_at hl 0 rfl) ?_
  refine lv_iload_n hx hb dL_law_389 rfl (lv_at hl 3 rfl) ?_
  refine lv_iconst (v := (3 : Int32)) hx hb dL_law_390 (by decide) ?_
  refine lv_iadd hx hb dL_law_391 ?_
  refine va_sld hx hb hX hbl hbA hS v3 dL_law_392 ?_
  refine wl_call C hc hs (pc' := 396) (x := r) (ν := μ2) (rest := [.int r]) [.inl (xs (Int32.toNatClampNeg (nI a + (1 : Int32)))), .inl (xs (Int32.toNatClampNeg (nI a + (2 : Int32)))), .inl (xs (Int32.toNatClampNeg (nI a + (3 : Int32))))] hl.1 hP hD hS ml_L_60 rc_31 rfl (Nat.le_of_ble_eq_true rfl) dL_law_393 rfl (c_X8_grey G 40 (Nat.le_of_ble_eq_true rfl) e2) (fun H locs hP hD hS => ?_)
  refine lv_icmp_eq (tgt := 503) hx hb dL_law_396 (by decide) (fun _ => ?_) (fun c9 => absurd rfl c9)
  exact kk μ2 H locs hP2 hP hD hS
set_option maxRecDepth 100000 in
set_option maxHeartbeats 4000000 in
theorem wl_case_odds (C : wl_At G p s m c b L xs) (hc : cells ≤ 600000) (hs : slots ≤ 7302250) {P : wd_Mem → Prop} (hop : wd_Ops P) {a : Nat} (ha : a + 4 ≤ L) (hL : L ≤ 2048) {μ : wd_Mem} (hP0 : P μ) {H : Heap} {locs : List Loc} {ls : Array Slot} (hl : lv_has ls 4 [(0, .ref b), (1, .ref (G.2.2.1 0)), (2, .ref (G.2.2.1 31)), (3, .int (nI a))]) (hP : va_P G.2.1 vwCl (wd_W G μ) H) (hD : va_D (fun q : Nat => s.heap.size ≤ q) (wd_W G μ)) (hS : va_S (fun q : Nat => s.heap.size ≤ q) s.heap H locs)
    (kk : ∀ (ν : wd_Mem) (H1 : Heap) (locs1 : List Loc), P ν → va_P G.2.1 vwCl (wd_W G ν) H1 → va_D (fun q : Nat => s.heap.size ≤ q) (wd_W G ν) → va_S (fun q : Nat => s.heap.size ≤ q) s.heap H1 locs1 → W p G.1 e room_1 s m #[Value.ref b] below meth c H1 locs1 cells slots Qw (F0 m 503 ls [])) : W p G.1 e room_1 s m #[Value.ref b] below meth c H locs cells slots Qw (F0 m 401 ls []) := by
  obtain ⟨hx, hb, hml, hown, hts, hKK, hX, hbl, hA0⟩ := id C
  have hbA : ¬ (fun q : Nat => s.heap.size ≤ q) b := Nat.not_le.mpr hbl
  have v1 : vp_in (nI a + (1 : Int32)) L := by rw [show nI a + (1 : Int32) = nI (a + 1) from nI_add a 1]; exact vp_in_nI (by omega) (by omega)
  have v2 : vp_in (nI a + (2 : Int32)) L := by rw [show nI a + (2 : Int32) = nI (a + 2) from nI_add a 2]; exact vp_in_nI (by omega) (by omega)
  obtain ⟨r, μ1, μ2, e1, e2, hP2⟩ := hop.2.2.2.2.2.2.2.2.2.2.2.1 μ (xs (Int32.toNatClampNeg (nI a + (1 : Int32)))) (xs (Int32.toNatClampNeg (nI a + (2 : Int32)))) hP0
  refine lv_aload_n hx hb dL_law_401 rfl (lv_at hl 1 rfl) ?_
  refine lv_aload_n hx hb dL_law_402 rfl (lv_at hl 0 rfl) ?_
  refine lv_iload_n hx hb dL_law_403 rfl (lv_at hl 3 rfl) ?_
  refine lv_iconst (v := (1 : Int32)) hx hb dL_law_404 (by decide) ?_
  refine lv_iadd hx hb dL_law_405 ?_
  refine va_sld hx hb hX hbl hbA hS v1 dL_law_406 ?_
  refine lv_aload_n hx hb dL_law_407 rfl (lv_at hl 0 rfl) ?_
  refine lv_iload_n hx hb dL_law_408 rfl (lv_at hl 3 rfl) ?_
  refine lv_iconst (v := (2 : Int32)) hx hb dL_law_409 (by decide) ?_
  refine lv_iadd hx hb dL_law_410 ?_
  refine va_sld hx hb hX hbl hbA hS v2 dL_law_411 ?_
  refine wl_call C hc hs (pc' := 415) (x := r) (ν := μ1) (rest := []) [.inl (xs (Int32.toNatClampNeg (nI a + (1 : Int32)))), .inl (xs (Int32.toNatClampNeg (nI a + (2 : Int32))))] hl.1 hP hD hS ml_L_61 rc_0 rfl (Nat.le_of_ble_eq_true rfl) dL_law_412 rfl (c_X7_odds G 40 (Nat.le_of_ble_eq_true rfl) e1) (fun H locs hP hD hS => ?_)
  refine lv_aload_n hx hb dL_law_415 rfl (lv_at hl 2 rfl) ?_
  refine lv_aload_n hx hb dL_law_416 rfl (lv_at hl 0 rfl) ?_
  refine lv_iload_n hx hb dL_law_417 rfl (lv_at hl 3 rfl) ?_
  refine lv_iconst (v := (1 : Int32)) hx hb dL_law_418 (by decide) ?_
  refine lv_iadd hx hb dL_law_419 ?_
  refine va_sld hx hb hX hbl hbA hS v1 dL_law_420 ?_
  refine lv_aload_n hx hb dL_law_421 rfl (lv_at hl 0 rfl) ?_
  refine lv_iload_n hx hb dL_law_422 rfl (lv_at hl 3 rfl) ?_
  refine lv_iconst (v := (2 : Int32)) hx hb dL_law_423 (by decide) ?_
  refine lv_iadd hx hb dL_law_424 ?_
  refine va_sld hx hb hX hbl hbA hS v2 dL_law_425 ?_
  refine wl_call C hc hs (pc' := 429) (x := r) (ν := μ2) (rest := [.int r]) [.inl (xs (Int32.toNatClampNeg (nI a + (1 : Int32)))), .inl (xs (Int32.toNatClampNeg (nI a + (2 : Int32))))] hl.1 hP hD hS ml_L_64 rc_31 rfl (Nat.le_of_ble_eq_true rfl) dL_law_426 rfl (c_X8_odds G 40 (Nat.le_of_ble_eq_true rfl) e2) (fun H locs hP hD hS => ?_)
  refine lv_icmp_eq (tgt := 503) hx hb dL_law_429 (by decide) (fun _ => ?_) (fun c9 => absurd rfl c9)
  exact kk μ2 H locs hP2 hP hD hS
set_option maxRecDepth 100000 in
set_option maxHeartbeats 4000000 in
theorem wl_case_keep (C : wl_At G p s m c b L xs) (hc : cells ≤ 600000) (hs : slots ≤ 7302250) {P : wd_Mem → Prop} (hop : wd_Ops P) {a : Nat} (ha : a + 4 ≤ L) (hL : L ≤ 2048) {μ : wd_Mem} (hP0 : P μ) {H : Heap} {locs : List Loc} {ls : Array Slot} (hl : lv_has ls 4 [(0, .ref b), (1, .ref (G.2.2.1 0)), (2, .ref (G.2.2.1 31)), (3, .int (nI a))]) (hP : va_P G.2.1 vwCl (wd_W G μ) H) (hD : va_D (fun q : Nat => s.heap.size ≤ q) (wd_W G μ)) (hS : va_S (fun q : Nat => s.heap.size ≤ q) s.heap H locs)
    (kk : ∀ (ν : wd_Mem) (H1 : Heap) (locs1 : List Loc), P ν → va_P G.2.1 vwCl (wd_W G ν) H1 → va_D (fun q : Nat => s.heap.size ≤ q) (wd_W G ν) → va_S (fun q : Nat => s.heap.size ≤ q) s.heap H1 locs1 → W p G.1 e room_1 s m #[Value.ref b] below meth c H1 locs1 cells slots Qw (F0 m 503 ls [])) : W p G.1 e room_1 s m #[Value.ref b] below meth c H locs cells slots Qw (F0 m 434 ls []) := by
  obtain ⟨hx, hb, hml, hown, hts, hKK, hX, hbl, hA0⟩ := id C
  have hbA : ¬ (fun q : Nat => s.heap.size ≤ q) b := Nat.not_le.mpr hbl
  have v1 : vp_in (nI a + (1 : Int32)) L := by rw [show nI a + (1 : Int32) = nI (a + 1) from nI_add a 1]; exact vp_in_nI (by omega) (by omega)
  obtain ⟨r, μ1, μ2, e1, e2, hP2⟩ := hop.2.2.2.2.2.2.2.2.2.2.2.2.1 μ (xs (Int32.toNatClampNeg (nI a + (1 : Int32)))) hP0
  refine lv_aload_n hx hb dL_law_434 rfl (lv_at hl 1 rfl) ?_
  refine lv_aload_n hx hb dL_law_435 rfl (lv_at hl 0 rfl) ?_
  refine lv_iload_n hx hb dL_law_436 rfl (lv_at hl 3 rfl) ?_
  refine lv_iconst (v := (1 : Int32)) hx hb dL_law_437 (by decide) ?_
  refine lv_iadd hx hb dL_law_438 ?_
  refine va_sld hx hb hX hbl hbA hS v1 dL_law_439 ?_
  refine wl_call C hc hs (pc' := 443) (x := r) (ν := μ1) (rest := []) [.inl (xs (Int32.toNatClampNeg (nI a + (1 : Int32))))] hl.1 hP hD hS ml_L_65 rc_0 rfl (Nat.le_of_ble_eq_true rfl) dL_law_440 rfl (c_X7_keep G 40 (Nat.le_of_ble_eq_true rfl) e1) (fun H locs hP hD hS => ?_)
  refine lv_aload_n hx hb dL_law_443 rfl (lv_at hl 2 rfl) ?_
  refine lv_aload_n hx hb dL_law_444 rfl (lv_at hl 0 rfl) ?_
  refine lv_iload_n hx hb dL_law_445 rfl (lv_at hl 3 rfl) ?_
  refine lv_iconst (v := (1 : Int32)) hx hb dL_law_446 (by decide) ?_
  refine lv_iadd hx hb dL_law_447 ?_
  refine va_sld hx hb hX hbl hbA hS v1 dL_law_448 ?_
  refine wl_call C hc hs (pc' := 452) (x := r) (ν := μ2) (rest := [.int r]) [.inl (xs (Int32.toNatClampNeg (nI a + (1 : Int32))))] hl.1 hP hD hS ml_L_68 rc_31 rfl (Nat.le_of_ble_eq_true rfl) dL_law_449 rfl (c_X8_keep G 40 (Nat.le_of_ble_eq_true rfl) e2) (fun H locs hP hD hS => ?_)
  refine lv_icmp_eq (tgt := 503) hx hb dL_law_452 (by decide) (fun _ => ?_) (fun c9 => absurd rfl c9)
  exact kk μ2 H locs hP2 hP hD hS
set_option maxRecDepth 100000 in
set_option maxHeartbeats 4000000 in
theorem wl_case_back (C : wl_At G p s m c b L xs) (hc : cells ≤ 600000) (hs : slots ≤ 7302250) {P : wd_Mem → Prop} (hop : wd_Ops P) {a : Nat} (ha : a + 4 ≤ L) (hL : L ≤ 2048) {μ : wd_Mem} (hP0 : P μ) {H : Heap} {locs : List Loc} {ls : Array Slot} (hl : lv_has ls 4 [(0, .ref b), (1, .ref (G.2.2.1 0)), (2, .ref (G.2.2.1 31)), (3, .int (nI a))]) (hP : va_P G.2.1 vwCl (wd_W G μ) H) (hD : va_D (fun q : Nat => s.heap.size ≤ q) (wd_W G μ)) (hS : va_S (fun q : Nat => s.heap.size ≤ q) s.heap H locs)
    (kk : ∀ (ν : wd_Mem) (H1 : Heap) (locs1 : List Loc), P ν → va_P G.2.1 vwCl (wd_W G ν) H1 → va_D (fun q : Nat => s.heap.size ≤ q) (wd_W G ν) → va_S (fun q : Nat => s.heap.size ≤ q) s.heap H1 locs1 → W p G.1 e room_1 s m #[Value.ref b] below meth c H1 locs1 cells slots Qw (F0 m 503 ls [])) : W p G.1 e room_1 s m #[Value.ref b] below meth c H locs cells slots Qw (F0 m 457 ls []) := by
  obtain ⟨hx, hb, hml, hown, hts, hKK, hX, hbl, hA0⟩ := id C
  have hbA : ¬ (fun q : Nat => s.heap.size ≤ q) b := Nat.not_le.mpr hbl
  have v1 : vp_in (nI a + (1 : Int32)) L := by rw [show nI a + (1 : Int32) = nI (a + 1) from nI_add a 1]; exact vp_in_nI (by omega) (by omega)
  obtain ⟨r, μ1, μ2, e1, e2, hP2⟩ := hop.2.2.2.2.2.2.2.2.2.2.2.2.2.1 μ (xs (Int32.toNatClampNeg (nI a + (1 : Int32)))) hP0
  refine lv_aload_n hx hb dL_law_457 rfl (lv_at hl 1 rfl) ?_
  refine lv_aload_n hx hb dL_law_458 rfl (lv_at hl 0 rfl) ?_
  refine lv_iload_n hx hb dL_law_459 rfl (lv_at hl 3 rfl) ?_
  refine lv_iconst (v := (1 : Int32)) hx hb dL_law_460 (by decide) ?_
  refine lv_iadd hx hb dL_law_461 ?_
  refine va_sld hx hb hX hbl hbA hS v1 dL_law_462 ?_
  refine wl_call C hc hs (pc' := 466) (x := r) (ν := μ1) (rest := []) [.inl (xs (Int32.toNatClampNeg (nI a + (1 : Int32))))] hl.1 hP hD hS ml_L_69 rc_0 rfl (Nat.le_of_ble_eq_true rfl) dL_law_463 rfl (c_X7_back G 40 (Nat.le_of_ble_eq_true rfl) e1) (fun H locs hP hD hS => ?_)
  refine lv_aload_n hx hb dL_law_466 rfl (lv_at hl 2 rfl) ?_
  refine lv_aload_n hx hb dL_law_467 rfl (lv_at hl 0 rfl) ?_
  refine lv_iload_n hx hb dL_law_468 rfl (lv_at hl 3 rfl) ?_
  refine lv_iconst (v := (1 : Int32)) hx hb dL_law_469 (by decide) ?_
  refine lv_iadd hx hb dL_law_470 ?_
  refine va_sld hx hb hX hbl hbA hS v1 dL_law_471 ?_
  refine wl_call C hc hs (pc' := 475) (x := r) (ν := μ2) (rest := [.int r]) [.inl (xs (Int32.toNatClampNeg (nI a + (1 : Int32))))] hl.1 hP hD hS ml_L_72 rc_31 rfl (Nat.le_of_ble_eq_true rfl) dL_law_472 rfl (c_X8_back G 40 (Nat.le_of_ble_eq_true rfl) e2) (fun H locs hP hD hS => ?_)
  refine lv_icmp_eq (tgt := 503) hx hb dL_law_475 (by decide) (fun _ => ?_) (fun c9 => absurd rfl c9)
  exact kk μ2 H locs hP2 hP hD hS
set_option maxRecDepth 100000 in
set_option maxHeartbeats 4000000 in
theorem wl_case_count (C : wl_At G p s m c b L xs) (hc : cells ≤ 600000) (hs : slots ≤ 7302250) {P : wd_Mem → Prop} (hop : wd_Ops P) {a : Nat} (ha : a + 4 ≤ L) (hL : L ≤ 2048) {μ : wd_Mem} (hP0 : P μ) {H : Heap} {locs : List Loc} {ls : Array Slot} (hl : lv_has ls 4 [(0, .ref b), (1, .ref (G.2.2.1 0)), (2, .ref (G.2.2.1 31)), (3, .int (nI a))]) (hP : va_P G.2.1 vwCl (wd_W G μ) H) (hD : va_D (fun q : Nat => s.heap.size ≤ q) (wd_W G μ)) (hS : va_S (fun q : Nat => s.heap.size ≤ q) s.heap H locs)
    (kk : ∀ (ν : wd_Mem) (H1 : Heap) (locs1 : List Loc), P ν → va_P G.2.1 vwCl (wd_W G ν) H1 → va_D (fun q : Nat => s.heap.size ≤ q) (wd_W G ν) → va_S (fun q : Nat => s.heap.size ≤ q) s.heap H1 locs1 → W p G.1 e room_1 s m #[Value.ref b] below meth c H1 locs1 cells slots Qw (F0 m 503 ls [])) : W p G.1 e room_1 s m #[Value.ref b] below meth c H locs cells slots Qw (F0 m 480 ls []) := by
  obtain ⟨hx, hb, hml, hown, hts, hKK, hX, hbl, hA0⟩ := id C
  have hbA : ¬ (fun q : Nat => s.heap.size ≤ q) b := Nat.not_le.mpr hbl
  have v1 : vp_in (nI a + (1 : Int32)) L := by rw [show nI a + (1 : Int32) = nI (a + 1) from nI_add a 1]; exact vp_in_nI (by omega) (by omega)
  obtain ⟨r, μ1, μ2, e1, e2, hP2⟩ := hop.2.2.2.2.2.2.2.2.2.2.2.2.2.2 μ (xs (Int32.toNatClampNeg (nI a + (1 : Int32)))) hP0
  refine lv_aload_n hx hb dL_law_480 rfl (lv_at hl 1 rfl) ?_
  refine lv_aload_n hx hb dL_law_481 rfl (lv_at hl 0 rfl) ?_
  refine lv_iload_n hx hb dL_law_482 rfl (lv_at hl 3 rfl) ?_
  refine lv_iconst (v := (1 : Int32)) hx hb dL_law_483 (by decide) ?_
  refine lv_iadd hx hb dL_law_484 ?_
  refine va_sld hx hb hX hbl hbA hS v1 dL_law_485 ?_
  refine wl_call C hc hs (pc' := 489) (x := r) (ν := μ1) (rest := []) [.inl (xs (Int32.toNatClampNeg (nI a + (1 : Int32))))] hl.1 hP hD hS ml_L_73 rc_0 rfl (Nat.le_of_ble_eq_true rfl) dL_law_486 rfl (c_X7_count G 40 (Nat.le_of_ble_eq_true rfl) e1) (fun H locs hP hD hS => ?_)
  refine lv_aload_n hx hb dL_law_489 rfl (lv_at hl 2 rfl) ?_
  refine lv_aload_n hx hb dL_law_490 rfl (lv_at hl 0 rfl) ?_
  refine lv_iload_n hx hb dL_law_491 rfl (lv_at hl 3 rfl) ?_
  refine lv_iconst (v := (1 : Int32)) hx hb dL_law_492 (by decide) ?_
  refine lv_iadd hx hb dL_law_493 ?_
  refine va_sld hx hb hX hbl hbA hS v1 dL_law_494 ?_
  refine wl_call C hc hs (pc' := 498) (x := r) (ν := μ2) (rest := [.int r]) [.inl (xs (Int32.toNatClampNeg (nI a + (1 : Int32))))] hl.1 hP hD hS ml_L_76 rc_31 rfl (Nat.le_of_ble_eq_true rfl) dL_law_495 rfl (c_X8_count G 40 (Nat.le_of_ble_eq_true rfl) e2) (fun H locs hP hD hS => ?_)
  refine lv_icmp_eq (tgt := 503) hx hb dL_law_498 (by decide) (fun _ => ?_) (fun c9 => absurd rfl c9)
  exact kk μ2 H locs hP2 hP hD hS
set_option maxRecDepth 100000 in
set_option maxHeartbeats 4000000 in
theorem wl_loop (C : wl_At G p s m c b L xs) (hr : meth.sig.returnType = ret) (hlocks : meth.locks = false) {P : wd_Mem → Prop} (hop : wd_Ops P) (hL : L ≤ 2048) : ∀ (n a : Nat) (μ : wd_Mem), a ≤ L + 3 → L + 4 ≤ a + n → P μ → ∀ (H : Heap) (locs : List Loc) (ls : Array Slot), lv_has ls 4 [(0, .ref b), (1, .ref (G.2.2.1 0)), (2, .ref (G.2.2.1 31)), (3, .int (nI a))] → va_P G.2.1 vwCl (wd_W G μ) H → va_D (fun q : Nat => s.heap.size ≤ q) (wd_W G μ) → va_S (fun q : Nat => s.heap.size ≤ q) s.heap H locs → W p G.1 e room_1 s m #[Value.ref b] below meth c H locs 104 1464 (lw_Z below #[Value.ref b] s) (F0 m 18 ls []) := by
  intro n
  induction n with
  | zero => intro a μ h1 h2; exact absurd h2 (by omega)
  | succ n ih =>
    intro a μ h1 h2 hP0 H locs ls hl hP hD hS
    obtain ⟨hx, hb, hml, hown, hts, hKK, hX, hbl, hA0⟩ := id C
    have hbA : ¬ (fun q : Nat => s.heap.size ≤ q) b := Nat.not_le.mpr hbl
    refine lv_iload_n hx hb dL_law_18 rfl (lv_at hl 3 rfl) ?_
    refine lv_aload_n hx hb dL_law_19 rfl (lv_at hl 0 rfl) ?_
    refine va_slen hx hb hX hbl hbA hS dL_law_20 ?_
    refine lv_iconst (v := 4) hx hb dL_law_21 (by decide) ?_
    refine lv_isub hx hb dL_law_22 ?_
    refine lv_icmp_gt (tgt := 509) hx hb dL_law_23 (by decide) (fun c9 => ?_) (fun c9 => ?_)
    · refine lv_iconst (v := 1) hx hb dL_law_509 (by decide) ?_
      refine va_forget (fun q hq => hS.2.2 q hq) ?_
      refine W.widen (k := 600000) (n := 7302250) (Nat.le_of_ble_eq_true rfl) (Nat.le_of_ble_eq_true rfl) ?_
      exact lw_ret hx hb hr hlocks dL_law_510
    · have h4 : a + 4 ≤ L := by
        refine Nat.le_of_not_lt (fun h => c9 ?_)
        rw [Int32.lt_iff_toInt_lt, show (Int32.ofNat L - 4 : Int32).toInt = (L : Int) - 4 from pk_sub_toInt (a := L) (b := 4) (by omega) (by omega), nI_toInt (by omega)]
        omega
      have v0 : vp_in (nI a) L := vp_in_nI (by omega) (by omega)
      refine lv_aload_n hx hb dL_law_26 rfl (lv_at hl 0 rfl) ?_
      refine lv_iload_n hx hb dL_law_27 rfl (lv_at hl 3 rfl) ?_
      refine va_sld hx hb hX hbl hbA hS v0 dL_law_28 ?_
      refine lv_bipush (v := 15) hx hb dL_law_29 (by decide) ?_
      refine lv_iand hx hb dL_law_31 ?_
      have go : ∀ (ν : wd_Mem) (H1 : Heap) (locs1 : List Loc), P ν → va_P G.2.1 vwCl (wd_W G ν) H1 → va_D (fun q : Nat => s.heap.size ≤ q) (wd_W G ν) → va_S (fun q : Nat => s.heap.size ≤ q) s.heap H1 locs1 → W p G.1 e room_1 s m #[Value.ref b] below meth c H1 locs1 104 1464 (lw_Z below #[Value.ref b] s) (F0 m 503 ls []) := by
        intro ν H1 locs1 hq hP1 hD1 hS1
        refine lv_iinc (v := nI (a + 4)) (lv' := [(3, .int (nI (a + 4))), (0, .ref b), (1, .ref (G.2.2.1 0)), (2, .ref (G.2.2.1 31))]) hx hb dL_law_503 hl (k := 3) rfl (nI_add a 4) (by decide) rfl (fun ls hl => ?_)
        refine lv_goto (tgt := 18) hx hb dL_law_506 (by decide) ?_
        exact ih (a + 4) ν (by omega) (by omega) hq H1 locs1 ls (lv_sub hl [1, 2, 3, 0] rfl) hP1 hD1 hS1
      obtain ⟨j, hj, ej⟩ := pk_andE (xs (nI a).toNatClampNeg) (m := 15) 4 (by decide)
      rcases (show j = 0 ∨ j = 1 ∨ j = 2 ∨ j = 3 ∨ j = 4 ∨ j = 5 ∨ j = 6 ∨ j = 7 ∨ j = 8 ∨ j = 9 ∨ j = 10 ∨ j = 11 ∨ j = 12 ∨ j = 13 ∨ j = 14 ∨ j = 15 by omega) with rfl | rfl | rfl | rfl | rfl | rfl | rfl | rfl | rfl | rfl | rfl | rfl | rfl | rfl | rfl | rfl
      · refine lv_tableIn (tgt := 108) hx hb dL_law_32 (by rw [ej]; decide) (by rw [ej]; decide) (off := 76) (by rw [ej]; rfl) (by decide) ?_
        exact wl_case_type C (Nat.le_of_ble_eq_true rfl) (Nat.le_of_ble_eq_true rfl) hop h4 hL hP0 hl hP hD hS go
      · refine lv_tableIn (tgt := 131) hx hb dL_law_32 (by rw [ej]; decide) (by rw [ej]; decide) (off := 99) (by rw [ej]; rfl) (by decide) ?_
        exact wl_case_clear C (Nat.le_of_ble_eq_true rfl) (Nat.le_of_ble_eq_true rfl) hop h4 hL hP0 hl hP hD hS go
      · refine lv_tableIn (tgt := 144) hx hb dL_law_32 (by rw [ej]; decide) (by rw [ej]; decide) (off := 112) (by rw [ej]; rfl) (by decide) ?_
        exact wl_case_desk C (Nat.le_of_ble_eq_true rfl) (Nat.le_of_ble_eq_true rfl) hop h4 hL hP0 hl hP hD hS go
      · refine lv_tableIn (tgt := 157) hx hb dL_law_32 (by rw [ej]; decide) (by rw [ej]; decide) (off := 125) (by rw [ej]; rfl) (by decide) ?_
        exact wl_case_task C (Nat.le_of_ble_eq_true rfl) (Nat.le_of_ble_eq_true rfl) hop h4 hL hP0 hl hP hD hS go
      · refine lv_tableIn (tgt := 190) hx hb dL_law_32 (by rw [ej]; decide) (by rw [ej]; decide) (off := 158) (by rw [ej]; rfl) (by decide) ?_
        exact wl_case_why C (Nat.le_of_ble_eq_true rfl) (Nat.le_of_ble_eq_true rfl) hop h4 hL hP0 hl hP hD hS go
      · refine lv_tableIn (tgt := 233) hx hb dL_law_32 (by rw [ej]; decide) (by rw [ej]; decide) (off := 201) (by rw [ej]; rfl) (by decide) ?_
        exact wl_case_must C (Nat.le_of_ble_eq_true rfl) (Nat.le_of_ble_eq_true rfl) hop h4 hL hP0 hl hP hD hS go
      · refine lv_tableIn (tgt := 256) hx hb dL_law_32 (by rw [ej]; decide) (by rw [ej]; decide) (off := 224) (by rw [ej]; rfl) (by decide) ?_
        exact wl_case_tightens C (Nat.le_of_ble_eq_true rfl) (Nat.le_of_ble_eq_true rfl) hop h4 hL hP0 hl hP hD hS go
      · refine lv_tableIn (tgt := 279) hx hb dL_law_32 (by rw [ej]; decide) (by rw [ej]; decide) (off := 247) (by rw [ej]; rfl) (by decide) ?_
        exact wl_case_puts C (Nat.le_of_ble_eq_true rfl) (Nat.le_of_ble_eq_true rfl) hop h4 hL hP0 hl hP hD hS go
      · refine lv_tableIn (tgt := 322) hx hb dL_law_32 (by rw [ej]; decide) (by rw [ej]; decide) (off := 290) (by rw [ej]; rfl) (by decide) ?_
        exact wl_case_undo C (Nat.le_of_ble_eq_true rfl) (Nat.le_of_ble_eq_true rfl) hop h4 hL hP0 hl hP hD hS go
      · refine lv_tableIn (tgt := 335) hx hb dL_law_32 (by rw [ej]; decide) (by rw [ej]; decide) (off := 303) (by rw [ej]; rfl) (by decide) ?_
        exact wl_case_wrap C (Nat.le_of_ble_eq_true rfl) (Nat.le_of_ble_eq_true rfl) hop h4 hL hP0 hl hP hD hS go
      · refine lv_tableIn (tgt := 358) hx hb dL_law_32 (by rw [ej]; decide) (by rw [ej]; decide) (off := 326) (by rw [ej]; rfl) (by decide) ?_
        exact wl_case_grey C (Nat.le_of_ble_eq_true rfl) (Nat.le_of_ble_eq_true rfl) hop h4 hL hP0 hl hP hD hS go
      · refine lv_tableIn (tgt := 401) hx hb dL_law_32 (by rw [ej]; decide) (by rw [ej]; decide) (off := 369) (by rw [ej]; rfl) (by decide) ?_
        exact wl_case_odds C (Nat.le_of_ble_eq_true rfl) (Nat.le_of_ble_eq_true rfl) hop h4 hL hP0 hl hP hD hS go
      · refine lv_tableIn (tgt := 434) hx hb dL_law_32 (by rw [ej]; decide) (by rw [ej]; decide) (off := 402) (by rw [ej]; rfl) (by decide) ?_
        exact wl_case_keep C (Nat.le_of_ble_eq_true rfl) (Nat.le_of_ble_eq_true rfl) hop h4 hL hP0 hl hP hD hS go
      · refine lv_tableIn (tgt := 457) hx hb dL_law_32 (by rw [ej]; decide) (by rw [ej]; decide) (off := 425) (by rw [ej]; rfl) (by decide) ?_
        exact wl_case_back C (Nat.le_of_ble_eq_true rfl) (Nat.le_of_ble_eq_true rfl) hop h4 hL hP0 hl hP hD hS go
      · refine lv_tableIn (tgt := 480) hx hb dL_law_32 (by rw [ej]; decide) (by rw [ej]; decide) (off := 448) (by rw [ej]; rfl) (by decide) ?_
        exact wl_case_count C (Nat.le_of_ble_eq_true rfl) (Nat.le_of_ble_eq_true rfl) hop h4 hL hP0 hl hP hD hS go
      · refine lv_tableOut (tgt := 503) hx hb dL_law_32 (by rw [ej]; decide) (by decide) ?_
        exact go μ H locs hP0 hP hD hS
end LAW
