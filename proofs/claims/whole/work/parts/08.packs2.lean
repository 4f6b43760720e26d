section WE2
variable {G : wd_G} {d : Nat} {own : String} {cc : ByteArray} {nL : Nat} {ret : Option FieldType} {Q : Option wd_AV → wd_Mem → Prop} {pc pc' : Nat} {L L' : List (Option wd_AV)} {S : List wd_AV} {μ : wd_Mem}
theorem wv_giE {idx k j : Nat} {v : Int32} (F : wd_GI own idx k j) (hdg : decode cc pc = .ok (.getfield idx, 3)) (hp : pc + 3 = pc') (hv : μ k j = v) (kk : wd_V G d own cc nL ret Q pc' L (.inl v :: S) μ) : wd_V G d own cc nL ret Q pc L (.inr k :: S) μ := by
  subst hv
  exact wv_gi F hdg hp kk
theorem wv_ialdE {k n : Nat} {i v : Int32} (hs : wd_sh[k]? = some (.inl (.int, n))) (hin : vp_in i n) (hdg : decode cc pc = .ok (.iaload, 1)) (hp : pc + 1 = pc') (hv : μ k i.toNatClampNeg = v) (kk : wd_V G d own cc nL ret Q pc' L (.inl v :: S) μ) : wd_V G d own cc nL ret Q pc L (.inl i :: .inr k :: S) μ := by
  subst hv
  exact wv_iald hs hin hdg hp kk
theorem wv_zaldE {k n : Nat} {i v : Int32} (hs : wd_sh[k]? = some (.inl (.boolean, n))) (hin : vp_in i n) (hdg : decode cc pc = .ok (.baload, 1)) (hp : pc + 1 = pc') (hv : μ k i.toNatClampNeg = v) (kk : wd_V G d own cc nL ret Q pc' L (.inl v :: S) μ) : wd_V G d own cc nL ret Q pc L (.inl i :: .inr k :: S) μ := by
  subst hv
  exact wv_zald hs hin hdg hp kk
theorem wd_nest_ok : yX7_power.cls ≠ "java/lang/invoke/MethodHandle" ∧ yX7_power.cls ≠ "java/lang/invoke/VarHandle" ∧ (parseMethodDescriptor yX7_power.desc).map (fun d => d.parameters.length) = some 2 := by decide +kernel
theorem wv_callSNi {x : Int32} {ν : wd_Mem} {St : List wd_AV} (a b : wd_AV) (hown : own = RX2) (m2 : Cond.initialized yX7_power.cls ∈ wd_tab) (m4 : Cond.static yX7_power ∈ wd_tab) (hst : [b, a] ++ S = St) (h8 : S.length ≤ 8) (hdg : decode cc pc = .ok (.invokestatic 100, 3)) (hp : pc + 3 = pc') (hC : wd_C G d yX7_power [a, b] μ (fun r u => r = some (.inl x) ∧ u = ν)) (kk : wd_V G (d + 1) own cc nL ret Q pc' L (.inl x :: S) ν) : wd_V G (d + 1) own cc nL ret Q pc L St μ :=
  wv_callSN [a, b] hown m2 m4 wd_nest_ok hst h8 hdg hp hC (fun r u hq => by obtain ⟨rfl, rfl⟩ := hq; exact kk)
end WE2
