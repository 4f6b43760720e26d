section WE2
variable {G : wd_G} {d : Nat} {own : String} {cc : ByteArray} {nL : Nat} {ret : Option FieldType} {Q : Option wd_AV → wd_Mem → Prop} {pc pc' : Nat} {L L' : List (Option wd_AV)} {S : List wd_AV} {μ : wd_Mem}
theorem wv_giE {idx k j : Nat} {v : Int32} (F : wd_GI own idx k j) (hdg : decode cc pc = .ok (.getfield idx, 3)) (hp : pc + 3 = pc') (hv : μ k j = v) (kk : wd_V G d own cc nL ret Q pc' L (.inl v :: S) μ) : wd_V G d own cc nL ret Q pc L (.inr k :: S) μ := by
  subst hv
  exact wv_gi F hdg hp kk
theorem wv_ialdE {k n : Nat} {i v : Int32} (hs : wd_sh[k]? = some (.inl (.int, n))) (hin : vp_in i n) (hdg : decode cc pc = .ok (.iaload, 1)) (hp : pc + 1 = pc') (hv : μ k i.toNatClampNeg = v) (kk : wd_V G d own cc nL ret Q pc' L (.inl v :: S) μ) : wd_V G d own cc nL ret Q pc L (.inl i :: .inr k :: S) μ := by
  subst hv
  exact wv_iald hs hin hdg hp kk
theorem wv_zaldE {k n : Nat} {i v : Int32} (hs : wd_sh[k]? = some (.inl (.boolean, n))) (hin : vp_in i n) (hdg : decode cc pc = .ok (.baload, 1)) (hp : pc + 1 = pc') (hv : μ k i.toNatClampNeg = v) (kk : wd_V G d own cc nL ret Q pc' L (.inl v :: S) μ) : wd_V G d own cc nL ret Q pc L (.inl i :: .inr k :: S) μ := by
  subst hv
  exact wv_zald hs hin hdg hp kk
end WE2
