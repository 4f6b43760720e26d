set_option maxRecDepth 100000 in
set_option maxHeartbeats 8000000 in
/-- THE LAW, from its entry, over any relation that the calls keep -/
theorem whole_start_of {P : wd_Mem → Prop} (hop0 : P wd_mem0) (hop : wd_Ops P) {p : Program} {e : Env} {s : State} {m : MethodId} {below : List Frame} {meth : Method} {c : Code} (l : Launch) {b L : Nat} {xs : Nat → Int32} (hL : L ≤ 2048) (C0 : lw_At p s m meth c b L xs) : W p l e room_1 s m #[Value.ref b] below meth c s.heap [] 0 0 (lw_Z below #[Value.ref b] s) (entryFrame m ([Value.ref b] : List Value).toArray 4) := by
  obtain ⟨hx, hb, hr, hml, hown, hts0, hX, hbl, hlocks, hgv⟩ := id C0
  have hts : ∀ w ∈ wd_tab, w.before #[Value.ref b] s = true := fun w h => hts0 w (List.mem_filter.mp h).1
  have hA : ∀ q : Nat, s.heap.size ≤ q → (fun q : Nat => s.heap.size ≤ q) q := fun _ h => h
  obtain ⟨c0, iS0, hKn0⟩ := u_known (C := RX0) (T := TX0) (N := 3) (n := 3) hts wcls_X0.2.1 (hts (.instantiable RX0 3) (wd_tab_in (List.mem_of_getElem? (i := 104) (by decide +kernel)) (by decide +kernel)))
  obtain ⟨c1, iS1, hKn1⟩ := u_known (C := RX1) (T := TX1) (N := 4) (n := 4) hts wcls_X1.2.1 (hts (.instantiable RX1 4) (wd_tab_in (List.mem_of_getElem? (i := 166) (by decide +kernel)) (by decide +kernel)))
  obtain ⟨c2, iS2, hKn2⟩ := u_known (C := RX2) (T := TX2) (N := 7) (n := 7) hts wcls_X2.2.1 (hts (.instantiable RX2 7) (wd_tab_in (List.mem_of_getElem? (i := 185) (by decide +kernel)) (by decide +kernel)))
  obtain ⟨c3, iS3, hKn3⟩ := u_known (C := RX3) (T := TX3) (N := 9) (n := 9) hts wcls_X3.2.1 (hts (.instantiable RX3 9) (wd_tab_in (List.mem_of_getElem? (i := 124) (by decide +kernel)) (by decide +kernel)))
  obtain ⟨c4, iS4, hKn4⟩ := u_known (C := RX4) (T := TX4) (N := 4) (n := 4) hts wcls_X4.2.1 (hts (.instantiable RX4 4) (wd_tab_in (List.mem_of_getElem? (i := 48) (by decide +kernel)) (by decide +kernel)))
  obtain ⟨c5, iS5, hKn5⟩ := u_known (C := RX5) (T := TX5) (N := 6) (n := 6) hts wcls_X5.2.1 (hts (.instantiable RX5 6) (wd_tab_in (List.mem_of_getElem? (i := 21) (by decide +kernel)) (by decide +kernel)))
  obtain ⟨c6, iS6, hKn6⟩ := u_known (C := RX6) (T := TX6) (N := 3) (n := 3) hts wcls_X6.2.1 (hts (.instantiable RX6 3) (wd_tab_in (List.mem_of_getElem? (i := 87) (by decide +kernel)) (by decide +kernel)))
  obtain ⟨c7, iS7, hKn7⟩ := u_known (C := RX7) (T := TX7) (N := 11) (n := 11) hts wcls_X7.2.1 (hts (.instantiable RX7 11) (wd_tab_in (List.mem_of_getElem? (i := 13) (by decide +kernel)) (by decide +kernel)))
  obtain ⟨c8, iS8, hKn8⟩ := u_known (C := RX8) (T := TX8) (N := 28) (n := 28) hts wcls_X8.2.1 (hts (.instantiable RX8 28) (wd_tab_in (List.mem_of_getElem? (i := 612) (by decide +kernel)) (by decide +kernel)))
  obtain ⟨dC, dI, hKc⟩ : ∃ (dC : Nat → ClassId) (dI : Nat → Nat → Nat), ∀ (k : Nat) (q : vw_C), vwCl[k]? = some q → u_Kn s q.1 q.2.1 q.2.2 (dC k) (dI k) := by
    refine ⟨fun k => if k = 0 then c0 else if k = 1 then c1 else if k = 2 then c2 else if k = 3 then c3 else if k = 4 then c4 else if k = 5 then c5 else if k = 6 then c6 else if k = 7 then c7 else c8, fun k => if k = 0 then iS0 else if k = 1 then iS1 else if k = 2 then iS2 else if k = 3 then iS3 else if k = 4 then iS4 else if k = 5 then iS5 else if k = 6 then iS6 else if k = 7 then iS7 else iS8, ?_⟩
    intro k q hq
    match k, hq with
    | 0, hq => cases hq; exact hKn0
    | 1, hq => cases hq; exact hKn1
    | 2, hq => cases hq; exact hKn2
    | 3, hq => cases hq; exact hKn3
    | 4, hq => cases hq; exact hKn4
    | 5, hq => cases hq; exact hKn5
    | 6, hq => cases hq; exact hKn6
    | 7, hq => cases hq; exact hKn7
    | 8, hq => cases hq; exact hKn8
    | k + 9, hq => simp [vwCl] at hq
  have hAO : va_AO "WindowDesk$Windows" s := va_AO.of (hts0 (.arrayOver (.object "WindowDesk$Windows")) (List.mem_append_right _ (List.mem_of_getElem? (i := 102) (by decide +kernel))))
  have hNw : va_Nw wd_nest s := va_Nw.of rfl (hts0 wd_nest (List.mem_append_right _ (List.mem_of_getElem? (i := 555) (by decide +kernel))))
  have hS : va_S (fun q : Nat => s.heap.size ≤ q) s.heap s.heap [] := va_S.rf
  have hK : va_K (dC, dI) vwCl [] s := ⟨hKc, fun k q h => by simp at h⟩
  have hP : va_P (dC, dI) vwCl [] s.heap := fun k q h => by simp at h
  have hD : va_D (fun q : Nat => s.heap.size ≤ q) [] := ⟨fun i j p q h => by simp at h, fun k q h => by simp at h⟩
  have hl := lv_entry ([.ref b]) (n := 4) (Nat.le_of_ble_eq_true rfl)
  rw [lg_entry_eq]
  generalize (lg_sl ([.ref b]) ++ List.replicate (4 - (lg_sl ([.ref b])).length) Slot.unset).toArray = ls at hl ⊢
  have hl : lv_has ls 4 [(0, .ref b)] := hl
  refine va_new (ci := 7) (fs := [.null, .null, .null, .null, .null, .null, .null, .null, .null, .null, .null]) (C := RX7) (T := TX7) (N := 11) hx hb hts wcls_X7.2.1 tyX7 tyX7_ok hown (hts (.classLink RL 7 RX7) (wd_tab_in (List.mem_of_getElem? (i := 12) (by decide +kernel)) (by decide +kernel))) (hts (.instantiable RX7 11) (wd_tab_in (List.mem_of_getElem? (i := 13) (by decide +kernel)) (by decide +kernel))) (hts (.initialized RX7) (wd_tab_in (List.mem_of_getElem? (i := 1) (by decide +kernel)) (by decide +kernel))) hK hP hD hS hA rfl (fun j hj => match j, hj with | 0, _ => rfl | 1, _ => rfl | 2, _ => rfl | 3, _ => rfl | 4, _ => rfl | 5, _ => rfl | 6, _ => rfl | 7, _ => rfl | 8, _ => rfl | 9, _ => rfl | 10, _ => rfl | j + 11, h => absurd h (by omega)) (Nat.le_of_ble_eq_true rfl) (Nat.le_of_ble_eq_true rfl) dL_law_0 (fun ox H hP hD hS => ?_)
  refine W.widen (k := 1) (n := 11) (Nat.le_of_ble_eq_true rfl) (Nat.le_of_ble_eq_true rfl) ?_
  refine lv_dup hx hb dL_law_3 rfl ?_
  have hP : va_P (dC, dI) vwCl [(ox, .inr (7, [.null, .null, .null, .null, .null, .null, .null, .null, .null, .null, .null]))] H := hP
  have hD : va_D (fun q : Nat => s.heap.size ≤ q) [(ox, .inr (7, [.null, .null, .null, .null, .null, .null, .null, .null, .null, .null, .null]))] := hD
  have hPc := hP
  have hDc := hD
  have hKc := hK
  have hFc := va_free (wc := [(ox, .inr (7, [.null, .null, .null, .null, .null, .null, .null, .null, .null, .null, .null]))]) hD hS hA [0] rfl
  refine va_callv (va_runI (As := []) (rest := [.ref ox]) ⟨hx, hb, hml, hown, hts⟩ (k_X7 l dC dI ox H.size) (cwI 0 hts (wd_goodT mc_X7_init) rfl rfl rfl (hts (.initialized RX7) (wd_tab_in (List.mem_of_getElem? (i := 1) (by decide +kernel)) (by decide +kernel))) (hts (.methodLink RL 9 yX7_init) (wd_tab_in (List.mem_of_getElem? (i := 14) (by decide +kernel)) (by decide +kernel))) (hts (.instanceMethod yX7_init) (wd_tab_in (List.mem_of_getElem? (i := 15) (by decide +kernel)) (by decide +kernel))) rfl (by decide +kernel) ⟨(Nat.le_of_ble_eq_true rfl), (Nat.le_of_ble_eq_true rfl)⟩) ⟨fun a U g mk q => by obtain ⟨q0, q1, qP, qK, qD, qA⟩ := q; exact ⟨q0, q1, qP, va_K.moved (u := U) (U := U.calling g mk a) (Vm.Alike.refl U.vm) qK, qD, qA.moved (Vm.Alike.refl U.vm)⟩, fun U hU hW => ⟨rfl, by rw [hU], by rw [hU]; exact hPc, va_K.moved hW.alike hKc, hDc.weaken (fun _ _ _ _ => trivial), hAO.moved hW.alike⟩⟩ rfl rfl hl.1 rfl (lv_room (Nat.le_of_ble_eq_true rfl)) dL_law_4 ⟨(Nat.le_of_ble_eq_true rfl), (Nat.le_of_ble_eq_true rfl)⟩) hS (fun q _ h => hFc q h) hFc (fun u t H1 locs ht hvm hw hB hz1 hk1 hS => ?_)
  obtain ⟨ad1, ca1, ea1, hP1, hK1, hD1⟩ := hB
  rw [ht] at hP1
  have hK1 : wd_Kl wd_hx (dC, dI) ca1 s := fun k hk => wd_Kk.moved hvm.symm (hK1 k hk)
  have hP : va_P (dC, dI) vwCl (wd_Wl wd_hx ad1 ca1 wd_mem0) H1 := hP1
  have hD : va_D (fun q : Nat => s.heap.size ≤ q) (wd_Wl wd_hx ad1 ca1 wd_mem0) := hD1.weaken (fun _ q _ h => hFc q.1 h)
  refine W.widen (k := 87) (n := 838) (Nat.le_of_ble_eq_true rfl) (Nat.le_of_ble_eq_true rfl) ?_
  refine lv_astore_n (lv' := [(1, .ref ox), (0, .ref b)]) hx hb dL_law_7 rfl hl (by decide) rfl (fun ls hl => ?_)
  refine va_new (ci := 8) (fs := [.int 0, .int 0, .null, .null, .null, .int 0, .int 0, .null, .null, .null, .int 0, .null, .int 0, .int 0, .int 0, .int 0, .int 0, .int 0, .int 0, .null, .null, .null, .null, .null, .null, .null, .null, .null]) (C := RX8) (T := TX8) (N := 28) hx hb hts wcls_X8.2.1 tyX8 tyX8_ok hown (hts (.classLink RL 10 RX8) (wd_tab_in (List.mem_of_getElem? (i := 611) (by decide +kernel)) (by decide +kernel))) (hts (.instantiable RX8 28) (wd_tab_in (List.mem_of_getElem? (i := 612) (by decide +kernel)) (by decide +kernel))) (hts (.initialized RX8) (wd_tab_in (List.mem_of_getElem? (i := 9) (by decide +kernel)) (by decide +kernel))) hK hP hD hS hA rfl (fun j hj => match j, hj with | 0, _ => rfl | 1, _ => rfl | 2, _ => rfl | 3, _ => rfl | 4, _ => rfl | 5, _ => rfl | 6, _ => rfl | 7, _ => rfl | 8, _ => rfl | 9, _ => rfl | 10, _ => rfl | 11, _ => rfl | 12, _ => rfl | 13, _ => rfl | 14, _ => rfl | 15, _ => rfl | 16, _ => rfl | 17, _ => rfl | 18, _ => rfl | 19, _ => rfl | 20, _ => rfl | 21, _ => rfl | 22, _ => rfl | 23, _ => rfl | 24, _ => rfl | 25, _ => rfl | 26, _ => rfl | 27, _ => rfl | j + 28, h => absurd h (by omega)) (Nat.le_of_ble_eq_true rfl) (Nat.le_of_ble_eq_true rfl) dL_law_8 (fun om H hP hD hS => ?_)
  refine W.widen (k := 88) (n := 866) (Nat.le_of_ble_eq_true rfl) (Nat.le_of_ble_eq_true rfl) ?_
  refine lv_dup hx hb dL_law_11 rfl ?_
  have hP : va_P (dC, dI) vwCl (wd_Wl wd_hx ad1 ca1 wd_mem0 ++ [(om, .inr (8, [.int 0, .int 0, .null, .null, .null, .int 0, .int 0, .null, .null, .null, .int 0, .null, .int 0, .int 0, .int 0, .int 0, .int 0, .int 0, .int 0, .null, .null, .null, .null, .null, .null, .null, .null, .null]))]) H := hP
  have hD : va_D (fun q : Nat => s.heap.size ≤ q) (wd_Wl wd_hx ad1 ca1 wd_mem0 ++ [(om, .inr (8, [.int 0, .int 0, .null, .null, .null, .int 0, .int 0, .null, .null, .null, .int 0, .null, .int 0, .int 0, .int 0, .int 0, .int 0, .int 0, .int 0, .null, .null, .null, .null, .null, .null, .null, .null, .null]))]) := hD
  have hPc : va_P (dC, dI) vwCl [(om, .inr (8, [.int 0, .int 0, .null, .null, .null, .int 0, .int 0, .null, .null, .null, .int 0, .null, .int 0, .int 0, .int 0, .int 0, .int 0, .int 0, .int 0, .null, .null, .null, .null, .null, .null, .null, .null, .null]))] H := wl_app_r hP
  have hDc : va_D (fun q : Nat => s.heap.size ≤ q) [(om, .inr (8, [.int 0, .int 0, .null, .null, .null, .int 0, .int 0, .null, .null, .null, .int 0, .null, .int 0, .int 0, .int 0, .int 0, .int 0, .int 0, .int 0, .null, .null, .null, .null, .null, .null, .null, .null, .null]))] := wl_appD_r hD
  have hKc := hK
  have hFc : ∀ q, va_A [(om, .inr (8, [.int 0, .int 0, .null, .null, .null, .int 0, .int 0, .null, .null, .null, .int 0, .null, .int 0, .int 0, .int 0, .int 0, .int 0, .int 0, .int 0, .null, .null, .null, .null, .null, .null, .null, .null, .null]))] H.size q → s.heap.size ≤ q := va_free (wc := [(om, .inr (8, [.int 0, .int 0, .null, .null, .null, .int 0, .int 0, .null, .null, .null, .int 0, .null, .int 0, .int 0, .int 0, .int 0, .int 0, .int 0, .int 0, .null, .null, .null, .null, .null, .null, .null, .null, .null]))]) hDc hS hA [0] rfl
  have hap := wl_app_ne hP hD
  refine va_callv (va_runI (As := []) (rest := [.ref om]) ⟨hx, hb, hml, hown, hts⟩ (k_X8 l dC dI om H.size) (cwI 0 hts (wd_goodT mc_X8_init) rfl rfl rfl (hts (.initialized RX8) (wd_tab_in (List.mem_of_getElem? (i := 9) (by decide +kernel)) (by decide +kernel))) (hts (.methodLink RL 12 yX8_init) (wd_tab_in (List.mem_of_getElem? (i := 613) (by decide +kernel)) (by decide +kernel))) (hts (.instanceMethod yX8_init) (wd_tab_in (List.mem_of_getElem? (i := 614) (by decide +kernel)) (by decide +kernel))) rfl (by decide +kernel) ⟨(Nat.le_of_ble_eq_true rfl), (Nat.le_of_ble_eq_true rfl)⟩) ⟨fun a U g mk q => by obtain ⟨q0, q1, qP, qK, qD⟩ := q; exact ⟨q0, q1, qP, va_K.moved (u := U) (U := U.calling g mk a) (Vm.Alike.refl U.vm) qK, qD⟩, fun U hU hW => ⟨rfl, by rw [hU], by rw [hU]; exact hPc, va_K.moved hW.alike hKc, hDc.weaken (fun _ _ _ _ => trivial)⟩⟩ rfl rfl hl.1 rfl (lv_room (Nat.le_of_ble_eq_true rfl)) dL_law_12 ⟨(Nat.le_of_ble_eq_true rfl), (Nat.le_of_ble_eq_true rfl)⟩) hS (fun q _ h => hFc q h) hFc (fun u t H1 locs ht hvm hw hB hz1 hk1 hS => ?_)
  obtain ⟨ad2, ca2, ea2, hP2, hK2, hD2⟩ := hB
  rw [ht] at hP2
  have hK2 : wd_Kl wd_hm (dC, dI) ca2 s := fun k hk => wd_Kk.moved hvm.symm (hK2 k hk)
  obtain ⟨hPG, hDG, hKG⟩ := wl_both (D := (dC, dI)) (l := l) (wl_app_l hP) (wl_appD_l hD) hK1 hk1 hap hP2 hD2 hK2 hFc
  refine W.widen (k := 104) (n := 1464) (Nat.le_of_ble_eq_true rfl) (Nat.le_of_ble_eq_true rfl) ?_
  refine lv_astore_n (lv' := [(2, .ref om), (1, .ref ox), (0, .ref b)]) hx hb dL_law_15 rfl hl (by decide) rfl (fun ls hl => ?_)
  refine lv_iconst (v := 0) hx hb dL_law_16 (by decide) ?_
  refine lv_istore_n (lv' := [(3, .int 0), (2, .ref om), (1, .ref ox), (0, .ref b)]) hx hb dL_law_17 rfl hl (by decide) rfl (fun ls hl => ?_)
  have e0 : (wl_G l (dC, dI) ad1 ca1 ad2 ca2).2.2.1 0 = ox := ea1
  have e31 : (wl_G l (dC, dI) ad1 ca1 ad2 ca2).2.2.1 31 = om := ea2
  have hl : lv_has ls 4 [(0, .ref b), (1, .ref ((wl_G l (dC, dI) ad1 ca1 ad2 ca2).2.2.1 0)), (2, .ref ((wl_G l (dC, dI) ad1 ca1 ad2 ca2).2.2.1 31)), (3, .int (nI 0))] := by rw [e0, e31]; exact lv_sub hl [3, 2, 1, 0] rfl
  have hA0 : ∀ k, k < wd_sh.length → s.heap.size ≤ (wl_G l (dC, dI) ad1 ca1 ad2 ca2).2.2.1 k := fun k hk => by
    obtain ⟨q, hq, e⟩ := wd_W_has (wl_G l (dC, dI) ad1 ca1 ad2 ca2) wd_mem0 hk
    rw [← e]
    exact hDG.2 k q hq
  exact wl_loop (G := wl_G l (dC, dI) ad1 ca1 ad2 ca2) ⟨hx, hb, hml, hown, hts, ⟨hK, hKG.1, hKG.2, hNw⟩, hX, hbl, hA0⟩ hr hlocks hop hL (L + 4) 0 wd_mem0 (by omega) (by omega) hop0 H1 locs ls hl hPG hDG hS
