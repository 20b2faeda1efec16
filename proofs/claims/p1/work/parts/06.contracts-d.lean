/-! contracts, written by program -/
set_option maxHeartbeats 4000000 in
set_option maxRecDepth 100000 in
theorem c_X7_read_2 (l : Launch) (dC : Nat → ClassId) (dI : Nat → Nat → Nat) (q0 q1 q2 : Nat) (sz : Nat) : Met l yX7_read wsX7_read ({ frames := 1, cells := 0, slots := 0, locals := 20 }) (va_Pc [.ref q0, .ref q1, .int 0, .int 0] (zB (dC, dI) [] [(q0, .inr (10, [.ref q2, .int 0]))] sz)) (va_Qv (fun (_ : Unit) => True) (fun _ t => zE (dC, dI) [] [] (va_A [(q0, .inr (10, [.ref q2, .int 0]))] sz) t) (va_A [(q0, .inr (10, [.ref q2, .int 0]))] sz)) 0 0 (va_A [(q0, .inr (10, [.ref q2, .int 0]))] sz) := by
  refine Met.ofW (cc := cX7_read) (maxL := 6) (ret := none) (by decide) rfl ?_
  intro p e s m args below meth c s₁ B hml hv
  obtain ⟨rfl, hsz, hP, hK, hD0, hZ, hN⟩ := hv
  have hx := B.exec
  have hb := B.bytes
  have hr := B.returns
  have hts := atoms_spec (ws := wsX7_read) B.pre
  have hown : s.vm.findClass RX7 = some m.cls := findClass_of_methodNamed B.named
  have hlocks := B.notSynchronized
  subst hsz
  have hD := hD0.self (sz := s.heap.size)
  generalize hAe : va_A [(q0, .inr (10, [.ref q2, .int 0]))] s.heap.size = A at hD hZ ⊢
  have hA : ∀ q : Nat, s.heap.size ≤ q → A q := fun q h => by rw [← hAe]; exact Or.inr h
  have hS : va_S A s.heap s.heap [] := va_S.rf
  have hP : va_P (dC, dI) vwCl [(q0, .inr (10, [.ref q2, .int 0]))] s.heap := hP
  have hl := lv_entry ([.ref q0, .ref q1, .int 0, .int 0]) (n := 6) (Nat.le_of_ble_eq_true rfl)
  rw [lg_entry_eq]
  generalize (lg_sl ([.ref q0, .ref q1, .int 0, .int 0]) ++ List.replicate (6 - (lg_sl ([.ref q0, .ref q1, .int 0, .int 0])).length) Slot.unset).toArray = ls at hl ⊢
  have hl : lv_has ls 6 [(0, .ref q0), (1, .ref q1), (2, .int 0), (3, .int 0)] := hl
  refine lv_aload_n hx hb dX7_read_0 rfl (lv_at hl 0 rfl) ?_
  have hPc := hP.sub (ws' := [(q0, .inr (10, [.ref q2, .int 0]))]) [0] rfl
  have hDc := hD.sub (ws' := [(q0, .inr (10, [.ref q2, .int 0]))]) [0] (by decide) rfl
  have hKc := hK.sub (tys' := []) [] rfl
  have hFc := va_free (wc := [(q0, .inr (10, [.ref q2, .int 0]))]) hD hS hA [0] rfl
  refine va_callv (va_runV (As := []) (rest := []) ⟨hx, hb, hml, hown, hts⟩ (c_X7_clear l dC dI q0 q2 s.heap.size  ) (cwV 0 hts gX7_read_X7_clear rfl rfl rfl (by decide +kernel) ⟨Nat.le_of_ble_eq_true rfl, Nat.le_of_ble_eq_true rfl⟩) ⟨zB_blind, va_recv hK hP (ci := 10) (q0 := 0) rfl rfl, (zPre hPc hDc hKc hS hFc hZ hN)⟩ rfl rfl hl.1 rfl (lv_room (Nat.le_of_ble_eq_true rfl)) dX7_read_1 ⟨Nat.le_of_ble_eq_true rfl, Nat.le_of_ble_eq_true rfl⟩) hS (fun q _ h => hFc q h) hFc (fun u t H1 locs ht hvm hw hB hz1 hk1 hS => ?_)
  obtain ⟨hP1, hK1, hD1⟩ := hB
  rw [ht] at hP1
  have hK1 := va_K.moved hvm.symm hK1
  obtain ⟨hP, hD⟩ := va_join (wr := []) (w1 := []) hP hD [0] [] rfl rfl (by decide) (by decide) hk1 hFc hP1 hD1
  have hK := (hK.sub (tys' := []) [] rfl).app hK1
  generalize H1 = H at hP hS ⊢
  have hP : va_P (dC, dI) vwCl [] H := hP
  have hD : va_D A [] := hD
  have hK : va_K (dC, dI) vwCl [] s := hK
  refine W.widen (k := 0) (n := 0) (Nat.le_of_ble_eq_true rfl) (Nat.le_of_ble_eq_true rfl) ?_
  refine lv_iload_n hx hb dX7_read_4 rfl (lv_at hl 2 rfl) ?_
  refine lv_istore (lv' := [(4, .int 0), (0, .ref q0), (1, .ref q1), (2, .int 0), (3, .int 0)]) hx hb dX7_read_5 hl (by decide) rfl (fun ls hl => ?_)
  refine lv_iload hx hb dX7_read_7 (lv_at hl 0 rfl) ?_
  refine lv_iload_n hx hb dX7_read_9 rfl (lv_at hl 4 rfl) ?_
  refine lv_icmp_ge (tgt := 53) hx hb dX7_read_10 (by decide) (fun _ => ?_) (fun h9 => absurd (show (0 : Int32) ≤ (0 : Int32) by decide +kernel) h9)
  have hP9 := hP.sub (ws' := []) [] rfl
  have hD9 := hD.sub (ws' := []) [] (by decide) rfl
  have hK9 := hK.sub (tys' := []) [] rfl
  exact W.vret hx hb hr (fun t ht hW => ⟨⟨(), rfl, trivial, ⟨by rw [ht]; exact hP9, va_K.moved hW.alike hK9, hD9⟩⟩, hS.F ht⟩) hS.2.2 dX7_read_53
set_option maxHeartbeats 4000000 in
set_option maxRecDepth 100000 in
theorem c_X9_read (l : Launch) (dC : Nat → ClassId) (dI : Nat → Nat → Nat) (q0 q1 q2 q3 q4 q5 q6 : Nat) (sz : Nat) (w0 : Int32) (w1 : Int32) : Met l yX9_read wsX9_read ({ frames := 2, cells := 0, slots := 0, locals := 45 }) (va_Pc [.ref q0, .ref q1] (zB (dC, dI) [] [(q0, .inr (12, [.ref q2, .ref q3, .int w0, .int w1, .int 0, .int 1])), (q1, .inr (7, [.ref q4, .int 0])), (q2, .inr (10, [.ref q5, .int 0])), (q3, .inr (10, [.ref q6, .int 0]))] sz)) (va_Qv (fun (_ : Unit) => True) (fun _ t => zE (dC, dI) [] [(q1, .inr (7, [.ref q4, .int 0]))] (va_A [(q0, .inr (12, [.ref q2, .ref q3, .int w0, .int w1, .int 0, .int 1])), (q1, .inr (7, [.ref q4, .int 0])), (q2, .inr (10, [.ref q5, .int 0])), (q3, .inr (10, [.ref q6, .int 0]))] sz) t) (va_A [(q0, .inr (12, [.ref q2, .ref q3, .int w0, .int w1, .int 0, .int 1])), (q1, .inr (7, [.ref q4, .int 0])), (q2, .inr (10, [.ref q5, .int 0])), (q3, .inr (10, [.ref q6, .int 0]))] sz)) 0 0 (va_A [(q0, .inr (12, [.ref q2, .ref q3, .int w0, .int w1, .int 0, .int 1])), (q1, .inr (7, [.ref q4, .int 0])), (q2, .inr (10, [.ref q5, .int 0])), (q3, .inr (10, [.ref q6, .int 0]))] sz) := by
  refine Met.ofW (cc := cX9_read) (maxL := 3) (ret := none) (by decide) rfl ?_
  intro p e s m args below meth c s₁ B hml hv
  obtain ⟨rfl, hsz, hP, hK, hD0, hZ, hN⟩ := hv
  have hx := B.exec
  have hb := B.bytes
  have hr := B.returns
  have hts := atoms_spec (ws := wsX9_read) B.pre
  have hown : s.vm.findClass RX9 = some m.cls := findClass_of_methodNamed B.named
  have hlocks := B.notSynchronized
  subst hsz
  have hD := hD0.self (sz := s.heap.size)
  generalize hAe : va_A [(q0, .inr (12, [.ref q2, .ref q3, .int w0, .int w1, .int 0, .int 1])), (q1, .inr (7, [.ref q4, .int 0])), (q2, .inr (10, [.ref q5, .int 0])), (q3, .inr (10, [.ref q6, .int 0]))] s.heap.size = A at hD hZ ⊢
  have hA : ∀ q : Nat, s.heap.size ≤ q → A q := fun q h => by rw [← hAe]; exact Or.inr h
  have hS : va_S A s.heap s.heap [] := va_S.rf
  have hP : va_P (dC, dI) vwCl [(q0, .inr (12, [.ref q2, .ref q3, .int w0, .int w1, .int 0, .int 1])), (q1, .inr (7, [.ref q4, .int 0])), (q2, .inr (10, [.ref q5, .int 0])), (q3, .inr (10, [.ref q6, .int 0]))] s.heap := hP
  have hl := lv_entry ([.ref q0, .ref q1]) (n := 3) (Nat.le_of_ble_eq_true rfl)
  rw [lg_entry_eq]
  generalize (lg_sl ([.ref q0, .ref q1]) ++ List.replicate (3 - (lg_sl ([.ref q0, .ref q1])).length) Slot.unset).toArray = ls at hl ⊢
  have hl : lv_has ls 3 [(0, .ref q0), (1, .ref q1)] := hl
  refine lv_aload_n hx hb dX9_read_0 rfl (lv_at hl 1 rfl) ?_
  refine lv_bipush (v := 124) hx hb dX9_read_1 (by decide +kernel) ?_
  have hPc := hP.sub (ws' := [(q1, .inr (7, [.ref q4, .int 0]))]) [1] rfl
  have hDc := hD.sub (ws' := [(q1, .inr (7, [.ref q4, .int 0]))]) [1] (by decide) rfl
  have hKc := hK.sub (tys' := []) [] rfl
  have hFc := va_free (wc := [(q1, .inr (7, [.ref q4, .int 0]))]) hD hS hA [1] rfl
  refine va_calli (va_runV (As := [.int 124]) (rest := []) ⟨hx, hb, hml, hown, hts⟩ (c_X4_placeOf l dC dI q1 q4 s.heap.size  ) (cwV 1 hts gX9_read_X4_placeOf rfl rfl rfl (by decide +kernel) ⟨Nat.le_of_ble_eq_true rfl, Nat.le_of_ble_eq_true rfl⟩) ⟨zB_blind, va_recv hK hP (ci := 7) (q0 := 1) rfl rfl, (zPre hPc hDc hKc hS hFc hZ hN)⟩ rfl rfl hl.1 rfl (lv_room (Nat.le_of_ble_eq_true rfl)) dX9_read_3 ⟨Nat.le_of_ble_eq_true rfl, Nat.le_of_ble_eq_true rfl⟩) hS (fun q _ h => hFc q h) hFc (fun r u t H1 locs ht hvm hw hB hz1 hk1 hS => ?_)
  subst hw
  obtain ⟨hP1, hK1, hD1⟩ := hB
  rw [ht] at hP1
  have hK1 := va_K.moved hvm.symm hK1
  obtain ⟨hP, hD⟩ := va_join (wr := [(q0, .inr (12, [.ref q2, .ref q3, .int w0, .int w1, .int 0, .int 1])), (q2, .inr (10, [.ref q5, .int 0])), (q3, .inr (10, [.ref q6, .int 0]))]) (w1 := [(q1, .inr (7, [.ref q4, .int 0]))]) hP hD [1] [0, 2, 3] rfl rfl (by decide) (by decide) hk1 hFc hP1 hD1
  have hK := (hK.sub (tys' := []) [] rfl).app hK1
  generalize H1 = H at hP hS ⊢
  have hP : va_P (dC, dI) vwCl [(q0, .inr (12, [.ref q2, .ref q3, .int w0, .int w1, .int 0, .int 1])), (q2, .inr (10, [.ref q5, .int 0])), (q3, .inr (10, [.ref q6, .int 0])), (q1, .inr (7, [.ref q4, .int 0]))] H := hP
  have hD : va_D A [(q0, .inr (12, [.ref q2, .ref q3, .int w0, .int w1, .int 0, .int 1])), (q2, .inr (10, [.ref q5, .int 0])), (q3, .inr (10, [.ref q6, .int 0])), (q1, .inr (7, [.ref q4, .int 0]))] := hD
  have hK : va_K (dC, dI) vwCl [] s := hK
  refine W.widen (k := 0) (n := 0) (Nat.le_of_ble_eq_true rfl) (Nat.le_of_ble_eq_true rfl) ?_
  refine lv_istore_n (lv' := [(2, .int (-1)), (0, .ref q0), (1, .ref q1)]) hx hb dX9_read_6 rfl hl (by decide) rfl (fun ls hl => ?_)
  refine lv_aload_n hx hb dX9_read_7 rfl (lv_at hl 1 rfl) ?_
  refine va_get (D := (dC, dI)) (ci := 12) (v := .ref q2) (C := RX9) (T := TX9) (N := 6) hx hb hts (fun _ h => List.mem_cons_of_mem _ (List.mem_append_left _ (List.mem_append_left _ (List.mem_append_left _ (List.mem_append_left _ (List.mem_append_left _ (List.mem_append_left _ (List.mem_append_right _ h)))))))) hown hK hP 0 rfl rfl 0 (by decide) (hts (.fieldLink RX9 10 "Seekwell$Text" "title" "LSeekwell$Row;") (by decide +kernel)) (fun _ h9 => h9) rfl dX9_read_8 ?_
  refine lv_aload_n hx hb dX9_read_11 rfl (lv_at hl 2 rfl) ?_
  refine lv_iconst (v := 0) hx hb dX9_read_12 (by decide +kernel) ?_
  refine lv_iload_n hx hb dX9_read_13 rfl (lv_at hl 0 rfl) ?_
  have hPc := hP.sub (ws' := [(q2, .inr (10, [.ref q5, .int 0]))]) [1] rfl
  have hDc := hD.sub (ws' := [(q2, .inr (10, [.ref q5, .int 0]))]) [1] (by decide) rfl
  have hKc := hK.sub (tys' := []) [] rfl
  have hFc := va_free (wc := [(q2, .inr (10, [.ref q5, .int 0]))]) hD hS hA [1] rfl
  refine va_callv (va_runV (As := [.ref q1, .int 0, .int (-1)]) (rest := []) ⟨hx, hb, hml, hown, hts⟩ (c_X7_read l dC dI q2 q1 q5 H.size  ) (cwV 3 hts gX9_read_X7_read rfl rfl rfl (by decide +kernel) ⟨Nat.le_of_ble_eq_true rfl, Nat.le_of_ble_eq_true rfl⟩) ⟨zB_blind, va_recv hK hP (ci := 10) (q0 := 1) rfl rfl, (zPre hPc hDc hKc hS hFc hZ hN)⟩ rfl rfl hl.1 rfl (lv_room (Nat.le_of_ble_eq_true rfl)) dX9_read_14 ⟨Nat.le_of_ble_eq_true rfl, Nat.le_of_ble_eq_true rfl⟩) hS (fun q _ h => hFc q h) hFc (fun u t H1 locs ht hvm hw hB hz1 hk1 hS => ?_)
  obtain ⟨hP1, hK1, hD1⟩ := hB
  rw [ht] at hP1
  have hK1 := va_K.moved hvm.symm hK1
  obtain ⟨hP, hD⟩ := va_join (wr := [(q0, .inr (12, [.ref q2, .ref q3, .int w0, .int w1, .int 0, .int 1])), (q3, .inr (10, [.ref q6, .int 0])), (q1, .inr (7, [.ref q4, .int 0]))]) (w1 := []) hP hD [1] [0, 2, 3] rfl rfl (by decide) (by decide) hk1 hFc hP1 hD1
  have hK := (hK.sub (tys' := []) [] rfl).app hK1
  generalize H1 = H at hP hS ⊢
  have hP : va_P (dC, dI) vwCl [(q0, .inr (12, [.ref q2, .ref q3, .int w0, .int w1, .int 0, .int 1])), (q3, .inr (10, [.ref q6, .int 0])), (q1, .inr (7, [.ref q4, .int 0]))] H := hP
  have hD : va_D A [(q0, .inr (12, [.ref q2, .ref q3, .int w0, .int w1, .int 0, .int 1])), (q3, .inr (10, [.ref q6, .int 0])), (q1, .inr (7, [.ref q4, .int 0]))] := hD
  have hK : va_K (dC, dI) vwCl [] s := hK
  refine W.widen (k := 0) (n := 0) (Nat.le_of_ble_eq_true rfl) (Nat.le_of_ble_eq_true rfl) ?_
  refine lv_aload_n hx hb dX9_read_17 rfl (lv_at hl 1 rfl) ?_
  refine va_get (D := (dC, dI)) (ci := 12) (v := .ref q3) (C := RX9) (T := TX9) (N := 6) hx hb hts (fun _ h => List.mem_cons_of_mem _ (List.mem_append_left _ (List.mem_append_left _ (List.mem_append_left _ (List.mem_append_left _ (List.mem_append_left _ (List.mem_append_left _ (List.mem_append_right _ h)))))))) hown hK hP 0 rfl rfl 1 (by decide) (hts (.fieldLink RX9 16 "Seekwell$Text" "body" "LSeekwell$Row;") (by decide +kernel)) (fun _ h9 => h9) rfl dX9_read_18 ?_
  refine lv_aload_n hx hb dX9_read_21 rfl (lv_at hl 2 rfl) ?_
  refine lv_iload_n hx hb dX9_read_22 rfl (lv_at hl 0 rfl) ?_
  refine lv_iconst (v := 1) hx hb dX9_read_23 (by decide +kernel) ?_
  refine lv_iadd hx hb dX9_read_24 ?_
  refine zt_i (v := 0) (by decide +kernel) ?_
  refine lv_aload_n hx hb dX9_read_25 rfl (lv_at hl 2 rfl) ?_
  have hPc := hP.sub (ws' := [(q1, .inr (7, [.ref q4, .int 0]))]) [2] rfl
  have hDc := hD.sub (ws' := [(q1, .inr (7, [.ref q4, .int 0]))]) [2] (by decide) rfl
  have hKc := hK.sub (tys' := []) [] rfl
  have hFc := va_free (wc := [(q1, .inr (7, [.ref q4, .int 0]))]) hD hS hA [2] rfl
  refine va_calli (va_runV (As := []) (rest := [.int 0, .ref q1, .ref q3]) ⟨hx, hb, hml, hown, hts⟩ (c_X4_size l dC dI q1 q4 H.size  ) (cwV 0 hts gX9_read_X4_size rfl rfl rfl (by decide +kernel) ⟨Nat.le_of_ble_eq_true rfl, Nat.le_of_ble_eq_true rfl⟩) ⟨zB_blind, va_recv hK hP (ci := 7) (q0 := 2) rfl rfl, (zPre hPc hDc hKc hS hFc hZ hN)⟩ rfl rfl hl.1 rfl (lv_room (Nat.le_of_ble_eq_true rfl)) dX9_read_26 ⟨Nat.le_of_ble_eq_true rfl, Nat.le_of_ble_eq_true rfl⟩) hS (fun q _ h => hFc q h) hFc (fun r u t H1 locs ht hvm hw hB hz1 hk1 hS => ?_)
  subst hw
  obtain ⟨hP1, hK1, hD1⟩ := hB
  rw [ht] at hP1
  have hK1 := va_K.moved hvm.symm hK1
  obtain ⟨hP, hD⟩ := va_join (wr := [(q3, .inr (10, [.ref q6, .int 0]))]) (w1 := [(q1, .inr (7, [.ref q4, .int 0]))]) hP hD [2] [1] rfl rfl (by decide) (by decide) hk1 hFc hP1 hD1
  have hK := (hK.sub (tys' := []) [] rfl).app hK1
  generalize H1 = H at hP hS ⊢
  have hP : va_P (dC, dI) vwCl [(q3, .inr (10, [.ref q6, .int 0])), (q1, .inr (7, [.ref q4, .int 0]))] H := hP
  have hD : va_D A [(q3, .inr (10, [.ref q6, .int 0])), (q1, .inr (7, [.ref q4, .int 0]))] := hD
  have hK : va_K (dC, dI) vwCl [] s := hK
  refine W.widen (k := 0) (n := 0) (Nat.le_of_ble_eq_true rfl) (Nat.le_of_ble_eq_true rfl) ?_
  have hPc := hP.sub (ws' := [(q3, .inr (10, [.ref q6, .int 0]))]) [0] rfl
  have hDc := hD.sub (ws' := [(q3, .inr (10, [.ref q6, .int 0]))]) [0] (by decide) rfl
  have hKc := hK.sub (tys' := []) [] rfl
  have hFc := va_free (wc := [(q3, .inr (10, [.ref q6, .int 0]))]) hD hS hA [0] rfl
  refine va_callv (va_runV (As := [.ref q1, .int 0, .int 0]) (rest := []) ⟨hx, hb, hml, hown, hts⟩ (c_X7_read_2 l dC dI q3 q1 q6 H.size  ) (cwV 3 hts gX9_read_X7_read rfl rfl rfl (by decide +kernel) ⟨Nat.le_of_ble_eq_true rfl, Nat.le_of_ble_eq_true rfl⟩) ⟨zB_blind, va_recv hK hP (ci := 10) (q0 := 0) rfl rfl, (zPre hPc hDc hKc hS hFc hZ hN)⟩ rfl rfl hl.1 rfl (lv_room (Nat.le_of_ble_eq_true rfl)) dX9_read_29 ⟨Nat.le_of_ble_eq_true rfl, Nat.le_of_ble_eq_true rfl⟩) hS (fun q _ h => hFc q h) hFc (fun u t H1 locs ht hvm hw hB hz1 hk1 hS => ?_)
  obtain ⟨hP1, hK1, hD1⟩ := hB
  rw [ht] at hP1
  have hK1 := va_K.moved hvm.symm hK1
  obtain ⟨hP, hD⟩ := va_join (wr := [(q1, .inr (7, [.ref q4, .int 0]))]) (w1 := []) hP hD [0] [1] rfl rfl (by decide) (by decide) hk1 hFc hP1 hD1
  have hK := (hK.sub (tys' := []) [] rfl).app hK1
  generalize H1 = H at hP hS ⊢
  have hP : va_P (dC, dI) vwCl [(q1, .inr (7, [.ref q4, .int 0]))] H := hP
  have hD : va_D A [(q1, .inr (7, [.ref q4, .int 0]))] := hD
  have hK : va_K (dC, dI) vwCl [] s := hK
  refine W.widen (k := 0) (n := 0) (Nat.le_of_ble_eq_true rfl) (Nat.le_of_ble_eq_true rfl) ?_
  have hP9 := hP.sub (ws' := [(q1, .inr (7, [.ref q4, .int 0]))]) [0] rfl
  have hD9 := hD.sub (ws' := [(q1, .inr (7, [.ref q4, .int 0]))]) [0] (by decide) rfl
  have hK9 := hK.sub (tys' := []) [] rfl
  exact W.vret hx hb hr (fun t ht hW => ⟨⟨(), rfl, trivial, ⟨by rw [ht]; exact hP9, va_K.moved hW.alike hK9, hD9⟩⟩, hS.F ht⟩) hS.2.2 dX9_read_32
set_option maxHeartbeats 4000000 in
set_option maxRecDepth 100000 in
theorem c_X8_come (l : Launch) (dC : Nat → ClassId) (dI : Nat → Nat → Nat) (q0 q1 q2 q3 : Nat) (k0 : ClassId) (sz : Nat) (p2 : Int32) (p3 : Int32) (hc0 : narrow .char (.int p3) = .int p3) (hc1 : fits .char (.int p3) = true) : Met l yX8_come wsX8_come ({ frames := 4, cells := 5, slots := 18, locals := 82 }) (va_Pc [.ref q0, .ref q1, .int p2, .int p3] (zB (dC, dI) [(k0, (.object "Seekwell$Text"))] [(q0, .inr (11, [.ref q2, .int 0, .int 1])), (q2, .inl (k0, 24, .inr (.inr (.inr (.inr (fun _ => none)))))), (q1, .inr (7, [.ref q3, .int 0]))] sz)) (va_Qi (fun (r : Int32) (_ : Unit) => 0 = r) (fun _ t => zE (dC, dI) [] [(q1, .inr (7, [.ref q3, .int 0]))] (va_A [(q0, .inr (11, [.ref q2, .int 0, .int 1])), (q2, .inl (k0, 24, .inr (.inr (.inr (.inr (fun _ => none)))))), (q1, .inr (7, [.ref q3, .int 0]))] sz) t) (va_A [(q0, .inr (11, [.ref q2, .int 0, .int 1])), (q2, .inl (k0, 24, .inr (.inr (.inr (.inr (fun _ => none)))))), (q1, .inr (7, [.ref q3, .int 0]))] sz)) 5 18 (va_A [(q0, .inr (11, [.ref q2, .int 0, .int 1])), (q2, .inl (k0, 24, .inr (.inr (.inr (.inr (fun _ => none)))))), (q1, .inr (7, [.ref q3, .int 0]))] sz) := by
  refine Met.ofW (cc := cX8_come) (maxL := 5) (ret := (some .int)) (by decide) rfl ?_
  intro p e s m args below meth c s₁ B hml hv
  obtain ⟨rfl, hsz, hP, hK, hD0, hZ, hN⟩ := hv
  have hx := B.exec
  have hb := B.bytes
  have hr := B.returns
  have hts := atoms_spec (ws := wsX8_come) B.pre
  have hown : s.vm.findClass RX8 = some m.cls := findClass_of_methodNamed B.named
  have hlocks := B.notSynchronized
  subst hsz
  have hD := hD0.self (sz := s.heap.size)
  generalize hAe : va_A [(q0, .inr (11, [.ref q2, .int 0, .int 1])), (q2, .inl (k0, 24, .inr (.inr (.inr (.inr (fun _ => none)))))), (q1, .inr (7, [.ref q3, .int 0]))] s.heap.size = A at hD hZ ⊢
  have hA : ∀ q : Nat, s.heap.size ≤ q → A q := fun q h => by rw [← hAe]; exact Or.inr h
  have hS : va_S A s.heap s.heap [] := va_S.rf
  have hP : va_P (dC, dI) vwCl [(q0, .inr (11, [.ref q2, .int 0, .int 1])), (q2, .inl (k0, 24, .inr (.inr (.inr (.inr (fun _ => none)))))), (q1, .inr (7, [.ref q3, .int 0]))] s.heap := hP
  have hl := lv_entry ([.ref q0, .ref q1, .int p2, .int p3]) (n := 5) (Nat.le_of_ble_eq_true rfl)
  rw [lg_entry_eq]
  generalize (lg_sl ([.ref q0, .ref q1, .int p2, .int p3]) ++ List.replicate (5 - (lg_sl ([.ref q0, .ref q1, .int p2, .int p3])).length) Slot.unset).toArray = ls at hl ⊢
  have hl : lv_has ls 5 [(0, .ref q0), (1, .ref q1), (2, .int p2), (3, .int p3)] := hl
  refine lv_aload_n hx hb dX8_come_0 rfl (lv_at hl 0 rfl) ?_
  refine lv_aload_n hx hb dX8_come_1 rfl (lv_at hl 0 rfl) ?_
  refine va_get (D := (dC, dI)) (ci := 11) (v := .int 0) (C := RX8) (T := TX8) (N := 3) hx hb hts (fun _ h => List.mem_cons_of_mem _ (List.mem_append_left _ (List.mem_append_left _ (List.mem_append_left _ (List.mem_append_left _ (List.mem_append_left _ (List.mem_append_left _ (List.mem_append_left _ (List.mem_append_right _ h))))))))) hown hK hP 0 rfl rfl 1 (by decide) (hts (.fieldLink RX8 17 "Seekwell$Shelf" "came" "I") (by decide +kernel)) (fun _ h9 => h9) rfl dX8_come_2 ?_
  have hPc := hP.sub (ws' := [(q0, .inr (11, [.ref q2, .int 0, .int 1])), (q2, .inl (k0, 24, .inr (.inr (.inr (.inr (fun _ => none))))))]) [0, 1] rfl
  have hDc := hD.sub (ws' := [(q0, .inr (11, [.ref q2, .int 0, .int 1])), (q2, .inl (k0, 24, .inr (.inr (.inr (.inr (fun _ => none))))))]) [0, 1] (by decide) rfl
  have hKc := hK.sub (tys' := [(k0, (.object "Seekwell$Text"))]) [0] rfl
  have hFc := va_free (wc := [(q0, .inr (11, [.ref q2, .int 0, .int 1])), (q2, .inl (k0, 24, .inr (.inr (.inr (.inr (fun _ => none))))))]) hD hS hA [0, 1] rfl
  refine va_callr (va_runV (As := [.int 0]) (rest := []) ⟨hx, hb, hml, hown, hts⟩ (c_X8_place l dC dI q0 q2 k0 s.heap.size  ) (cwV 1 hts gX8_come_X8_place rfl rfl rfl (by decide +kernel) ⟨Nat.le_of_ble_eq_true rfl, Nat.le_of_ble_eq_true rfl⟩) ⟨zB_blind, va_recv hK hP (ci := 11) (q0 := 0) rfl rfl, (zPre hPc hDc hKc hS hFc hZ hN)⟩ rfl rfl hl.1 rfl (lv_room (Nat.le_of_ble_eq_true rfl)) dX8_come_5 ⟨Nat.le_of_ble_eq_true rfl, Nat.le_of_ble_eq_true rfl⟩) hS (fun q _ h => hFc q h) hFc (fun u ra t H1 locs ht hvm hw hB hz1 hk1 hS => ?_)
  obtain ⟨q4, q5, q6, q7, q8, hra, hP1, hK1, hD1⟩ := hB
  subst hra
  rw [ht] at hP1
  have hK1 := va_K.moved hvm.symm hK1
  obtain ⟨hP, hD⟩ := va_join (wr := [(q1, .inr (7, [.ref q3, .int 0]))]) (w1 := [(q0, .inr (11, [.ref q2, .int 0, .int 1])), (q4, .inr (12, [.ref q5, .ref q6, .int 0, .int 97, .int 0, .int 1])), (q5, .inr (10, [.ref q7, .int 0])), (q6, .inr (10, [.ref q8, .int 0]))]) hP hD [0, 1] [2] rfl rfl (by decide) (by decide) hk1 hFc hP1 hD1
  have hK := (hK.sub (tys' := []) [] rfl).app hK1
  generalize H1 = H at hP hS ⊢
  have hP : va_P (dC, dI) vwCl [(q1, .inr (7, [.ref q3, .int 0])), (q0, .inr (11, [.ref q2, .int 0, .int 1])), (q4, .inr (12, [.ref q5, .ref q6, .int 0, .int 97, .int 0, .int 1])), (q5, .inr (10, [.ref q7, .int 0])), (q6, .inr (10, [.ref q8, .int 0]))] H := hP
  have hD : va_D A [(q1, .inr (7, [.ref q3, .int 0])), (q0, .inr (11, [.ref q2, .int 0, .int 1])), (q4, .inr (12, [.ref q5, .ref q6, .int 0, .int 97, .int 0, .int 1])), (q5, .inr (10, [.ref q7, .int 0])), (q6, .inr (10, [.ref q8, .int 0]))] := hD
  have hK : va_K (dC, dI) vwCl [] s := hK
  refine W.widen (k := 5) (n := 18) (Nat.le_of_ble_eq_true rfl) (Nat.le_of_ble_eq_true rfl) ?_
  refine lv_astore (lv' := [(4, .ref q4), (0, .ref q0), (1, .ref q1), (2, .int p2), (3, .int p3)]) hx hb dX8_come_8 hl (by decide) rfl (fun ls hl => ?_)
  refine lv_aload hx hb dX8_come_10 (lv_at hl 0 rfl) ?_
  refine lv_ifnonnull (tgt := 20) hx hb dX8_come_12 (by decide) ?_
  refine lv_aload_n hx hb dX8_come_20 rfl (lv_at hl 1 rfl) ?_
  refine lv_dup hx hb dX8_come_21 rfl ?_
  refine va_get (D := (dC, dI)) (ci := 11) (v := .int 0) (C := RX8) (T := TX8) (N := 3) hx hb hts (fun _ h => List.mem_cons_of_mem _ (List.mem_append_left _ (List.mem_append_left _ (List.mem_append_left _ (List.mem_append_left _ (List.mem_append_left _ (List.mem_append_left _ (List.mem_append_left _ (List.mem_append_right _ h))))))))) hown hK hP 1 rfl rfl 1 (by decide) (hts (.fieldLink RX8 17 "Seekwell$Shelf" "came" "I") (by decide +kernel)) (fun _ h9 => h9) rfl dX8_come_22 ?_
  refine lv_iconst (v := 1) hx hb dX8_come_25 (by decide +kernel) ?_
  refine lv_iadd hx hb dX8_come_26 ?_
  refine zt_i (v := 1) (by decide +kernel) ?_
  refine va_put (D := (dC, dI)) (ci := 11) (v := .int 1) (ty := .int) (C := RX8) (T := TX8) (N := 3) hx hb hts (fun _ h => List.mem_cons_of_mem _ (List.mem_append_left _ (List.mem_append_left _ (List.mem_append_left _ (List.mem_append_left _ (List.mem_append_left _ (List.mem_append_left _ (List.mem_append_left _ (List.mem_append_right _ h))))))))) tyX8 tyX8_ok nmX8 hown hK hP hD hS 1 rfl rfl 1 (by decide) (hts (.fieldLink RX8 17 "Seekwell$Shelf" "came" "I") (by decide +kernel)) (fun _ h9 => h9) rfl (by decide +kernel) rfl rfl (Nat.le_of_ble_eq_true rfl) dX8_come_27 (fun H locs hP hD hS => ?_)
  have hP : va_P (dC, dI) vwCl [(q1, .inr (7, [.ref q3, .int 0])), (q0, .inr (11, [.ref q2, .int 1, .int 1])), (q4, .inr (12, [.ref q5, .ref q6, .int 0, .int 97, .int 0, .int 1])), (q5, .inr (10, [.ref q7, .int 0])), (q6, .inr (10, [.ref q8, .int 0]))] H := hP
  have hD : va_D A [(q1, .inr (7, [.ref q3, .int 0])), (q0, .inr (11, [.ref q2, .int 1, .int 1])), (q4, .inr (12, [.ref q5, .ref q6, .int 0, .int 97, .int 0, .int 1])), (q5, .inr (10, [.ref q7, .int 0])), (q6, .inr (10, [.ref q8, .int 0]))] := hD
  refine lv_aload hx hb dX8_come_30 (lv_at hl 0 rfl) ?_
  refine lv_iload_n hx hb dX8_come_32 rfl (lv_at hl 3 rfl) ?_
  refine va_put (D := (dC, dI)) (ci := 12) (v := .int p2) (ty := .int) (C := RX9) (T := TX9) (N := 6) hx hb hts (fun _ h => List.mem_cons_of_mem _ (List.mem_append_left _ (List.mem_append_left _ (List.mem_append_left _ (List.mem_append_left _ (List.mem_append_left _ (List.mem_append_left _ (List.mem_append_right _ h)))))))) tyX9 tyX9_ok nmX9 hown hK hP hD hS 2 rfl rfl 2 (by decide) (hts (.fieldLink RX8 36 "Seekwell$Text" "value" "I") (by decide +kernel)) (fun _ h9 => h9) rfl (by decide +kernel) rfl rfl (Nat.le_of_ble_eq_true rfl) dX8_come_33 (fun H locs hP hD hS => ?_)
  have hP : va_P (dC, dI) vwCl [(q1, .inr (7, [.ref q3, .int 0])), (q0, .inr (11, [.ref q2, .int 1, .int 1])), (q4, .inr (12, [.ref q5, .ref q6, .int p2, .int 97, .int 0, .int 1])), (q5, .inr (10, [.ref q7, .int 0])), (q6, .inr (10, [.ref q8, .int 0]))] H := hP
  have hD : va_D A [(q1, .inr (7, [.ref q3, .int 0])), (q0, .inr (11, [.ref q2, .int 1, .int 1])), (q4, .inr (12, [.ref q5, .ref q6, .int p2, .int 97, .int 0, .int 1])), (q5, .inr (10, [.ref q7, .int 0])), (q6, .inr (10, [.ref q8, .int 0]))] := hD
  refine lv_aload hx hb dX8_come_36 (lv_at hl 0 rfl) ?_
  refine lv_iload_n hx hb dX8_come_38 rfl (lv_at hl 4 rfl) ?_
  refine va_put (D := (dC, dI)) (ci := 12) (v := .int p3) (ty := .char) (C := RX9) (T := TX9) (N := 6) hx hb hts (fun _ h => List.mem_cons_of_mem _ (List.mem_append_left _ (List.mem_append_left _ (List.mem_append_left _ (List.mem_append_left _ (List.mem_append_left _ (List.mem_append_left _ (List.mem_append_right _ h)))))))) tyX9 tyX9_ok nmX9 hown hK hP hD hS 2 rfl rfl 3 (by decide) (hts (.fieldLink RX8 39 "Seekwell$Text" "tag" "C") (by decide +kernel)) (fun _ h9 => h9) rfl (by decide +kernel) hc0 hc1 (Nat.le_of_ble_eq_true rfl) dX8_come_39 (fun H locs hP hD hS => ?_)
  have hP : va_P (dC, dI) vwCl [(q1, .inr (7, [.ref q3, .int 0])), (q0, .inr (11, [.ref q2, .int 1, .int 1])), (q4, .inr (12, [.ref q5, .ref q6, .int p2, .int p3, .int 0, .int 1])), (q5, .inr (10, [.ref q7, .int 0])), (q6, .inr (10, [.ref q8, .int 0]))] H := hP
  have hD : va_D A [(q1, .inr (7, [.ref q3, .int 0])), (q0, .inr (11, [.ref q2, .int 1, .int 1])), (q4, .inr (12, [.ref q5, .ref q6, .int p2, .int p3, .int 0, .int 1])), (q5, .inr (10, [.ref q7, .int 0])), (q6, .inr (10, [.ref q8, .int 0]))] := hD
  refine lv_aload hx hb dX8_come_42 (lv_at hl 0 rfl) ?_
  refine lv_aload_n hx hb dX8_come_44 rfl (lv_at hl 2 rfl) ?_
  have hPc := hP.sub (ws' := [(q4, .inr (12, [.ref q5, .ref q6, .int p2, .int p3, .int 0, .int 1])), (q1, .inr (7, [.ref q3, .int 0])), (q5, .inr (10, [.ref q7, .int 0])), (q6, .inr (10, [.ref q8, .int 0]))]) [2, 0, 3, 4] rfl
  have hDc := hD.sub (ws' := [(q4, .inr (12, [.ref q5, .ref q6, .int p2, .int p3, .int 0, .int 1])), (q1, .inr (7, [.ref q3, .int 0])), (q5, .inr (10, [.ref q7, .int 0])), (q6, .inr (10, [.ref q8, .int 0]))]) [2, 0, 3, 4] (by decide) rfl
  have hKc := hK.sub (tys' := []) [] rfl
  have hFc := va_free (wc := [(q4, .inr (12, [.ref q5, .ref q6, .int p2, .int p3, .int 0, .int 1])), (q1, .inr (7, [.ref q3, .int 0])), (q5, .inr (10, [.ref q7, .int 0])), (q6, .inr (10, [.ref q8, .int 0]))]) hD hS hA [2, 0, 3, 4] rfl
  refine va_callv (va_runV (As := [.ref q1]) (rest := []) ⟨hx, hb, hml, hown, hts⟩ (c_X9_read l dC dI q4 q1 q5 q6 q3 q7 q8 H.size  p2 p3 ) (cwV 1 hts gX8_come_X9_read rfl rfl rfl (by decide +kernel) ⟨Nat.le_of_ble_eq_true rfl, Nat.le_of_ble_eq_true rfl⟩) ⟨zB_blind, va_recv hK hP (ci := 12) (q0 := 2) rfl rfl, (zPre hPc hDc hKc hS hFc hZ hN)⟩ rfl rfl hl.1 rfl (lv_room (Nat.le_of_ble_eq_true rfl)) dX8_come_45 ⟨Nat.le_of_ble_eq_true rfl, Nat.le_of_ble_eq_true rfl⟩) hS (fun q _ h => hFc q h) hFc (fun u t H1 locs ht hvm hw hB hz1 hk1 hS => ?_)
  obtain ⟨hP1, hK1, hD1⟩ := hB
  rw [ht] at hP1
  have hK1 := va_K.moved hvm.symm hK1
  obtain ⟨hP, hD⟩ := va_join (wr := [(q0, .inr (11, [.ref q2, .int 1, .int 1]))]) (w1 := [(q1, .inr (7, [.ref q3, .int 0]))]) hP hD [2, 0, 3, 4] [1] rfl rfl (by decide) (by decide) hk1 hFc hP1 hD1
  have hK := (hK.sub (tys' := []) [] rfl).app hK1
  generalize H1 = H at hP hS ⊢
  have hP : va_P (dC, dI) vwCl [(q0, .inr (11, [.ref q2, .int 1, .int 1])), (q1, .inr (7, [.ref q3, .int 0]))] H := hP
  have hD : va_D A [(q0, .inr (11, [.ref q2, .int 1, .int 1])), (q1, .inr (7, [.ref q3, .int 0]))] := hD
  have hK : va_K (dC, dI) vwCl [] s := hK
  refine W.widen (k := 5) (n := 18) (Nat.le_of_ble_eq_true rfl) (Nat.le_of_ble_eq_true rfl) ?_
  refine lv_aload_n hx hb dX8_come_48 rfl (lv_at hl 1 rfl) ?_
  refine va_get (D := (dC, dI)) (ci := 11) (v := .int 1) (C := RX8) (T := TX8) (N := 3) hx hb hts (fun _ h => List.mem_cons_of_mem _ (List.mem_append_left _ (List.mem_append_left _ (List.mem_append_left _ (List.mem_append_left _ (List.mem_append_left _ (List.mem_append_left _ (List.mem_append_left _ (List.mem_append_right _ h))))))))) hown hK hP 0 rfl rfl 1 (by decide) (hts (.fieldLink RX8 17 "Seekwell$Shelf" "came" "I") (by decide +kernel)) (fun _ h9 => h9) rfl dX8_come_49 ?_
  refine lv_iconst (v := 1) hx hb dX8_come_52 (by decide +kernel) ?_
  refine lv_isub hx hb dX8_come_53 ?_
  refine zt_i (v := 0) (by decide +kernel) ?_
  have hP9 := hP.sub (ws' := [(q1, .inr (7, [.ref q3, .int 0]))]) [1] rfl
  have hD9 := hD.sub (ws' := [(q1, .inr (7, [.ref q3, .int 0]))]) [1] (by decide) rfl
  have hK9 := hK.sub (tys' := []) [] rfl
  exact W.iret (v := 0) hx hb hr (fun t ht hW => ⟨⟨0, (), rfl, rfl, ⟨by rw [ht]; exact hP9, va_K.moved hW.alike hK9, hD9⟩⟩, hS.F ht⟩) hS.2.2 dX8_come_54
set_option maxHeartbeats 4000000 in
set_option maxRecDepth 100000 in
theorem c_X11_add_5 (l : Launch) (dC : Nat → ClassId) (dI : Nat → Nat → Nat) (q0 q1 q2 q3 q4 q5 q6 q7 q8 q9 q10 q11 q12 q13 q14 q15 : Nat) (k0 : ClassId) (sz : Nat) (p1 : Int32) (p2 : Int32) (hc0 : ¬ p1 < 0) (hc1 : ¬ (999 : Int32) < p1) (hc2 : ¬ p2 < 97) (hc3 : ¬ (122 : Int32) < p2) (hc4 : narrow .char (.int p2) = .int p2) (hc5 : fits .char (.int p2) = true) : Met l yX11_add wsX11_add ({ frames := 5, cells := 5, slots := 18, locals := 106 }) (va_Pc [.ref q0, .int p1, .int p2] (zB (dC, dI) [(k0, (.object "Seekwell$Text"))] [(q0, .inr (13, [.ref q1, .ref q2, .ref q3, .ref q4, .ref q5, .ref q6, .ref q7, .ref q8, .int 0, .ref q9, .ref q10, .ref q11, .ref q12, .ref q13])), (q2, .inr (11, [.ref q14, .int 0, .int 1])), (q14, .inl (k0, 24, .inr (.inr (.inr (.inr (fun _ => none)))))), (q1, .inr (7, [.ref q15, .int 0]))] sz)) (va_Qi (fun (r : Int32) (_ : Unit) => 0 = r) (fun _ t => zE (dC, dI) [] [] (va_A [(q0, .inr (13, [.ref q1, .ref q2, .ref q3, .ref q4, .ref q5, .ref q6, .ref q7, .ref q8, .int 0, .ref q9, .ref q10, .ref q11, .ref q12, .ref q13])), (q2, .inr (11, [.ref q14, .int 0, .int 1])), (q14, .inl (k0, 24, .inr (.inr (.inr (.inr (fun _ => none)))))), (q1, .inr (7, [.ref q15, .int 0]))] sz) t) (va_A [(q0, .inr (13, [.ref q1, .ref q2, .ref q3, .ref q4, .ref q5, .ref q6, .ref q7, .ref q8, .int 0, .ref q9, .ref q10, .ref q11, .ref q12, .ref q13])), (q2, .inr (11, [.ref q14, .int 0, .int 1])), (q14, .inl (k0, 24, .inr (.inr (.inr (.inr (fun _ => none)))))), (q1, .inr (7, [.ref q15, .int 0]))] sz)) 5 18 (va_A [(q0, .inr (13, [.ref q1, .ref q2, .ref q3, .ref q4, .ref q5, .ref q6, .ref q7, .ref q8, .int 0, .ref q9, .ref q10, .ref q11, .ref q12, .ref q13])), (q2, .inr (11, [.ref q14, .int 0, .int 1])), (q14, .inl (k0, 24, .inr (.inr (.inr (.inr (fun _ => none)))))), (q1, .inr (7, [.ref q15, .int 0]))] sz) := by
  refine Met.ofW (cc := cX11_add) (maxL := 4) (ret := (some .int)) (by decide) rfl ?_
  intro p e s m args below meth c s₁ B hml hv
  obtain ⟨rfl, hsz, hP, hK, hD0, hZ, hN⟩ := hv
  have hx := B.exec
  have hb := B.bytes
  have hr := B.returns
  have hts := atoms_spec (ws := wsX11_add) B.pre
  have hown : s.vm.findClass RX11 = some m.cls := findClass_of_methodNamed B.named
  have hlocks := B.notSynchronized
  subst hsz
  have hD := hD0.self (sz := s.heap.size)
  generalize hAe : va_A [(q0, .inr (13, [.ref q1, .ref q2, .ref q3, .ref q4, .ref q5, .ref q6, .ref q7, .ref q8, .int 0, .ref q9, .ref q10, .ref q11, .ref q12, .ref q13])), (q2, .inr (11, [.ref q14, .int 0, .int 1])), (q14, .inl (k0, 24, .inr (.inr (.inr (.inr (fun _ => none)))))), (q1, .inr (7, [.ref q15, .int 0]))] s.heap.size = A at hD hZ ⊢
  have hA : ∀ q : Nat, s.heap.size ≤ q → A q := fun q h => by rw [← hAe]; exact Or.inr h
  have hS : va_S A s.heap s.heap [] := va_S.rf
  have hP : va_P (dC, dI) vwCl [(q0, .inr (13, [.ref q1, .ref q2, .ref q3, .ref q4, .ref q5, .ref q6, .ref q7, .ref q8, .int 0, .ref q9, .ref q10, .ref q11, .ref q12, .ref q13])), (q2, .inr (11, [.ref q14, .int 0, .int 1])), (q14, .inl (k0, 24, .inr (.inr (.inr (.inr (fun _ => none)))))), (q1, .inr (7, [.ref q15, .int 0]))] s.heap := hP
  have hl := lv_entry ([.ref q0, .int p1, .int p2]) (n := 4) (Nat.le_of_ble_eq_true rfl)
  rw [lg_entry_eq]
  generalize (lg_sl ([.ref q0, .int p1, .int p2]) ++ List.replicate (4 - (lg_sl ([.ref q0, .int p1, .int p2])).length) Slot.unset).toArray = ls at hl ⊢
  have hl : lv_has ls 4 [(0, .ref q0), (1, .int p1), (2, .int p2)] := hl
  refine lv_iload_n hx hb dX11_add_0 rfl (lv_at hl 1 rfl) ?_
  refine lv_if_lt (tgt := 18) hx hb dX11_add_1 (by decide) (fun h9 => absurd h9 hc0) (fun _ => ?_)
  refine lv_iload_n hx hb dX11_add_4 rfl (lv_at hl 1 rfl) ?_
  refine lv_sipush (v := 999) hx hb dX11_add_5 (by decide +kernel) ?_
  refine lv_icmp_gt (tgt := 18) hx hb dX11_add_8 (by decide) (fun h9 => absurd h9 hc1) (fun _ => ?_)
  refine lv_iload_n hx hb dX11_add_11 rfl (lv_at hl 2 rfl) ?_
  have hPc := hP.sub (ws' := []) [] rfl
  have hDc := hD.sub (ws' := []) [] (by decide) rfl
  have hKc := hK.sub (tys' := []) [] rfl
  have hFc := va_free (wc := []) hD hS hA [] rfl
  refine va_calli (va_runS (As := [.int p2]) (rest := []) ⟨hx, hb, hml, hown, hts⟩ (c_X11_isTag_3 l dC dI  s.heap.size p2 hc2 hc3) (va_cwS 1 hts gX11_add_X11_isTag rfl rfl rfl (by decide +kernel) ⟨Nat.le_of_ble_eq_true rfl, Nat.le_of_ble_eq_true rfl⟩) ⟨zB_blind, (zPre hPc hDc hKc hS hFc hZ hN)⟩ rfl rfl hl.1 rfl (lv_room (Nat.le_of_ble_eq_true rfl)) dX11_add_12 ⟨Nat.le_of_ble_eq_true rfl, Nat.le_of_ble_eq_true rfl⟩) hS (fun q _ h => hFc q h) hFc (fun r u t H1 locs ht hvm hw hB hz1 hk1 hS => ?_)
  subst hw
  obtain ⟨hP1, hK1, hD1⟩ := hB
  rw [ht] at hP1
  have hK1 := va_K.moved hvm.symm hK1
  obtain ⟨hP, hD⟩ := va_join (wr := [(q0, .inr (13, [.ref q1, .ref q2, .ref q3, .ref q4, .ref q5, .ref q6, .ref q7, .ref q8, .int 0, .ref q9, .ref q10, .ref q11, .ref q12, .ref q13])), (q2, .inr (11, [.ref q14, .int 0, .int 1])), (q14, .inl (k0, 24, .inr (.inr (.inr (.inr (fun _ => none)))))), (q1, .inr (7, [.ref q15, .int 0]))]) (w1 := []) hP hD [] [0, 1, 2, 3] rfl rfl (by decide) (by decide) hk1 hFc hP1 hD1
  have hK := (hK.sub (tys' := [(k0, (.object "Seekwell$Text"))]) [0] rfl).app hK1
  generalize H1 = H at hP hS ⊢
  have hP : va_P (dC, dI) vwCl [(q0, .inr (13, [.ref q1, .ref q2, .ref q3, .ref q4, .ref q5, .ref q6, .ref q7, .ref q8, .int 0, .ref q9, .ref q10, .ref q11, .ref q12, .ref q13])), (q2, .inr (11, [.ref q14, .int 0, .int 1])), (q14, .inl (k0, 24, .inr (.inr (.inr (.inr (fun _ => none)))))), (q1, .inr (7, [.ref q15, .int 0]))] H := hP
  have hD : va_D A [(q0, .inr (13, [.ref q1, .ref q2, .ref q3, .ref q4, .ref q5, .ref q6, .ref q7, .ref q8, .int 0, .ref q9, .ref q10, .ref q11, .ref q12, .ref q13])), (q2, .inr (11, [.ref q14, .int 0, .int 1])), (q14, .inl (k0, 24, .inr (.inr (.inr (.inr (fun _ => none)))))), (q1, .inr (7, [.ref q15, .int 0]))] := hD
  have hK : va_K (dC, dI) vwCl [(k0, (.object "Seekwell$Text"))] s := hK
  refine W.widen (k := 0) (n := 0) (Nat.le_of_ble_eq_true rfl) (Nat.le_of_ble_eq_true rfl) ?_
  refine lv_if_ne (tgt := 28) hx hb dX11_add_15 (by decide) (fun _ => ?_) (fun h9 => absurd h9 (show ¬ (1 : Int32) = (0 : Int32) by decide +kernel))
  refine lv_aload_n hx hb dX11_add_28 rfl (lv_at hl 0 rfl) ?_
  refine va_get (D := (dC, dI)) (ci := 13) (v := .ref q2) (C := RX11) (T := TX11) (N := 14) hx hb hts (fun _ h => List.mem_cons_of_mem _ (List.mem_append_left _ (List.mem_append_left _ (List.mem_append_left _ (List.mem_append_left _ (List.mem_append_left _ (List.mem_append_left _ (List.mem_append_left _ (List.mem_append_left _ (List.mem_append_left _ (List.mem_append_left _ (List.mem_append_right _ h)))))))))))) hown hK hP 0 rfl rfl 1 (by decide) (hts (.fieldLink RX11 19 "Seekwell" "shelf" "LSeekwell$Shelf;") (by decide +kernel)) (fun _ h9 => h9) rfl dX11_add_29 ?_
  have hPc := hP.sub (ws' := [(q2, .inr (11, [.ref q14, .int 0, .int 1]))]) [1] rfl
  have hDc := hD.sub (ws' := [(q2, .inr (11, [.ref q14, .int 0, .int 1]))]) [1] (by decide) rfl
  have hKc := hK.sub (tys' := []) [] rfl
  have hFc := va_free (wc := [(q2, .inr (11, [.ref q14, .int 0, .int 1]))]) hD hS hA [1] rfl
  refine va_calli (va_runV (As := []) (rest := []) ⟨hx, hb, hml, hown, hts⟩ (c_X8_came l dC dI q2 q14 H.size  ) (cwV 0 hts gX11_add_X8_came rfl rfl rfl (by decide +kernel) ⟨Nat.le_of_ble_eq_true rfl, Nat.le_of_ble_eq_true rfl⟩) ⟨zB_blind, va_recv hK hP (ci := 11) (q0 := 1) rfl rfl, (zPre hPc hDc hKc hS hFc hZ hN)⟩ rfl rfl hl.1 rfl (lv_room (Nat.le_of_ble_eq_true rfl)) dX11_add_32 ⟨Nat.le_of_ble_eq_true rfl, Nat.le_of_ble_eq_true rfl⟩) hS (fun q _ h => hFc q h) hFc (fun r u t H1 locs ht hvm hw hB hz1 hk1 hS => ?_)
  subst hw
  obtain ⟨hP1, hK1, hD1⟩ := hB
  rw [ht] at hP1
  have hK1 := va_K.moved hvm.symm hK1
  obtain ⟨hP, hD⟩ := va_join (wr := [(q0, .inr (13, [.ref q1, .ref q2, .ref q3, .ref q4, .ref q5, .ref q6, .ref q7, .ref q8, .int 0, .ref q9, .ref q10, .ref q11, .ref q12, .ref q13])), (q14, .inl (k0, 24, .inr (.inr (.inr (.inr (fun _ => none)))))), (q1, .inr (7, [.ref q15, .int 0]))]) (w1 := [(q2, .inr (11, [.ref q14, .int 0, .int 1]))]) hP hD [1] [0, 2, 3] rfl rfl (by decide) (by decide) hk1 hFc hP1 hD1
  have hK := (hK.sub (tys' := [(k0, (.object "Seekwell$Text"))]) [0] rfl).app hK1
  generalize H1 = H at hP hS ⊢
  have hP : va_P (dC, dI) vwCl [(q0, .inr (13, [.ref q1, .ref q2, .ref q3, .ref q4, .ref q5, .ref q6, .ref q7, .ref q8, .int 0, .ref q9, .ref q10, .ref q11, .ref q12, .ref q13])), (q14, .inl (k0, 24, .inr (.inr (.inr (.inr (fun _ => none)))))), (q1, .inr (7, [.ref q15, .int 0])), (q2, .inr (11, [.ref q14, .int 0, .int 1]))] H := hP
  have hD : va_D A [(q0, .inr (13, [.ref q1, .ref q2, .ref q3, .ref q4, .ref q5, .ref q6, .ref q7, .ref q8, .int 0, .ref q9, .ref q10, .ref q11, .ref q12, .ref q13])), (q14, .inl (k0, 24, .inr (.inr (.inr (.inr (fun _ => none)))))), (q1, .inr (7, [.ref q15, .int 0])), (q2, .inr (11, [.ref q14, .int 0, .int 1]))] := hD
  have hK : va_K (dC, dI) vwCl [(k0, (.object "Seekwell$Text"))] s := hK
  refine W.widen (k := 0) (n := 0) (Nat.le_of_ble_eq_true rfl) (Nat.le_of_ble_eq_true rfl) ?_
  refine lv_bipush (v := 24) hx hb dX11_add_35 (by decide +kernel) ?_
  refine lv_icmp_lt (tgt := 50) hx hb dX11_add_37 (by decide) (fun _ => ?_) (fun h9 => absurd (show (0 : Int32) < (24 : Int32) by decide +kernel) h9)
  refine lv_aload_n hx hb dX11_add_50 rfl (lv_at hl 0 rfl) ?_
  refine va_get (D := (dC, dI)) (ci := 13) (v := .ref q2) (C := RX11) (T := TX11) (N := 14) hx hb hts (fun _ h => List.mem_cons_of_mem _ (List.mem_append_left _ (List.mem_append_left _ (List.mem_append_left _ (List.mem_append_left _ (List.mem_append_left _ (List.mem_append_left _ (List.mem_append_left _ (List.mem_append_left _ (List.mem_append_left _ (List.mem_append_left _ (List.mem_append_right _ h)))))))))))) hown hK hP 0 rfl rfl 1 (by decide) (hts (.fieldLink RX11 19 "Seekwell" "shelf" "LSeekwell$Shelf;") (by decide +kernel)) (fun _ h9 => h9) rfl dX11_add_51 ?_
  refine lv_aload_n hx hb dX11_add_54 rfl (lv_at hl 0 rfl) ?_
  refine va_get (D := (dC, dI)) (ci := 13) (v := .ref q1) (C := RX11) (T := TX11) (N := 14) hx hb hts (fun _ h => List.mem_cons_of_mem _ (List.mem_append_left _ (List.mem_append_left _ (List.mem_append_left _ (List.mem_append_left _ (List.mem_append_left _ (List.mem_append_left _ (List.mem_append_left _ (List.mem_append_left _ (List.mem_append_left _ (List.mem_append_left _ (List.mem_append_right _ h)))))))))))) hown hK hP 0 rfl rfl 0 (by decide) (hts (.fieldLink RX11 10 "Seekwell" "text" "LSeekwell$Line;") (by decide +kernel)) (fun _ h9 => h9) rfl dX11_add_55 ?_
  refine lv_iload_n hx hb dX11_add_58 rfl (lv_at hl 1 rfl) ?_
  refine lv_iload_n hx hb dX11_add_59 rfl (lv_at hl 2 rfl) ?_
  have hPc := hP.sub (ws' := [(q2, .inr (11, [.ref q14, .int 0, .int 1])), (q14, .inl (k0, 24, .inr (.inr (.inr (.inr (fun _ => none)))))), (q1, .inr (7, [.ref q15, .int 0]))]) [3, 1, 2] rfl
  have hDc := hD.sub (ws' := [(q2, .inr (11, [.ref q14, .int 0, .int 1])), (q14, .inl (k0, 24, .inr (.inr (.inr (.inr (fun _ => none)))))), (q1, .inr (7, [.ref q15, .int 0]))]) [3, 1, 2] (by decide) rfl
  have hKc := hK.sub (tys' := [(k0, (.object "Seekwell$Text"))]) [0] rfl
  have hFc := va_free (wc := [(q2, .inr (11, [.ref q14, .int 0, .int 1])), (q14, .inl (k0, 24, .inr (.inr (.inr (.inr (fun _ => none)))))), (q1, .inr (7, [.ref q15, .int 0]))]) hD hS hA [3, 1, 2] rfl
  refine va_calli (va_runV (As := [.ref q1, .int p1, .int p2]) (rest := []) ⟨hx, hb, hml, hown, hts⟩ (c_X8_come l dC dI q2 q1 q14 q15 k0 H.size p1 p2 hc4 hc5) (cwV 3 hts gX11_add_X8_come rfl rfl rfl (by decide +kernel) ⟨Nat.le_of_ble_eq_true rfl, Nat.le_of_ble_eq_true rfl⟩) ⟨zB_blind, va_recv hK hP (ci := 11) (q0 := 3) rfl rfl, (zPre hPc hDc hKc hS hFc hZ hN)⟩ rfl rfl hl.1 rfl (lv_room (Nat.le_of_ble_eq_true rfl)) dX11_add_60 ⟨Nat.le_of_ble_eq_true rfl, Nat.le_of_ble_eq_true rfl⟩) hS (fun q _ h => hFc q h) hFc (fun r u t H1 locs ht hvm hw hB hz1 hk1 hS => ?_)
  subst hw
  obtain ⟨hP1, hK1, hD1⟩ := hB
  rw [ht] at hP1
  have hK1 := va_K.moved hvm.symm hK1
  obtain ⟨hP, hD⟩ := va_join (wr := [(q0, .inr (13, [.ref q1, .ref q2, .ref q3, .ref q4, .ref q5, .ref q6, .ref q7, .ref q8, .int 0, .ref q9, .ref q10, .ref q11, .ref q12, .ref q13]))]) (w1 := [(q1, .inr (7, [.ref q15, .int 0]))]) hP hD [3, 1, 2] [0] rfl rfl (by decide) (by decide) hk1 hFc hP1 hD1
  have hK := (hK.sub (tys' := []) [] rfl).app hK1
  generalize H1 = H at hP hS ⊢
  have hP : va_P (dC, dI) vwCl [(q0, .inr (13, [.ref q1, .ref q2, .ref q3, .ref q4, .ref q5, .ref q6, .ref q7, .ref q8, .int 0, .ref q9, .ref q10, .ref q11, .ref q12, .ref q13])), (q1, .inr (7, [.ref q15, .int 0]))] H := hP
  have hD : va_D A [(q0, .inr (13, [.ref q1, .ref q2, .ref q3, .ref q4, .ref q5, .ref q6, .ref q7, .ref q8, .int 0, .ref q9, .ref q10, .ref q11, .ref q12, .ref q13])), (q1, .inr (7, [.ref q15, .int 0]))] := hD
  have hK : va_K (dC, dI) vwCl [] s := hK
  refine W.widen (k := 5) (n := 18) (Nat.le_of_ble_eq_true rfl) (Nat.le_of_ble_eq_true rfl) ?_
  refine lv_istore_n (lv' := [(3, .int 0), (0, .ref q0), (1, .int p1), (2, .int p2)]) hx hb dX11_add_63 rfl hl (by decide) rfl (fun ls hl => ?_)
  refine lv_aload_n hx hb dX11_add_64 rfl (lv_at hl 1 rfl) ?_
  refine va_get (D := (dC, dI)) (ci := 13) (v := .ref q1) (C := RX11) (T := TX11) (N := 14) hx hb hts (fun _ h => List.mem_cons_of_mem _ (List.mem_append_left _ (List.mem_append_left _ (List.mem_append_left _ (List.mem_append_left _ (List.mem_append_left _ (List.mem_append_left _ (List.mem_append_left _ (List.mem_append_left _ (List.mem_append_left _ (List.mem_append_left _ (List.mem_append_right _ h)))))))))))) hown hK hP 0 rfl rfl 0 (by decide) (hts (.fieldLink RX11 10 "Seekwell" "text" "LSeekwell$Line;") (by decide +kernel)) (fun _ h9 => h9) rfl dX11_add_65 ?_
  have hPc := hP.sub (ws' := [(q1, .inr (7, [.ref q15, .int 0]))]) [1] rfl
  have hDc := hD.sub (ws' := [(q1, .inr (7, [.ref q15, .int 0]))]) [1] (by decide) rfl
  have hKc := hK.sub (tys' := []) [] rfl
  have hFc := va_free (wc := [(q1, .inr (7, [.ref q15, .int 0]))]) hD hS hA [1] rfl
  refine va_callv (va_runV (As := []) (rest := []) ⟨hx, hb, hml, hown, hts⟩ (c_X4_clear l dC dI q1 q15 H.size  ) (cwV 0 hts gX11_add_X4_clear rfl rfl rfl (by decide +kernel) ⟨Nat.le_of_ble_eq_true rfl, Nat.le_of_ble_eq_true rfl⟩) ⟨zB_blind, va_recv hK hP (ci := 7) (q0 := 1) rfl rfl, (zPre hPc hDc hKc hS hFc hZ hN)⟩ rfl rfl hl.1 rfl (lv_room (Nat.le_of_ble_eq_true rfl)) dX11_add_68 ⟨Nat.le_of_ble_eq_true rfl, Nat.le_of_ble_eq_true rfl⟩) hS (fun q _ h => hFc q h) hFc (fun u t H1 locs ht hvm hw hB hz1 hk1 hS => ?_)
  obtain ⟨hP1, hK1, hD1⟩ := hB
  rw [ht] at hP1
  have hK1 := va_K.moved hvm.symm hK1
  obtain ⟨hP, hD⟩ := va_join (wr := []) (w1 := []) hP hD [1] [] rfl rfl (by decide) (by decide) hk1 hFc hP1 hD1
  have hK := (hK.sub (tys' := []) [] rfl).app hK1
  generalize H1 = H at hP hS ⊢
  have hP : va_P (dC, dI) vwCl [] H := hP
  have hD : va_D A [] := hD
  have hK : va_K (dC, dI) vwCl [] s := hK
  refine W.widen (k := 5) (n := 18) (Nat.le_of_ble_eq_true rfl) (Nat.le_of_ble_eq_true rfl) ?_
  refine lv_iload_n hx hb dX11_add_71 rfl (lv_at hl 0 rfl) ?_
  have hP9 := hP.sub (ws' := []) [] rfl
  have hD9 := hD.sub (ws' := []) [] (by decide) rfl
  have hK9 := hK.sub (tys' := []) [] rfl
  exact W.iret (v := 0) hx hb hr (fun t ht hW => ⟨⟨0, (), rfl, rfl, ⟨by rw [ht]; exact hP9, va_K.moved hW.alike hK9, hD9⟩⟩, hS.F ht⟩) hS.2.2 dX11_add_72
set_option maxHeartbeats 4000000 in
set_option maxRecDepth 100000 in
theorem c_L_add_5 (l : Launch) (dC : Nat → ClassId) (dI : Nat → Nat → Nat) (q0 q1 q2 q3 q4 q5 q6 q7 q8 q9 q10 q11 q12 q13 q14 q15 q16 : Nat) (k0 k1 : ClassId) (sz : Nat) (p1 : Int32) (p2 : Int32) (hc0 : ¬ p1 < 0) (hc1 : ¬ (999 : Int32) < p1) (hc2 : ¬ p2 < 97) (hc3 : ¬ (122 : Int32) < p2) (hc4 : narrow .char (.int p2) = .int p2) (hc5 : fits .char (.int p2) = true) : Met l yL_add wsL_add ({ frames := 6, cells := 5, slots := 18, locals := 129 }) (va_Pc [.ref q0, .int p1, .int p2, .ref q1] (zB (dC, dI) [(k0, (.object "Seekwell$Text")), (k1, .long)] [(q0, .inr (13, [.ref q2, .ref q3, .ref q4, .ref q5, .ref q6, .ref q7, .ref q8, .ref q9, .int 0, .ref q10, .ref q11, .ref q12, .ref q13, .ref q14])), (q3, .inr (11, [.ref q15, .int 0, .int 1])), (q15, .inl (k0, 24, .inr (.inr (.inr (.inr (fun _ => none)))))), (q2, .inr (7, [.ref q16, .int 0])), (q1, .inl (k1, 1, .inr (.inl (fun _ => 0))))] sz)) (va_Qi (fun (r : Int32) (_ : Unit) => 0 = r) (fun _ t => zE (dC, dI) [(k1, .long)] [(q1, .inl (k1, 1, .inr (.inl (vp_updL (fun _ => 0) (0 : Int32).toNatClampNeg 0))))] (va_A [(q0, .inr (13, [.ref q2, .ref q3, .ref q4, .ref q5, .ref q6, .ref q7, .ref q8, .ref q9, .int 0, .ref q10, .ref q11, .ref q12, .ref q13, .ref q14])), (q3, .inr (11, [.ref q15, .int 0, .int 1])), (q15, .inl (k0, 24, .inr (.inr (.inr (.inr (fun _ => none)))))), (q2, .inr (7, [.ref q16, .int 0])), (q1, .inl (k1, 1, .inr (.inl (fun _ => 0))))] sz) t) (va_A [(q0, .inr (13, [.ref q2, .ref q3, .ref q4, .ref q5, .ref q6, .ref q7, .ref q8, .ref q9, .int 0, .ref q10, .ref q11, .ref q12, .ref q13, .ref q14])), (q3, .inr (11, [.ref q15, .int 0, .int 1])), (q15, .inl (k0, 24, .inr (.inr (.inr (.inr (fun _ => none)))))), (q2, .inr (7, [.ref q16, .int 0])), (q1, .inl (k1, 1, .inr (.inl (fun _ => 0))))] sz)) 5 18 (va_A [(q0, .inr (13, [.ref q2, .ref q3, .ref q4, .ref q5, .ref q6, .ref q7, .ref q8, .ref q9, .int 0, .ref q10, .ref q11, .ref q12, .ref q13, .ref q14])), (q3, .inr (11, [.ref q15, .int 0, .int 1])), (q15, .inl (k0, 24, .inr (.inr (.inr (.inr (fun _ => none)))))), (q2, .inr (7, [.ref q16, .int 0])), (q1, .inl (k1, 1, .inr (.inl (fun _ => 0))))] sz) := by
  refine va_MetW (cc := cL_add) (maxL := 5) (ret := (some .int)) (by decide) rfl ?_
  intro p e s m args below meth c s₁ B hml hv
  obtain ⟨rfl, hsz, hP, hK, hD0, hZ, hN⟩ := hv
  have hx := B.exec
  have hb := B.bytes
  have hr := B.returns
  have hts := atoms_spec (ws := wsL_add) B.pre
  have hown : s.vm.findClass RL = some m.cls := findClass_of_methodNamed B.named
  have hlocks := B.notSynchronized
  have htab := vx_table (x := yL_add) B (hts (.codeWith yL_add cL_add 5 (some .int) [(0, 10, 13, 13), (0, 10, 17, 15)]) List.mem_cons_self)
  subst hsz
  have hD := hD0.self (sz := s.heap.size)
  generalize hAe : va_A [(q0, .inr (13, [.ref q2, .ref q3, .ref q4, .ref q5, .ref q6, .ref q7, .ref q8, .ref q9, .int 0, .ref q10, .ref q11, .ref q12, .ref q13, .ref q14])), (q3, .inr (11, [.ref q15, .int 0, .int 1])), (q15, .inl (k0, 24, .inr (.inr (.inr (.inr (fun _ => none)))))), (q2, .inr (7, [.ref q16, .int 0])), (q1, .inl (k1, 1, .inr (.inl (fun _ => 0))))] s.heap.size = A at hD hZ ⊢
  have hA : ∀ q : Nat, s.heap.size ≤ q → A q := fun q h => by rw [← hAe]; exact Or.inr h
  have hS : va_S A s.heap s.heap [] := va_S.rf
  have hP : va_P (dC, dI) vwCl [(q0, .inr (13, [.ref q2, .ref q3, .ref q4, .ref q5, .ref q6, .ref q7, .ref q8, .ref q9, .int 0, .ref q10, .ref q11, .ref q12, .ref q13, .ref q14])), (q3, .inr (11, [.ref q15, .int 0, .int 1])), (q15, .inl (k0, 24, .inr (.inr (.inr (.inr (fun _ => none)))))), (q2, .inr (7, [.ref q16, .int 0])), (q1, .inl (k1, 1, .inr (.inl (fun _ => 0))))] s.heap := hP
  have hl := lv_entry ([.ref q0, .int p1, .int p2, .ref q1]) (n := 5) (Nat.le_of_ble_eq_true rfl)
  rw [lg_entry_eq]
  generalize (lg_sl ([.ref q0, .int p1, .int p2, .ref q1]) ++ List.replicate (5 - (lg_sl ([.ref q0, .int p1, .int p2, .ref q1])).length) Slot.unset).toArray = ls at hl ⊢
  have hl : lv_has ls 5 [(0, .ref q0), (1, .int p1), (2, .int p2), (3, .ref q1)] := hl
  refine lv_aload_n hx hb dL_add_0 rfl (lv_at hl 3 rfl) ?_
  refine lv_iconst (v := 0) hx hb dL_add_1 (by decide +kernel) ?_
  refine lv_aload_n hx hb dL_add_2 rfl (lv_at hl 0 rfl) ?_
  refine lv_iload_n hx hb dL_add_3 rfl (lv_at hl 1 rfl) ?_
  refine lv_iload_n hx hb dL_add_4 rfl (lv_at hl 2 rfl) ?_
  have hPc := hP.sub (ws' := [(q0, .inr (13, [.ref q2, .ref q3, .ref q4, .ref q5, .ref q6, .ref q7, .ref q8, .ref q9, .int 0, .ref q10, .ref q11, .ref q12, .ref q13, .ref q14])), (q3, .inr (11, [.ref q15, .int 0, .int 1])), (q15, .inl (k0, 24, .inr (.inr (.inr (.inr (fun _ => none)))))), (q2, .inr (7, [.ref q16, .int 0]))]) [0, 1, 2, 3] rfl
  have hDc := hD.sub (ws' := [(q0, .inr (13, [.ref q2, .ref q3, .ref q4, .ref q5, .ref q6, .ref q7, .ref q8, .ref q9, .int 0, .ref q10, .ref q11, .ref q12, .ref q13, .ref q14])), (q3, .inr (11, [.ref q15, .int 0, .int 1])), (q15, .inl (k0, 24, .inr (.inr (.inr (.inr (fun _ => none)))))), (q2, .inr (7, [.ref q16, .int 0]))]) [0, 1, 2, 3] (by decide) rfl
  have hKc := hK.sub (tys' := [(k0, (.object "Seekwell$Text"))]) [0] rfl
  have hFc := va_free (wc := [(q0, .inr (13, [.ref q2, .ref q3, .ref q4, .ref q5, .ref q6, .ref q7, .ref q8, .ref q9, .int 0, .ref q10, .ref q11, .ref q12, .ref q13, .ref q14])), (q3, .inr (11, [.ref q15, .int 0, .int 1])), (q15, .inl (k0, 24, .inr (.inr (.inr (.inr (fun _ => none)))))), (q2, .inr (7, [.ref q16, .int 0]))]) hD hS hA [0, 1, 2, 3] rfl
  refine va_calli (va_runV (As := [.int p1, .int p2]) (rest := [.int 0, .ref q1]) ⟨hx, hb, hml, hown, hts⟩ (c_X11_add_5 l dC dI q0 q2 q3 q4 q5 q6 q7 q8 q9 q10 q11 q12 q13 q14 q15 q16 k0 s.heap.size p1 p2 hc0 hc1 hc2 hc3 hc4 hc5) (cwV 2 hts gL_add_X11_add rfl rfl rfl (by decide +kernel) ⟨Nat.le_of_ble_eq_true rfl, Nat.le_of_ble_eq_true rfl⟩) ⟨zB_blind, va_recv hK hP (ci := 13) (q0 := 0) rfl rfl, (zPre hPc hDc hKc hS hFc hZ hN)⟩ rfl rfl hl.1 rfl (lv_room (Nat.le_of_ble_eq_true rfl)) dL_add_5 ⟨Nat.le_of_ble_eq_true rfl, Nat.le_of_ble_eq_true rfl⟩) hS (fun q _ h => hFc q h) hFc (fun r u t H1 locs ht hvm hw hB hz1 hk1 hS => ?_)
  subst hw
  obtain ⟨hP1, hK1, hD1⟩ := hB
  rw [ht] at hP1
  have hK1 := va_K.moved hvm.symm hK1
  obtain ⟨hP, hD⟩ := va_join (wr := [(q1, .inl (k1, 1, .inr (.inl (fun _ => 0))))]) (w1 := []) hP hD [0, 1, 2, 3] [4] rfl rfl (by decide) (by decide) hk1 hFc hP1 hD1
  have hK := (hK.sub (tys' := [(k1, .long)]) [1] rfl).app hK1
  generalize H1 = H at hP hS ⊢
  have hP : va_P (dC, dI) vwCl [(q1, .inl (k1, 1, .inr (.inl (fun _ => 0))))] H := hP
  have hD : va_D A [(q1, .inl (k1, 1, .inr (.inl (fun _ => 0))))] := hD
  have hK : va_K (dC, dI) vwCl [(k1, .long)] s := hK
  refine W.widen (k := 5) (n := 18) (Nat.le_of_ble_eq_true rfl) (Nat.le_of_ble_eq_true rfl) ?_
  refine lv_i2l (v := 0) hx hb dL_add_8 (by decide +kernel) ?_
  refine va_last (D := (dC, dI)) hx hb hK hP hD hS 0 0 rfl rfl (i := 0) (x := 0) (zin (by decide +kernel)) dL_add_9 (fun H locs hP hD hS => ?_)
  have hP : va_P (dC, dI) vwCl [(q1, .inl (k1, 1, .inr (.inl (vp_updL (fun _ => 0) (0 : Int32).toNatClampNeg 0))))] H := hP
  have hD : va_D A [(q1, .inl (k1, 1, .inr (.inl (vp_updL (fun _ => 0) (0 : Int32).toNatClampNeg 0))))] := hD
  refine lv_goto (tgt := 21) hx hb dL_add_10 (by decide) ?_
  refine lv_iconst (v := 0) hx hb dL_add_21 (by decide +kernel) ?_
  have hP9 := hP.sub (ws' := [(q1, .inl (k1, 1, .inr (.inl (vp_updL (fun _ => 0) (0 : Int32).toNatClampNeg 0))))]) [0] rfl
  have hD9 := hD.sub (ws' := [(q1, .inl (k1, 1, .inr (.inl (vp_updL (fun _ => 0) (0 : Int32).toNatClampNeg 0))))]) [0] (by decide) rfl
  have hK9 := hK.sub (tys' := [(k1, .long)]) [0] rfl
  exact W.iret (v := 0) hx hb hr (fun t ht hW => ⟨⟨0, (), rfl, rfl, ⟨by rw [ht]; exact hP9, va_K.moved hW.alike hK9, hD9⟩⟩, hS.F ht⟩) hS.2.2 dL_add_22
set_option maxHeartbeats 4000000 in
set_option maxRecDepth 100000 in
theorem c_X13_in_11 (l : Launch) (dC : Nat → ClassId) (dI : Nat → Nat → Nat) (sz : Nat) (p0 : Int32) (hc0 : ¬ p0 < 97) (hc1 : ¬ (122 : Int32) < p0) : Met l yX13_in wsX13_in ({ frames := 0, cells := 0, slots := 0, locals := 0 }) (va_Pc [.int p0, .int 97, .int 122] (zB (dC, dI) [] [] sz)) (va_Qi (fun (r : Int32) (_ : Unit) => 1 = r) (fun _ t => zE (dC, dI) [] [] (va_A [] sz) t) (va_A [] sz)) 0 0 (va_A [] sz) := by
  refine Met.ofW (cc := cX13_in) (maxL := 3) (ret := (some .boolean)) (by decide) rfl ?_
  intro p e s m args below meth c s₁ B hml hv
  obtain ⟨rfl, hsz, hP, hK, hD0, hZ, hN⟩ := hv
  have hx := B.exec
  have hb := B.bytes
  have hr := B.returns
  have hts := atoms_spec (ws := wsX13_in) B.pre
  have hown : s.vm.findClass RX13 = some m.cls := findClass_of_methodNamed B.named
  have hlocks := B.notSynchronized
  subst hsz
  have hD := hD0.self (sz := s.heap.size)
  generalize hAe : va_A [] s.heap.size = A at hD hZ ⊢
  have hA : ∀ q : Nat, s.heap.size ≤ q → A q := fun q h => by rw [← hAe]; exact Or.inr h
  have hS : va_S A s.heap s.heap [] := va_S.rf
  have hP : va_P (dC, dI) vwCl [] s.heap := hP
  have hl := lv_entry ([.int p0, .int 97, .int 122]) (n := 3) (Nat.le_of_ble_eq_true rfl)
  rw [lg_entry_eq]
  generalize (lg_sl ([.int p0, .int 97, .int 122]) ++ List.replicate (3 - (lg_sl ([.int p0, .int 97, .int 122])).length) Slot.unset).toArray = ls at hl ⊢
  have hl : lv_has ls 3 [(0, .int p0), (1, .int 97), (2, .int 122)] := hl
  refine lv_iload_n hx hb dX13_in_0 rfl (lv_at hl 0 rfl) ?_
  refine lv_iload_n hx hb dX13_in_1 rfl (lv_at hl 1 rfl) ?_
  refine lv_icmp_lt (tgt := 14) hx hb dX13_in_2 (by decide) (fun h9 => absurd h9 hc0) (fun _ => ?_)
  refine lv_iload_n hx hb dX13_in_5 rfl (lv_at hl 0 rfl) ?_
  refine lv_iload_n hx hb dX13_in_6 rfl (lv_at hl 2 rfl) ?_
  refine lv_icmp_gt (tgt := 14) hx hb dX13_in_7 (by decide) (fun h9 => absurd h9 hc1) (fun _ => ?_)
  refine lv_iconst (v := 1) hx hb dX13_in_10 (by decide +kernel) ?_
  refine lv_goto (tgt := 15) hx hb dX13_in_11 (by decide) ?_
  have hP9 := hP.sub (ws' := []) [] rfl
  have hD9 := hD.sub (ws' := []) [] (by decide) rfl
  have hK9 := hK.sub (tys' := []) [] rfl
  exact W.zret (v := 1) hx hb hr (by decide +kernel) (fun t ht hW => ⟨⟨1, (), rfl, rfl, ⟨by rw [ht]; exact hP9, va_K.moved hW.alike hK9, hD9⟩⟩, hS.F ht⟩) hS.2.2 dX13_in_15
set_option maxHeartbeats 4000000 in
set_option maxRecDepth 100000 in
theorem c_X13_head (l : Launch) (dC : Nat → ClassId) (dI : Nat → Nat → Nat) (q0 : Nat) (sz : Nat) : Met l yX13_head wsX13_head ({ frames := 0, cells := 1, slots := 0, locals := 0 }) (va_Pc [.ref q0, .int 0] (zB (dC, dI) [] [] sz)) (va_Qr (fun (_ : Unit) => True) (fun _ ra t => ∃ q1 : Nat, ∃ k0 : ClassId, q1 = ra ∧ zE (dC, dI) [(k0, .long)] [(q1, .inl (k0, 0, .inr (.inl (fun _ => 0))))] (va_A [] sz) t) (va_A [] sz)) 1 0 (va_A [] sz) := by
  refine Met.ofW (cc := cX13_head) (maxL := 4) (ret := (some (.array .long))) (by decide) rfl ?_
  intro p e s m args below meth c s₁ B hml hv
  obtain ⟨rfl, hsz, hP, hK, hD0, hZ, hN⟩ := hv
  have hx := B.exec
  have hb := B.bytes
  have hr := B.returns
  have hts := atoms_spec (ws := wsX13_head) B.pre
  have hown : s.vm.findClass RX13 = some m.cls := findClass_of_methodNamed B.named
  have hlocks := B.notSynchronized
  subst hsz
  have hD := hD0.self (sz := s.heap.size)
  generalize hAe : va_A [] s.heap.size = A at hD hZ ⊢
  have hA : ∀ q : Nat, s.heap.size ≤ q → A q := fun q h => by rw [← hAe]; exact Or.inr h
  have hS : va_S A s.heap s.heap [] := va_S.rf
  have hP : va_P (dC, dI) vwCl [] s.heap := hP
  have hl := lv_entry ([.ref q0, .int 0]) (n := 4) (Nat.le_of_ble_eq_true rfl)
  rw [lg_entry_eq]
  generalize (lg_sl ([.ref q0, .int 0]) ++ List.replicate (4 - (lg_sl ([.ref q0, .int 0])).length) Slot.unset).toArray = ls at hl ⊢
  have hl : lv_has ls 4 [(0, .ref q0), (1, .int 0)] := hl
  refine lv_iload_n hx hb dX13_head_0 rfl (lv_at hl 1 rfl) ?_
  refine va_newa (D := (dC, dI)) (atype := .long) (ty := .long) (a0 := (0, .inr (.inl (fun _ => 0)))) (N' := 0) hx hb (hts (.arrayClass .long) (by decide +kernel)) rfl hK hP hD hS hA (fun _ => rfl) (by decide +kernel) (by decide +kernel) (Nat.le_of_ble_eq_true rfl) (Nat.le_of_ble_eq_true rfl) (Nat.le_of_ble_eq_true rfl) dX13_head_1 (fun q1 k0 H hK hP hD hS => ?_)
  have hP : va_P (dC, dI) vwCl [(q1, .inl (k0, 0, .inr (.inl (fun _ => 0))))] H := hP
  have hD : va_D A [(q1, .inl (k0, 0, .inr (.inl (fun _ => 0))))] := hD
  have hK : va_K (dC, dI) vwCl [(k0, .long)] s := hK
  refine W.widen (k := 1) (n := 0) (Nat.le_of_ble_eq_true rfl) (Nat.le_of_ble_eq_true rfl) ?_
  refine lv_astore_n (lv' := [(2, .ref q1), (0, .ref q0), (1, .int 0)]) hx hb dX13_head_3 rfl hl (by decide) rfl (fun ls hl => ?_)
  refine lv_iconst (v := 0) hx hb dX13_head_4 (by decide +kernel) ?_
  refine lv_istore_n (lv' := [(3, .int 0), (2, .ref q1), (0, .ref q0), (1, .int 0)]) hx hb dX13_head_5 rfl hl (by decide) rfl (fun ls hl => ?_)
  refine lv_iload_n hx hb dX13_head_6 rfl (lv_at hl 0 rfl) ?_
  refine lv_iload_n hx hb dX13_head_7 rfl (lv_at hl 3 rfl) ?_
  refine lv_icmp_ge (tgt := 23) hx hb dX13_head_8 (by decide) (fun _ => ?_) (fun h9 => absurd (show (0 : Int32) ≤ (0 : Int32) by decide +kernel) h9)
  refine lv_aload_n hx hb dX13_head_23 rfl (lv_at hl 1 rfl) ?_
  have hP9 := hP.sub (ws' := [(q1, .inl (k0, 0, .inr (.inl (fun _ => 0))))]) [0] rfl
  have hD9 := hD.sub (ws' := [(q1, .inl (k0, 0, .inr (.inl (fun _ => 0))))]) [0] (by decide) rfl
  have hK9 := hK.sub (tys' := [(k0, .long)]) [0] rfl
  exact W.aret (v := .ref q1) hx hb hr (Or.inr ⟨_, rfl⟩) (Or.inr ⟨_, rfl⟩) (fun t ht hW => ⟨⟨(), q1, rfl, trivial, q1, k0, rfl, ⟨by rw [ht]; exact hP9, va_K.moved hW.alike hK9, hD9⟩⟩, hS.F ht⟩) hS.2.2 dX13_head_24
set_option maxHeartbeats 4000000 in
set_option maxRecDepth 100000 in
theorem c_X13_wordsOf (l : Launch) (dC : Nat → ClassId) (dI : Nat → Nat → Nat) (q0 : Nat) (sz : Nat) : Met l yX13_wordsOf wsX13_wordsOf ({ frames := 1, cells := 3, slots := 4012, locals := 23 }) (va_Pc [.ref q0, .int 0, .int 0] (zB (dC, dI) [] [] sz)) (va_Qr (fun (_ : Unit) => True) (fun _ ra t => ∃ q1 : Nat, ∃ k0 : ClassId, q1 = ra ∧ zE (dC, dI) [(k0, .long)] [(q1, .inl (k0, 0, .inr (.inl (fun _ => 0))))] (va_A [] sz) t) (va_A [] sz)) 3 4012 (va_A [] sz) := by
  refine Met.ofW (cc := cX13_wordsOf) (maxL := 9) (ret := (some (.array .long))) (by decide) rfl ?_
  intro p e s m args below meth c s₁ B hml hv
  obtain ⟨rfl, hsz, hP, hK, hD0, hZ, hN⟩ := hv
  have hx := B.exec
  have hb := B.bytes
  have hr := B.returns
  have hts := atoms_spec (ws := wsX13_wordsOf) B.pre
  have hown : s.vm.findClass RX13 = some m.cls := findClass_of_methodNamed B.named
  have hlocks := B.notSynchronized
  subst hsz
  have hD := hD0.self (sz := s.heap.size)
  generalize hAe : va_A [] s.heap.size = A at hD hZ ⊢
  have hA : ∀ q : Nat, s.heap.size ≤ q → A q := fun q h => by rw [← hAe]; exact Or.inr h
  have hS : va_S A s.heap s.heap [] := va_S.rf
  have hP : va_P (dC, dI) vwCl [] s.heap := hP
  have hl := lv_entry ([.ref q0, .int 0, .int 0]) (n := 9) (Nat.le_of_ble_eq_true rfl)
  rw [lg_entry_eq]
  generalize (lg_sl ([.ref q0, .int 0, .int 0]) ++ List.replicate (9 - (lg_sl ([.ref q0, .int 0, .int 0])).length) Slot.unset).toArray = ls at hl ⊢
  have hl : lv_has ls 9 [(0, .ref q0), (1, .int 0), (2, .int 0)] := hl
  refine lv_sipush (v := 4000) hx hb dX13_wordsOf_0 (by decide +kernel) ?_
  refine va_newa (D := (dC, dI)) (atype := .long) (ty := .long) (a0 := (4000, .inr (.inl (fun _ => 0)))) (N' := 4000) hx hb (hts (.arrayClass .long) (by decide +kernel)) rfl hK hP hD hS hA (fun _ => rfl) (by decide +kernel) (by decide +kernel) (Nat.le_of_ble_eq_true rfl) (Nat.le_of_ble_eq_true rfl) (Nat.le_of_ble_eq_true rfl) dX13_wordsOf_3 (fun q2 k1 H hK hP hD hS => ?_)
  have hP : va_P (dC, dI) vwCl [(q2, .inl (k1, 4000, .inr (.inl (fun _ => 0))))] H := hP
  have hD : va_D A [(q2, .inl (k1, 4000, .inr (.inl (fun _ => 0))))] := hD
  have hK : va_K (dC, dI) vwCl [(k1, .long)] s := hK
  refine W.widen (k := 1) (n := 4000) (Nat.le_of_ble_eq_true rfl) (Nat.le_of_ble_eq_true rfl) ?_
  refine lv_astore_n (lv' := [(3, .ref q2), (0, .ref q0), (1, .int 0), (2, .int 0)]) hx hb dX13_wordsOf_5 rfl hl (by decide) rfl (fun ls hl => ?_)
  refine lv_iconst (v := 0) hx hb dX13_wordsOf_6 (by decide +kernel) ?_
  refine lv_istore (lv' := [(4, .int 0), (3, .ref q2), (0, .ref q0), (1, .int 0), (2, .int 0)]) hx hb dX13_wordsOf_7 hl (by decide) rfl (fun ls hl => ?_)
  refine lv_bipush (v := 12) hx hb dX13_wordsOf_9 (by decide +kernel) ?_
  refine va_newa (D := (dC, dI)) (atype := .int) (ty := .int) (a0 := (12, .inl (fun _ => 0))) (N' := 12) hx hb (hts (.arrayClass .int) (by decide +kernel)) rfl hK hP hD hS hA (fun _ => rfl) (by decide +kernel) (by decide +kernel) (Nat.le_of_ble_eq_true rfl) (Nat.le_of_ble_eq_true rfl) (Nat.le_of_ble_eq_true rfl) dX13_wordsOf_11 (fun q3 k2 H hK hP hD hS => ?_)
  have hP : va_P (dC, dI) vwCl [(q2, .inl (k1, 4000, .inr (.inl (fun _ => 0)))), (q3, .inl (k2, 12, .inl (fun _ => 0)))] H := hP
  have hD : va_D A [(q2, .inl (k1, 4000, .inr (.inl (fun _ => 0)))), (q3, .inl (k2, 12, .inl (fun _ => 0)))] := hD
  have hK : va_K (dC, dI) vwCl [(k1, .long), (k2, .int)] s := hK
  refine W.widen (k := 2) (n := 4012) (Nat.le_of_ble_eq_true rfl) (Nat.le_of_ble_eq_true rfl) ?_
  refine lv_astore (lv' := [(5, .ref q3), (4, .int 0), (3, .ref q2), (0, .ref q0), (1, .int 0), (2, .int 0)]) hx hb dX13_wordsOf_13 hl (by decide) rfl (fun ls hl => ?_)
  refine lv_iconst (v := 0) hx hb dX13_wordsOf_15 (by decide +kernel) ?_
  refine lv_istore (lv' := [(6, .int 0), (5, .ref q3), (4, .int 0), (3, .ref q2), (0, .ref q0), (1, .int 0), (2, .int 0)]) hx hb dX13_wordsOf_16 hl (by decide) rfl (fun ls hl => ?_)
  refine lv_iload_n hx hb dX13_wordsOf_18 rfl (lv_at hl 5 rfl) ?_
  refine lv_istore (lv' := [(7, .int 0), (6, .int 0), (5, .ref q3), (4, .int 0), (3, .ref q2), (0, .ref q0), (1, .int 0), (2, .int 0)]) hx hb dX13_wordsOf_19 hl (by decide) rfl (fun ls hl => ?_)
  refine lv_iload hx hb dX13_wordsOf_21 (lv_at hl 0 rfl) ?_
  refine lv_iload_n hx hb dX13_wordsOf_23 rfl (lv_at hl 7 rfl) ?_
  refine lv_icmp_gt (tgt := 137) hx hb dX13_wordsOf_24 (by decide) (fun h9 => absurd h9 (show ¬ (0 : Int32) < (0 : Int32) by decide +kernel)) (fun _ => ?_)
  refine lv_iload hx hb dX13_wordsOf_27 (lv_at hl 0 rfl) ?_
  refine lv_iload_n hx hb dX13_wordsOf_29 rfl (lv_at hl 7 rfl) ?_
  refine lv_icmp_ge (tgt := 50) hx hb dX13_wordsOf_30 (by decide) (fun _ => ?_) (fun h9 => absurd (show (0 : Int32) ≤ (0 : Int32) by decide +kernel) h9)
  refine lv_iconst (v := 0) hx hb dX13_wordsOf_50 (by decide +kernel) ?_
  refine lv_istore (lv' := [(8, .int 0), (7, .int 0), (6, .int 0), (5, .ref q3), (4, .int 0), (3, .ref q2), (0, .ref q0), (1, .int 0), (2, .int 0)]) hx hb dX13_wordsOf_51 hl (by decide) rfl (fun ls hl => ?_)
  refine lv_iload hx hb dX13_wordsOf_53 (lv_at hl 0 rfl) ?_
  refine lv_if_eq (tgt := 77) hx hb dX13_wordsOf_55 (by decide) (fun _ => ?_) (fun h9 => absurd (show (0 : Int32) = (0 : Int32) by decide +kernel) h9)
  refine lv_iload hx hb dX13_wordsOf_77 (lv_at hl 0 rfl) ?_
  refine lv_if_ne (tgt := 116) hx hb dX13_wordsOf_79 (by decide) (fun h9 => absurd (show (0 : Int32) = (0 : Int32) by decide +kernel) h9) (fun _ => ?_)
  refine lv_iload hx hb dX13_wordsOf_82 (lv_at hl 2 rfl) ?_
  refine lv_if_le (tgt := 116) hx hb dX13_wordsOf_84 (by decide) (fun _ => ?_) (fun h9 => absurd (show (0 : Int32) ≤ (0 : Int32) by decide +kernel) h9)
  refine lv_iload hx hb dX13_wordsOf_116 (lv_at hl 0 rfl) ?_
  refine lv_if_eq (tgt := 128) hx hb dX13_wordsOf_118 (by decide) (fun _ => ?_) (fun h9 => absurd (show (0 : Int32) = (0 : Int32) by decide +kernel) h9)
  refine lv_iconst (v := 0) hx hb dX13_wordsOf_128 (by decide +kernel) ?_
  refine lv_istore (lv' := [(6, .int 0), (8, .int 0), (7, .int 0), (5, .ref q3), (4, .int 0), (3, .ref q2), (0, .ref q0), (1, .int 0), (2, .int 0)]) hx hb dX13_wordsOf_129 hl (by decide) rfl (fun ls hl => ?_)
  refine lv_iinc (v := 1) (lv' := [(7, .int 1), (6, .int 0), (8, .int 0), (5, .ref q3), (4, .int 0), (3, .ref q2), (0, .ref q0), (1, .int 0), (2, .int 0)]) hx hb dX13_wordsOf_131 hl (k := 2) rfl (by decide +kernel) (by decide) rfl (fun ls hl => ?_)
  refine lv_goto (tgt := 21) hx hb dX13_wordsOf_134 (by decide) ?_
  refine lv_iload hx hb dX13_wordsOf_21 (lv_at hl 0 rfl) ?_
  refine lv_iload_n hx hb dX13_wordsOf_23 rfl (lv_at hl 8 rfl) ?_
  refine lv_icmp_gt (tgt := 137) hx hb dX13_wordsOf_24 (by decide) (fun _ => ?_) (fun h9 => absurd (show (0 : Int32) < (1 : Int32) by decide +kernel) h9)
  refine lv_aload_n hx hb dX13_wordsOf_137 rfl (lv_at hl 5 rfl) ?_
  refine lv_iload hx hb dX13_wordsOf_138 (lv_at hl 4 rfl) ?_
  have hPc := hP.sub (ws' := []) [] rfl
  have hDc := hD.sub (ws' := []) [] (by decide) rfl
  have hKc := hK.sub (tys' := []) [] rfl
  have hFc := va_free (wc := []) hD hS hA [] rfl
  refine va_callr (va_runS (As := [.ref q2, .int 0]) (rest := []) ⟨hx, hb, hml, hown, hts⟩ (c_X13_head l dC dI q2 H.size  ) (va_cwS 2 hts gX13_wordsOf_X13_head rfl rfl rfl (by decide +kernel) ⟨Nat.le_of_ble_eq_true rfl, Nat.le_of_ble_eq_true rfl⟩) ⟨zB_blind, (zPre hPc hDc hKc hS hFc hZ hN)⟩ rfl rfl hl.1 rfl (lv_room (Nat.le_of_ble_eq_true rfl)) dX13_wordsOf_140 ⟨Nat.le_of_ble_eq_true rfl, Nat.le_of_ble_eq_true rfl⟩) hS (fun q _ h => hFc q h) hFc (fun u ra t H1 locs ht hvm hw hB hz1 hk1 hS => ?_)
  obtain ⟨q1, k0, hra, hP1, hK1, hD1⟩ := hB
  subst hra
  rw [ht] at hP1
  have hK1 := va_K.moved hvm.symm hK1
  obtain ⟨hP, hD⟩ := va_join (wr := []) (w1 := [(q1, .inl (k0, 0, .inr (.inl (fun _ => 0))))]) hP hD [] [] rfl rfl (by decide) (by decide) hk1 hFc hP1 hD1
  have hK := (hK.sub (tys' := []) [] rfl).app hK1
  generalize H1 = H at hP hS ⊢
  have hP : va_P (dC, dI) vwCl [(q1, .inl (k0, 0, .inr (.inl (fun _ => 0))))] H := hP
  have hD : va_D A [(q1, .inl (k0, 0, .inr (.inl (fun _ => 0))))] := hD
  have hK : va_K (dC, dI) vwCl [(k0, .long)] s := hK
  refine W.widen (k := 3) (n := 4012) (Nat.le_of_ble_eq_true rfl) (Nat.le_of_ble_eq_true rfl) ?_
  have hP9 := hP.sub (ws' := [(q1, .inl (k0, 0, .inr (.inl (fun _ => 0))))]) [0] rfl
  have hD9 := hD.sub (ws' := [(q1, .inl (k0, 0, .inr (.inl (fun _ => 0))))]) [0] (by decide) rfl
  have hK9 := hK.sub (tys' := [(k0, .long)]) [0] rfl
  exact W.aret (v := .ref q1) hx hb hr (Or.inr ⟨_, rfl⟩) (Or.inr ⟨_, rfl⟩) (fun t ht hW => ⟨⟨(), q1, rfl, trivial, q1, k0, rfl, ⟨by rw [ht]; exact hP9, va_K.moved hW.alike hK9, hD9⟩⟩, hS.F ht⟩) hS.2.2 dX13_wordsOf_143
set_option maxHeartbeats 4000000 in
set_option maxRecDepth 100000 in
theorem c_X13_reads (l : Launch) (dC : Nat → ClassId) (dI : Nat → Nat → Nat) (q0 q1 q2 q3 q4 q5 q6 q7 q8 q9 q10 q11 q12 q13 q14 q15 q16 q17 q18 q19 : Nat) (k0 k1 k2 : ClassId) (sz : Nat) : Met l yX13_reads wsX13_reads ({ frames := 2, cells := 4, slots := 4012, locals := 51 }) (va_Pc [.ref q0, .int 0] (zB (dC, dI) [(k0, (.array .long)), (k1, (.array .long)), (k2, .int)] [(q0, .inr (15, [.ref q1, .ref q2, .ref q3, .ref q4, .ref q5, .ref q6, .int 0, .int 1, .ref q7, .int 0, .ref q8, .null, .ref q9, .null, .ref q10, .ref q11, .ref q12, .ref q13, .ref q14, .int 0, .ref q15, .ref q16, .ref q17, .ref q18, .ref q19, .int 0, .int 0])), (q5, .inl (k0, 24, .inr (.inr (.inr (.inr (fun _ => none)))))), (q6, .inl (k1, 24, .inr (.inr (.inr (.inr (fun _ => none)))))), (q3, .inl (k2, 24, .inl (fun _ => 0)))] sz)) (va_Qv (fun (_ : Unit) => True) (fun _ t => zE (dC, dI) [] [(q0, .inr (15, [.ref q1, .ref q2, .ref q3, .ref q4, .ref q5, .ref q6, .int 0, .int 1, .ref q7, .int 0, .ref q8, .null, .ref q9, .null, .ref q10, .ref q11, .ref q12, .ref q13, .ref q14, .int 0, .ref q15, .ref q16, .ref q17, .ref q18, .ref q19, .int 0, .int 0]))] (va_A [(q0, .inr (15, [.ref q1, .ref q2, .ref q3, .ref q4, .ref q5, .ref q6, .int 0, .int 1, .ref q7, .int 0, .ref q8, .null, .ref q9, .null, .ref q10, .ref q11, .ref q12, .ref q13, .ref q14, .int 0, .ref q15, .ref q16, .ref q17, .ref q18, .ref q19, .int 0, .int 0])), (q5, .inl (k0, 24, .inr (.inr (.inr (.inr (fun _ => none)))))), (q6, .inl (k1, 24, .inr (.inr (.inr (.inr (fun _ => none)))))), (q3, .inl (k2, 24, .inl (fun _ => 0)))] sz) t) (va_A [(q0, .inr (15, [.ref q1, .ref q2, .ref q3, .ref q4, .ref q5, .ref q6, .int 0, .int 1, .ref q7, .int 0, .ref q8, .null, .ref q9, .null, .ref q10, .ref q11, .ref q12, .ref q13, .ref q14, .int 0, .ref q15, .ref q16, .ref q17, .ref q18, .ref q19, .int 0, .int 0])), (q5, .inl (k0, 24, .inr (.inr (.inr (.inr (fun _ => none)))))), (q6, .inl (k1, 24, .inr (.inr (.inr (.inr (fun _ => none)))))), (q3, .inl (k2, 24, .inl (fun _ => 0)))] sz)) 4 4012 (va_A [(q0, .inr (15, [.ref q1, .ref q2, .ref q3, .ref q4, .ref q5, .ref q6, .int 0, .int 1, .ref q7, .int 0, .ref q8, .null, .ref q9, .null, .ref q10, .ref q11, .ref q12, .ref q13, .ref q14, .int 0, .ref q15, .ref q16, .ref q17, .ref q18, .ref q19, .int 0, .int 0])), (q5, .inl (k0, 24, .inr (.inr (.inr (.inr (fun _ => none)))))), (q6, .inl (k1, 24, .inr (.inr (.inr (.inr (fun _ => none)))))), (q3, .inl (k2, 24, .inl (fun _ => 0)))] sz) := by
  refine Met.ofW (cc := cX13_reads) (maxL := 3) (ret := none) (by decide) rfl ?_
  intro p e s m args below meth c s₁ B hml hv
  obtain ⟨rfl, hsz, hP, hK, hD0, hZ, hN⟩ := hv
  have hx := B.exec
  have hb := B.bytes
  have hr := B.returns
  have hts := atoms_spec (ws := wsX13_reads) B.pre
  have hown : s.vm.findClass RX13 = some m.cls := findClass_of_methodNamed B.named
  have hlocks := B.notSynchronized
  subst hsz
  have hD := hD0.self (sz := s.heap.size)
  generalize hAe : va_A [(q0, .inr (15, [.ref q1, .ref q2, .ref q3, .ref q4, .ref q5, .ref q6, .int 0, .int 1, .ref q7, .int 0, .ref q8, .null, .ref q9, .null, .ref q10, .ref q11, .ref q12, .ref q13, .ref q14, .int 0, .ref q15, .ref q16, .ref q17, .ref q18, .ref q19, .int 0, .int 0])), (q5, .inl (k0, 24, .inr (.inr (.inr (.inr (fun _ => none)))))), (q6, .inl (k1, 24, .inr (.inr (.inr (.inr (fun _ => none)))))), (q3, .inl (k2, 24, .inl (fun _ => 0)))] s.heap.size = A at hD hZ ⊢
  have hA : ∀ q : Nat, s.heap.size ≤ q → A q := fun q h => by rw [← hAe]; exact Or.inr h
  have hS : va_S A s.heap s.heap [] := va_S.rf
  have hP : va_P (dC, dI) vwCl [(q0, .inr (15, [.ref q1, .ref q2, .ref q3, .ref q4, .ref q5, .ref q6, .int 0, .int 1, .ref q7, .int 0, .ref q8, .null, .ref q9, .null, .ref q10, .ref q11, .ref q12, .ref q13, .ref q14, .int 0, .ref q15, .ref q16, .ref q17, .ref q18, .ref q19, .int 0, .int 0])), (q5, .inl (k0, 24, .inr (.inr (.inr (.inr (fun _ => none)))))), (q6, .inl (k1, 24, .inr (.inr (.inr (.inr (fun _ => none)))))), (q3, .inl (k2, 24, .inl (fun _ => 0)))] s.heap := hP
  have hl := lv_entry ([.ref q0, .int 0]) (n := 3) (Nat.le_of_ble_eq_true rfl)
  rw [lg_entry_eq]
  generalize (lg_sl ([.ref q0, .int 0]) ++ List.replicate (3 - (lg_sl ([.ref q0, .int 0])).length) Slot.unset).toArray = ls at hl ⊢
  have hl : lv_has ls 3 [(0, .ref q0), (1, .int 0)] := hl
  refine lv_iconst (v := 0) hx hb dX13_reads_0 (by decide +kernel) ?_
  refine lv_istore_n (lv' := [(2, .int 0), (0, .ref q0), (1, .int 0)]) hx hb dX13_reads_1 rfl hl (by decide) rfl (fun ls hl => ?_)
  refine lv_iload_n hx hb dX13_reads_2 rfl (lv_at hl 0 rfl) ?_
  refine lv_aload_n hx hb dX13_reads_3 rfl (lv_at hl 1 rfl) ?_
  refine va_get (D := (dC, dI)) (ci := 15) (v := .int 0) (C := RX13) (T := TX13) (N := 27) hx hb hts (fun _ h => List.mem_cons_of_mem _ (List.mem_append_left _ (List.mem_append_right _ h))) hown hK hP 0 rfl rfl 9 (by decide) (hts (.fieldLink RX13 132 "SeekwellModel" "typed" "I") (by decide +kernel)) (fun _ h9 => h9) rfl dX13_reads_4 ?_
  refine lv_icmp_ge (tgt := 27) hx hb dX13_reads_7 (by decide) (fun _ => ?_) (fun h9 => absurd (show (0 : Int32) ≤ (0 : Int32) by decide +kernel) h9)
  refine lv_aload_n hx hb dX13_reads_27 rfl (lv_at hl 1 rfl) ?_
  refine va_get (D := (dC, dI)) (ci := 15) (v := .ref q5) (C := RX13) (T := TX13) (N := 27) hx hb hts (fun _ h => List.mem_cons_of_mem _ (List.mem_append_left _ (List.mem_append_right _ h))) hown hK hP 0 rfl rfl 4 (by decide) (hts (.fieldLink RX13 26 "SeekwellModel" "titles" "[[J") (by decide +kernel)) (fun _ h9 => h9) rfl dX13_reads_28 ?_
  refine lv_iload_n hx hb dX13_reads_31 rfl (lv_at hl 2 rfl) ?_
  refine lv_iload_n hx hb dX13_reads_32 rfl (lv_at hl 0 rfl) ?_
  refine lv_aload_n hx hb dX13_reads_33 rfl (lv_at hl 1 rfl) ?_
  refine va_get (D := (dC, dI)) (ci := 15) (v := .int 0) (C := RX13) (T := TX13) (N := 27) hx hb hts (fun _ h => List.mem_cons_of_mem _ (List.mem_append_left _ (List.mem_append_right _ h))) hown hK hP 0 rfl rfl 9 (by decide) (hts (.fieldLink RX13 132 "SeekwellModel" "typed" "I") (by decide +kernel)) (fun _ h9 => h9) rfl dX13_reads_34 ?_
  refine lv_icmp_ge (tgt := 49) hx hb dX13_reads_37 (by decide) (fun _ => ?_) (fun h9 => absurd (show (0 : Int32) ≤ (0 : Int32) by decide +kernel) h9)
  refine lv_iconst (v := 0) hx hb dX13_reads_49 (by decide +kernel) ?_
  refine va_newa (D := (dC, dI)) (atype := .long) (ty := .long) (a0 := (0, .inr (.inl (fun _ => 0)))) (N' := 0) hx hb (hts (.arrayClass .long) (by decide +kernel)) rfl hK hP hD hS hA (fun _ => rfl) (by decide +kernel) (by decide +kernel) (Nat.le_of_ble_eq_true rfl) (Nat.le_of_ble_eq_true rfl) (Nat.le_of_ble_eq_true rfl) dX13_reads_50 (fun q20 k3 H hK hP hD hS => ?_)
  have hP : va_P (dC, dI) vwCl [(q0, .inr (15, [.ref q1, .ref q2, .ref q3, .ref q4, .ref q5, .ref q6, .int 0, .int 1, .ref q7, .int 0, .ref q8, .null, .ref q9, .null, .ref q10, .ref q11, .ref q12, .ref q13, .ref q14, .int 0, .ref q15, .ref q16, .ref q17, .ref q18, .ref q19, .int 0, .int 0])), (q5, .inl (k0, 24, .inr (.inr (.inr (.inr (fun _ => none)))))), (q6, .inl (k1, 24, .inr (.inr (.inr (.inr (fun _ => none)))))), (q3, .inl (k2, 24, .inl (fun _ => 0))), (q20, .inl (k3, 0, .inr (.inl (fun _ => 0))))] H := hP
  have hD : va_D A [(q0, .inr (15, [.ref q1, .ref q2, .ref q3, .ref q4, .ref q5, .ref q6, .int 0, .int 1, .ref q7, .int 0, .ref q8, .null, .ref q9, .null, .ref q10, .ref q11, .ref q12, .ref q13, .ref q14, .int 0, .ref q15, .ref q16, .ref q17, .ref q18, .ref q19, .int 0, .int 0])), (q5, .inl (k0, 24, .inr (.inr (.inr (.inr (fun _ => none)))))), (q6, .inl (k1, 24, .inr (.inr (.inr (.inr (fun _ => none)))))), (q3, .inl (k2, 24, .inl (fun _ => 0))), (q20, .inl (k3, 0, .inr (.inl (fun _ => 0))))] := hD
  have hK : va_K (dC, dI) vwCl [(k0, (.array .long)), (k1, (.array .long)), (k2, .int), (k3, .long)] s := hK
  refine W.widen (k := 1) (n := 0) (Nat.le_of_ble_eq_true rfl) (Nat.le_of_ble_eq_true rfl) ?_
  refine va_astqA (D := (dC, dI)) (ty := .long) hx hb (hN.2.2.2.1 .long (by decide +kernel)) hK hP hD hS 1 0 4 3 rfl rfl rfl trivial rfl (i := 0) (zin (by decide +kernel)) dX13_reads_52 (fun H locs hP hD hS => ?_)
  have hP : va_P (dC, dI) vwCl [(q0, .inr (15, [.ref q1, .ref q2, .ref q3, .ref q4, .ref q5, .ref q6, .int 0, .int 1, .ref q7, .int 0, .ref q8, .null, .ref q9, .null, .ref q10, .ref q11, .ref q12, .ref q13, .ref q14, .int 0, .ref q15, .ref q16, .ref q17, .ref q18, .ref q19, .int 0, .int 0])), (q5, .inl (k0, 24, .inr (.inr (.inr (.inr (va_up (fun _ => none) (0 : Int32).toNatClampNeg (some q20))))))), (q6, .inl (k1, 24, .inr (.inr (.inr (.inr (fun _ => none)))))), (q3, .inl (k2, 24, .inl (fun _ => 0))), (q20, .inl (k3, 0, .inr (.inl (fun _ => 0))))] H := hP
  have hD : va_D A [(q0, .inr (15, [.ref q1, .ref q2, .ref q3, .ref q4, .ref q5, .ref q6, .int 0, .int 1, .ref q7, .int 0, .ref q8, .null, .ref q9, .null, .ref q10, .ref q11, .ref q12, .ref q13, .ref q14, .int 0, .ref q15, .ref q16, .ref q17, .ref q18, .ref q19, .int 0, .int 0])), (q5, .inl (k0, 24, .inr (.inr (.inr (.inr (va_up (fun _ => none) (0 : Int32).toNatClampNeg (some q20))))))), (q6, .inl (k1, 24, .inr (.inr (.inr (.inr (fun _ => none)))))), (q3, .inl (k2, 24, .inl (fun _ => 0))), (q20, .inl (k3, 0, .inr (.inl (fun _ => 0))))] := hD
  refine lv_aload_n hx hb dX13_reads_53 rfl (lv_at hl 1 rfl) ?_
  refine va_get (D := (dC, dI)) (ci := 15) (v := .ref q6) (C := RX13) (T := TX13) (N := 27) hx hb hts (fun _ h => List.mem_cons_of_mem _ (List.mem_append_left _ (List.mem_append_right _ h))) hown hK hP 0 rfl rfl 5 (by decide) (hts (.fieldLink RX13 30 "SeekwellModel" "bodies" "[[J") (by decide +kernel)) (fun _ h9 => h9) rfl dX13_reads_54 ?_
  refine lv_iload_n hx hb dX13_reads_57 rfl (lv_at hl 2 rfl) ?_
  refine lv_iload_n hx hb dX13_reads_58 rfl (lv_at hl 0 rfl) ?_
  refine lv_aload_n hx hb dX13_reads_59 rfl (lv_at hl 1 rfl) ?_
  refine va_get (D := (dC, dI)) (ci := 15) (v := .int 0) (C := RX13) (T := TX13) (N := 27) hx hb hts (fun _ h => List.mem_cons_of_mem _ (List.mem_append_left _ (List.mem_append_right _ h))) hown hK hP 0 rfl rfl 9 (by decide) (hts (.fieldLink RX13 132 "SeekwellModel" "typed" "I") (by decide +kernel)) (fun _ h9 => h9) rfl dX13_reads_60 ?_
  refine lv_icmp_ge (tgt := 80) hx hb dX13_reads_63 (by decide) (fun _ => ?_) (fun h9 => absurd (show (0 : Int32) ≤ (0 : Int32) by decide +kernel) h9)
  refine lv_aload_n hx hb dX13_reads_80 rfl (lv_at hl 1 rfl) ?_
  refine lv_iconst (v := 0) hx hb dX13_reads_81 (by decide +kernel) ?_
  refine lv_aload_n hx hb dX13_reads_82 rfl (lv_at hl 1 rfl) ?_
  refine va_get (D := (dC, dI)) (ci := 15) (v := .int 0) (C := RX13) (T := TX13) (N := 27) hx hb hts (fun _ h => List.mem_cons_of_mem _ (List.mem_append_left _ (List.mem_append_right _ h))) hown hK hP 0 rfl rfl 9 (by decide) (hts (.fieldLink RX13 132 "SeekwellModel" "typed" "I") (by decide +kernel)) (fun _ h9 => h9) rfl dX13_reads_83 ?_
  have hPc := hP.sub (ws' := []) [] rfl
  have hDc := hD.sub (ws' := []) [] (by decide) rfl
  have hKc := hK.sub (tys' := []) [] rfl
  have hFc := va_free (wc := []) hD hS hA [] rfl
  refine va_callr (va_runV (As := [.int 0, .int 0]) (rest := [.int 0, .ref q6]) ⟨hx, hb, hml, hown, hts⟩ (c_X13_wordsOf l dC dI q0 H.size  ) (cwV 2 hts gX13_reads_X13_wordsOf rfl rfl rfl (by decide +kernel) ⟨Nat.le_of_ble_eq_true rfl, Nat.le_of_ble_eq_true rfl⟩) ⟨zB_blind, va_recv hK hP (ci := 15) (q0 := 0) rfl rfl, (zPre hPc hDc hKc hS hFc hZ hN)⟩ rfl rfl hl.1 rfl (lv_room (Nat.le_of_ble_eq_true rfl)) dX13_reads_86 ⟨Nat.le_of_ble_eq_true rfl, Nat.le_of_ble_eq_true rfl⟩) hS (fun q _ h => hFc q h) hFc (fun u ra t H1 locs ht hvm hw hB hz1 hk1 hS => ?_)
  obtain ⟨q21, k4, hra, hP1, hK1, hD1⟩ := hB
  subst hra
  rw [ht] at hP1
  have hK1 := va_K.moved hvm.symm hK1
  obtain ⟨hP, hD⟩ := va_join (wr := [(q0, .inr (15, [.ref q1, .ref q2, .ref q3, .ref q4, .ref q5, .ref q6, .int 0, .int 1, .ref q7, .int 0, .ref q8, .null, .ref q9, .null, .ref q10, .ref q11, .ref q12, .ref q13, .ref q14, .int 0, .ref q15, .ref q16, .ref q17, .ref q18, .ref q19, .int 0, .int 0])), (q6, .inl (k1, 24, .inr (.inr (.inr (.inr (fun _ => none)))))), (q3, .inl (k2, 24, .inl (fun _ => 0)))]) (w1 := [(q21, .inl (k4, 0, .inr (.inl (fun _ => 0))))]) hP hD [] [0, 2, 3] rfl rfl (by decide) (by decide) hk1 hFc hP1 hD1
  have hK := (hK.sub (tys' := [(k1, (.array .long)), (k2, .int)]) [1, 2] rfl).app hK1
  generalize H1 = H at hP hS ⊢
  have hP : va_P (dC, dI) vwCl [(q0, .inr (15, [.ref q1, .ref q2, .ref q3, .ref q4, .ref q5, .ref q6, .int 0, .int 1, .ref q7, .int 0, .ref q8, .null, .ref q9, .null, .ref q10, .ref q11, .ref q12, .ref q13, .ref q14, .int 0, .ref q15, .ref q16, .ref q17, .ref q18, .ref q19, .int 0, .int 0])), (q6, .inl (k1, 24, .inr (.inr (.inr (.inr (fun _ => none)))))), (q3, .inl (k2, 24, .inl (fun _ => 0))), (q21, .inl (k4, 0, .inr (.inl (fun _ => 0))))] H := hP
  have hD : va_D A [(q0, .inr (15, [.ref q1, .ref q2, .ref q3, .ref q4, .ref q5, .ref q6, .int 0, .int 1, .ref q7, .int 0, .ref q8, .null, .ref q9, .null, .ref q10, .ref q11, .ref q12, .ref q13, .ref q14, .int 0, .ref q15, .ref q16, .ref q17, .ref q18, .ref q19, .int 0, .int 0])), (q6, .inl (k1, 24, .inr (.inr (.inr (.inr (fun _ => none)))))), (q3, .inl (k2, 24, .inl (fun _ => 0))), (q21, .inl (k4, 0, .inr (.inl (fun _ => 0))))] := hD
  have hK : va_K (dC, dI) vwCl [(k1, (.array .long)), (k2, .int), (k4, .long)] s := hK
  refine W.widen (k := 4) (n := 4012) (Nat.le_of_ble_eq_true rfl) (Nat.le_of_ble_eq_true rfl) ?_
  refine va_astqA (D := (dC, dI)) (ty := .long) hx hb (hN.2.2.2.1 .long (by decide +kernel)) hK hP hD hS 1 0 3 2 rfl rfl rfl trivial rfl (i := 0) (zin (by decide +kernel)) dX13_reads_89 (fun H locs hP hD hS => ?_)
  have hP : va_P (dC, dI) vwCl [(q0, .inr (15, [.ref q1, .ref q2, .ref q3, .ref q4, .ref q5, .ref q6, .int 0, .int 1, .ref q7, .int 0, .ref q8, .null, .ref q9, .null, .ref q10, .ref q11, .ref q12, .ref q13, .ref q14, .int 0, .ref q15, .ref q16, .ref q17, .ref q18, .ref q19, .int 0, .int 0])), (q6, .inl (k1, 24, .inr (.inr (.inr (.inr (va_up (fun _ => none) (0 : Int32).toNatClampNeg (some q21))))))), (q3, .inl (k2, 24, .inl (fun _ => 0))), (q21, .inl (k4, 0, .inr (.inl (fun _ => 0))))] H := hP
  have hD : va_D A [(q0, .inr (15, [.ref q1, .ref q2, .ref q3, .ref q4, .ref q5, .ref q6, .int 0, .int 1, .ref q7, .int 0, .ref q8, .null, .ref q9, .null, .ref q10, .ref q11, .ref q12, .ref q13, .ref q14, .int 0, .ref q15, .ref q16, .ref q17, .ref q18, .ref q19, .int 0, .int 0])), (q6, .inl (k1, 24, .inr (.inr (.inr (.inr (va_up (fun _ => none) (0 : Int32).toNatClampNeg (some q21))))))), (q3, .inl (k2, 24, .inl (fun _ => 0))), (q21, .inl (k4, 0, .inr (.inl (fun _ => 0))))] := hD
  refine lv_aload_n hx hb dX13_reads_90 rfl (lv_at hl 1 rfl) ?_
  refine va_get (D := (dC, dI)) (ci := 15) (v := .ref q3) (C := RX13) (T := TX13) (N := 27) hx hb hts (fun _ h => List.mem_cons_of_mem _ (List.mem_append_left _ (List.mem_append_right _ h))) hown hK hP 0 rfl rfl 2 (by decide) (hts (.fieldLink RX13 17 "SeekwellModel" "partOf" "[I") (by decide +kernel)) (fun _ h9 => h9) rfl dX13_reads_91 ?_
  refine lv_iload_n hx hb dX13_reads_94 rfl (lv_at hl 2 rfl) ?_
  refine lv_aload_n hx hb dX13_reads_95 rfl (lv_at hl 1 rfl) ?_
  refine va_get (D := (dC, dI)) (ci := 15) (v := .int 1) (C := RX13) (T := TX13) (N := 27) hx hb hts (fun _ h => List.mem_cons_of_mem _ (List.mem_append_left _ (List.mem_append_right _ h))) hown hK hP 0 rfl rfl 7 (by decide) (hts (.fieldLink RX13 33 "SeekwellModel" "parts" "I") (by decide +kernel)) (fun _ h9 => h9) rfl dX13_reads_96 ?_
  refine lv_iconst (v := 1) hx hb dX13_reads_99 (by decide +kernel) ?_
  refine lv_isub hx hb dX13_reads_100 ?_
  refine zt_i (v := 0) (by decide +kernel) ?_
  refine va_iast (D := (dC, dI)) hx hb hK hP hD hS 2 1 rfl rfl (i := 0) (x := 0) (zin (by decide +kernel)) dX13_reads_101 (fun H locs hP hD hS => ?_)
  have hP : va_P (dC, dI) vwCl [(q0, .inr (15, [.ref q1, .ref q2, .ref q3, .ref q4, .ref q5, .ref q6, .int 0, .int 1, .ref q7, .int 0, .ref q8, .null, .ref q9, .null, .ref q10, .ref q11, .ref q12, .ref q13, .ref q14, .int 0, .ref q15, .ref q16, .ref q17, .ref q18, .ref q19, .int 0, .int 0])), (q6, .inl (k1, 24, .inr (.inr (.inr (.inr (va_up (fun _ => none) (0 : Int32).toNatClampNeg (some q21))))))), (q3, .inl (k2, 24, .inl (upd (fun _ => 0) (0 : Int32).toNatClampNeg 0))), (q21, .inl (k4, 0, .inr (.inl (fun _ => 0))))] H := hP
  have hD : va_D A [(q0, .inr (15, [.ref q1, .ref q2, .ref q3, .ref q4, .ref q5, .ref q6, .int 0, .int 1, .ref q7, .int 0, .ref q8, .null, .ref q9, .null, .ref q10, .ref q11, .ref q12, .ref q13, .ref q14, .int 0, .ref q15, .ref q16, .ref q17, .ref q18, .ref q19, .int 0, .int 0])), (q6, .inl (k1, 24, .inr (.inr (.inr (.inr (va_up (fun _ => none) (0 : Int32).toNatClampNeg (some q21))))))), (q3, .inl (k2, 24, .inl (upd (fun _ => 0) (0 : Int32).toNatClampNeg 0))), (q21, .inl (k4, 0, .inr (.inl (fun _ => 0))))] := hD
  refine lv_aload_n hx hb dX13_reads_102 rfl (lv_at hl 1 rfl) ?_
  refine lv_iconst (v := 0) hx hb dX13_reads_103 (by decide +kernel) ?_
  refine va_put (D := (dC, dI)) (ci := 15) (v := .int 0) (ty := .int) (C := RX13) (T := TX13) (N := 27) hx hb hts (fun _ h => List.mem_cons_of_mem _ (List.mem_append_left _ (List.mem_append_right _ h))) tyX13 tyX13_ok nmX13 hown hK hP hD hS 0 rfl rfl 9 (by decide) (hts (.fieldLink RX13 132 "SeekwellModel" "typed" "I") (by decide +kernel)) (fun _ h9 => h9) rfl (by decide +kernel) rfl rfl (Nat.le_of_ble_eq_true rfl) dX13_reads_104 (fun H locs hP hD hS => ?_)
  have hP : va_P (dC, dI) vwCl [(q0, .inr (15, [.ref q1, .ref q2, .ref q3, .ref q4, .ref q5, .ref q6, .int 0, .int 1, .ref q7, .int 0, .ref q8, .null, .ref q9, .null, .ref q10, .ref q11, .ref q12, .ref q13, .ref q14, .int 0, .ref q15, .ref q16, .ref q17, .ref q18, .ref q19, .int 0, .int 0])), (q6, .inl (k1, 24, .inr (.inr (.inr (.inr (va_up (fun _ => none) (0 : Int32).toNatClampNeg (some q21))))))), (q3, .inl (k2, 24, .inl (upd (fun _ => 0) (0 : Int32).toNatClampNeg 0))), (q21, .inl (k4, 0, .inr (.inl (fun _ => 0))))] H := hP
  have hD : va_D A [(q0, .inr (15, [.ref q1, .ref q2, .ref q3, .ref q4, .ref q5, .ref q6, .int 0, .int 1, .ref q7, .int 0, .ref q8, .null, .ref q9, .null, .ref q10, .ref q11, .ref q12, .ref q13, .ref q14, .int 0, .ref q15, .ref q16, .ref q17, .ref q18, .ref q19, .int 0, .int 0])), (q6, .inl (k1, 24, .inr (.inr (.inr (.inr (va_up (fun _ => none) (0 : Int32).toNatClampNeg (some q21))))))), (q3, .inl (k2, 24, .inl (upd (fun _ => 0) (0 : Int32).toNatClampNeg 0))), (q21, .inl (k4, 0, .inr (.inl (fun _ => 0))))] := hD
  have hP9 := hP.sub (ws' := [(q0, .inr (15, [.ref q1, .ref q2, .ref q3, .ref q4, .ref q5, .ref q6, .int 0, .int 1, .ref q7, .int 0, .ref q8, .null, .ref q9, .null, .ref q10, .ref q11, .ref q12, .ref q13, .ref q14, .int 0, .ref q15, .ref q16, .ref q17, .ref q18, .ref q19, .int 0, .int 0]))]) [0] rfl
  have hD9 := hD.sub (ws' := [(q0, .inr (15, [.ref q1, .ref q2, .ref q3, .ref q4, .ref q5, .ref q6, .int 0, .int 1, .ref q7, .int 0, .ref q8, .null, .ref q9, .null, .ref q10, .ref q11, .ref q12, .ref q13, .ref q14, .int 0, .ref q15, .ref q16, .ref q17, .ref q18, .ref q19, .int 0, .int 0]))]) [0] (by decide) rfl
  have hK9 := hK.sub (tys' := []) [] rfl
  exact W.vret hx hb hr (fun t ht hW => ⟨⟨(), rfl, trivial, ⟨by rw [ht]; exact hP9, va_K.moved hW.alike hK9, hD9⟩⟩, hS.F ht⟩) hS.2.2 dX13_reads_107
set_option maxHeartbeats 4000000 in
set_option maxRecDepth 100000 in
theorem c_X13_add_5 (l : Launch) (dC : Nat → ClassId) (dI : Nat → Nat → Nat) (q0 q1 q2 q3 q4 q5 q6 q7 q8 q9 q10 q11 q12 q13 q14 q15 q16 q17 q18 q19 : Nat) (k0 k1 k2 k3 k4 k5 : ClassId) (sz : Nat) (p1 : Int32) (p2 : Int32) (hc0 : ¬ p1 < 0) (hc1 : ¬ (999 : Int32) < p1) (hc2 : ¬ p2 < 97) (hc3 : ¬ (122 : Int32) < p2) : Met l yX13_add wsX13_add ({ frames := 3, cells := 4, slots := 4012, locals := 73 }) (va_Pc [.ref q0, .int p1, .int p2] (zB (dC, dI) [(k0, .boolean), (k1, .int), (k2, .char), (k3, (.array .long)), (k4, (.array .long)), (k5, .int)] [(q0, .inr (15, [.ref q1, .ref q2, .ref q3, .ref q4, .ref q5, .ref q6, .int 0, .int 1, .ref q7, .int 0, .ref q8, .null, .ref q9, .null, .ref q10, .ref q11, .ref q12, .ref q13, .ref q14, .int 0, .ref q15, .ref q16, .ref q17, .ref q18, .ref q19, .int 0, .int 0])), (q1, .inl (k0, 24, .inl (fun _ => 0))), (q2, .inl (k1, 24, .inl (fun _ => 0))), (q4, .inl (k2, 24, .inl (fun _ => 0))), (q5, .inl (k3, 24, .inr (.inr (.inr (.inr (fun _ => none)))))), (q6, .inl (k4, 24, .inr (.inr (.inr (.inr (fun _ => none)))))), (q3, .inl (k5, 24, .inl (fun _ => 0)))] sz)) (va_Qi (fun (r : Int32) (_ : Unit) => 0 = r) (fun _ t => zE (dC, dI) [] [(q0, .inr (15, [.ref q1, .ref q2, .ref q3, .ref q4, .ref q5, .ref q6, .int 1, .int 1, .ref q7, .int 0, .ref q8, .null, .ref q9, .null, .ref q10, .ref q11, .ref q12, .ref q13, .ref q14, .int 0, .ref q15, .ref q16, .ref q17, .ref q18, .ref q19, .int 0, .int 0]))] (va_A [(q0, .inr (15, [.ref q1, .ref q2, .ref q3, .ref q4, .ref q5, .ref q6, .int 0, .int 1, .ref q7, .int 0, .ref q8, .null, .ref q9, .null, .ref q10, .ref q11, .ref q12, .ref q13, .ref q14, .int 0, .ref q15, .ref q16, .ref q17, .ref q18, .ref q19, .int 0, .int 0])), (q1, .inl (k0, 24, .inl (fun _ => 0))), (q2, .inl (k1, 24, .inl (fun _ => 0))), (q4, .inl (k2, 24, .inl (fun _ => 0))), (q5, .inl (k3, 24, .inr (.inr (.inr (.inr (fun _ => none)))))), (q6, .inl (k4, 24, .inr (.inr (.inr (.inr (fun _ => none)))))), (q3, .inl (k5, 24, .inl (fun _ => 0)))] sz) t) (va_A [(q0, .inr (15, [.ref q1, .ref q2, .ref q3, .ref q4, .ref q5, .ref q6, .int 0, .int 1, .ref q7, .int 0, .ref q8, .null, .ref q9, .null, .ref q10, .ref q11, .ref q12, .ref q13, .ref q14, .int 0, .ref q15, .ref q16, .ref q17, .ref q18, .ref q19, .int 0, .int 0])), (q1, .inl (k0, 24, .inl (fun _ => 0))), (q2, .inl (k1, 24, .inl (fun _ => 0))), (q4, .inl (k2, 24, .inl (fun _ => 0))), (q5, .inl (k3, 24, .inr (.inr (.inr (.inr (fun _ => none)))))), (q6, .inl (k4, 24, .inr (.inr (.inr (.inr (fun _ => none)))))), (q3, .inl (k5, 24, .inl (fun _ => 0)))] sz)) 4 4012 (va_A [(q0, .inr (15, [.ref q1, .ref q2, .ref q3, .ref q4, .ref q5, .ref q6, .int 0, .int 1, .ref q7, .int 0, .ref q8, .null, .ref q9, .null, .ref q10, .ref q11, .ref q12, .ref q13, .ref q14, .int 0, .ref q15, .ref q16, .ref q17, .ref q18, .ref q19, .int 0, .int 0])), (q1, .inl (k0, 24, .inl (fun _ => 0))), (q2, .inl (k1, 24, .inl (fun _ => 0))), (q4, .inl (k2, 24, .inl (fun _ => 0))), (q5, .inl (k3, 24, .inr (.inr (.inr (.inr (fun _ => none)))))), (q6, .inl (k4, 24, .inr (.inr (.inr (.inr (fun _ => none)))))), (q3, .inl (k5, 24, .inl (fun _ => 0)))] sz) := by
  refine Met.ofW (cc := cX13_add) (maxL := 3) (ret := (some .int)) (by decide) rfl ?_
  intro p e s m args below meth c s₁ B hml hv
  obtain ⟨rfl, hsz, hP, hK, hD0, hZ, hN⟩ := hv
  have hx := B.exec
  have hb := B.bytes
  have hr := B.returns
  have hts := atoms_spec (ws := wsX13_add) B.pre
  have hown : s.vm.findClass RX13 = some m.cls := findClass_of_methodNamed B.named
  have hlocks := B.notSynchronized
  subst hsz
  have hD := hD0.self (sz := s.heap.size)
  generalize hAe : va_A [(q0, .inr (15, [.ref q1, .ref q2, .ref q3, .ref q4, .ref q5, .ref q6, .int 0, .int 1, .ref q7, .int 0, .ref q8, .null, .ref q9, .null, .ref q10, .ref q11, .ref q12, .ref q13, .ref q14, .int 0, .ref q15, .ref q16, .ref q17, .ref q18, .ref q19, .int 0, .int 0])), (q1, .inl (k0, 24, .inl (fun _ => 0))), (q2, .inl (k1, 24, .inl (fun _ => 0))), (q4, .inl (k2, 24, .inl (fun _ => 0))), (q5, .inl (k3, 24, .inr (.inr (.inr (.inr (fun _ => none)))))), (q6, .inl (k4, 24, .inr (.inr (.inr (.inr (fun _ => none)))))), (q3, .inl (k5, 24, .inl (fun _ => 0)))] s.heap.size = A at hD hZ ⊢
  have hA : ∀ q : Nat, s.heap.size ≤ q → A q := fun q h => by rw [← hAe]; exact Or.inr h
  have hS : va_S A s.heap s.heap [] := va_S.rf
  have hP : va_P (dC, dI) vwCl [(q0, .inr (15, [.ref q1, .ref q2, .ref q3, .ref q4, .ref q5, .ref q6, .int 0, .int 1, .ref q7, .int 0, .ref q8, .null, .ref q9, .null, .ref q10, .ref q11, .ref q12, .ref q13, .ref q14, .int 0, .ref q15, .ref q16, .ref q17, .ref q18, .ref q19, .int 0, .int 0])), (q1, .inl (k0, 24, .inl (fun _ => 0))), (q2, .inl (k1, 24, .inl (fun _ => 0))), (q4, .inl (k2, 24, .inl (fun _ => 0))), (q5, .inl (k3, 24, .inr (.inr (.inr (.inr (fun _ => none)))))), (q6, .inl (k4, 24, .inr (.inr (.inr (.inr (fun _ => none)))))), (q3, .inl (k5, 24, .inl (fun _ => 0)))] s.heap := hP
  have hl := lv_entry ([.ref q0, .int p1, .int p2]) (n := 3) (Nat.le_of_ble_eq_true rfl)
  rw [lg_entry_eq]
  generalize (lg_sl ([.ref q0, .int p1, .int p2]) ++ List.replicate (3 - (lg_sl ([.ref q0, .int p1, .int p2])).length) Slot.unset).toArray = ls at hl ⊢
  have hl : lv_has ls 3 [(0, .ref q0), (1, .int p1), (2, .int p2)] := hl
  refine lv_aload_n hx hb dX13_add_0 rfl (lv_at hl 0 rfl) ?_
  refine lv_iload_n hx hb dX13_add_1 rfl (lv_at hl 1 rfl) ?_
  refine lv_iconst (v := 0) hx hb dX13_add_2 (by decide +kernel) ?_
  refine lv_sipush (v := 999) hx hb dX13_add_3 (by decide +kernel) ?_
  have hPc := hP.sub (ws' := []) [] rfl
  have hDc := hD.sub (ws' := []) [] (by decide) rfl
  have hKc := hK.sub (tys' := []) [] rfl
  have hFc := va_free (wc := []) hD hS hA [] rfl
  refine va_calli (va_runS (As := [.int p1, .int 0, .int 999]) (rest := [.ref q0]) ⟨hx, hb, hml, hown, hts⟩ (c_X13_in_8 l dC dI  s.heap.size p1 hc0 hc1) (va_cwS 3 hts gX13_add_X13_in rfl rfl rfl (by decide +kernel) ⟨Nat.le_of_ble_eq_true rfl, Nat.le_of_ble_eq_true rfl⟩) ⟨zB_blind, (zPre hPc hDc hKc hS hFc hZ hN)⟩ rfl rfl hl.1 rfl (lv_room (Nat.le_of_ble_eq_true rfl)) dX13_add_6 ⟨Nat.le_of_ble_eq_true rfl, Nat.le_of_ble_eq_true rfl⟩) hS (fun q _ h => hFc q h) hFc (fun r u t H1 locs ht hvm hw hB hz1 hk1 hS => ?_)
  subst hw
  obtain ⟨hP1, hK1, hD1⟩ := hB
  rw [ht] at hP1
  have hK1 := va_K.moved hvm.symm hK1
  obtain ⟨hP, hD⟩ := va_join (wr := [(q0, .inr (15, [.ref q1, .ref q2, .ref q3, .ref q4, .ref q5, .ref q6, .int 0, .int 1, .ref q7, .int 0, .ref q8, .null, .ref q9, .null, .ref q10, .ref q11, .ref q12, .ref q13, .ref q14, .int 0, .ref q15, .ref q16, .ref q17, .ref q18, .ref q19, .int 0, .int 0])), (q1, .inl (k0, 24, .inl (fun _ => 0))), (q2, .inl (k1, 24, .inl (fun _ => 0))), (q4, .inl (k2, 24, .inl (fun _ => 0))), (q5, .inl (k3, 24, .inr (.inr (.inr (.inr (fun _ => none)))))), (q6, .inl (k4, 24, .inr (.inr (.inr (.inr (fun _ => none)))))), (q3, .inl (k5, 24, .inl (fun _ => 0)))]) (w1 := []) hP hD [] [0, 1, 2, 3, 4, 5, 6] rfl rfl (by decide) (by decide) hk1 hFc hP1 hD1
  have hK := (hK.sub (tys' := [(k0, .boolean), (k1, .int), (k2, .char), (k3, (.array .long)), (k4, (.array .long)), (k5, .int)]) [0, 1, 2, 3, 4, 5] rfl).app hK1
  generalize H1 = H at hP hS ⊢
  have hP : va_P (dC, dI) vwCl [(q0, .inr (15, [.ref q1, .ref q2, .ref q3, .ref q4, .ref q5, .ref q6, .int 0, .int 1, .ref q7, .int 0, .ref q8, .null, .ref q9, .null, .ref q10, .ref q11, .ref q12, .ref q13, .ref q14, .int 0, .ref q15, .ref q16, .ref q17, .ref q18, .ref q19, .int 0, .int 0])), (q1, .inl (k0, 24, .inl (fun _ => 0))), (q2, .inl (k1, 24, .inl (fun _ => 0))), (q4, .inl (k2, 24, .inl (fun _ => 0))), (q5, .inl (k3, 24, .inr (.inr (.inr (.inr (fun _ => none)))))), (q6, .inl (k4, 24, .inr (.inr (.inr (.inr (fun _ => none)))))), (q3, .inl (k5, 24, .inl (fun _ => 0)))] H := hP
  have hD : va_D A [(q0, .inr (15, [.ref q1, .ref q2, .ref q3, .ref q4, .ref q5, .ref q6, .int 0, .int 1, .ref q7, .int 0, .ref q8, .null, .ref q9, .null, .ref q10, .ref q11, .ref q12, .ref q13, .ref q14, .int 0, .ref q15, .ref q16, .ref q17, .ref q18, .ref q19, .int 0, .int 0])), (q1, .inl (k0, 24, .inl (fun _ => 0))), (q2, .inl (k1, 24, .inl (fun _ => 0))), (q4, .inl (k2, 24, .inl (fun _ => 0))), (q5, .inl (k3, 24, .inr (.inr (.inr (.inr (fun _ => none)))))), (q6, .inl (k4, 24, .inr (.inr (.inr (.inr (fun _ => none)))))), (q3, .inl (k5, 24, .inl (fun _ => 0)))] := hD
  have hK : va_K (dC, dI) vwCl [(k0, .boolean), (k1, .int), (k2, .char), (k3, (.array .long)), (k4, (.array .long)), (k5, .int)] s := hK
  refine W.widen (k := 0) (n := 0) (Nat.le_of_ble_eq_true rfl) (Nat.le_of_ble_eq_true rfl) ?_
  refine lv_if_eq (tgt := 27) hx hb dX13_add_9 (by decide) (fun h9 => absurd h9 (show ¬ (1 : Int32) = (0 : Int32) by decide +kernel)) (fun _ => ?_)
  refine lv_iload_n hx hb dX13_add_12 rfl (lv_at hl 2 rfl) ?_
  refine lv_bipush (v := 97) hx hb dX13_add_13 (by decide +kernel) ?_
  refine lv_bipush (v := 122) hx hb dX13_add_15 (by decide +kernel) ?_
  have hPc := hP.sub (ws' := []) [] rfl
  have hDc := hD.sub (ws' := []) [] (by decide) rfl
  have hKc := hK.sub (tys' := []) [] rfl
  have hFc := va_free (wc := []) hD hS hA [] rfl
  refine va_calli (va_runS (As := [.int p2, .int 97, .int 122]) (rest := [.ref q0]) ⟨hx, hb, hml, hown, hts⟩ (c_X13_in_11 l dC dI  H.size p2 hc2 hc3) (va_cwS 3 hts gX13_add_X13_in rfl rfl rfl (by decide +kernel) ⟨Nat.le_of_ble_eq_true rfl, Nat.le_of_ble_eq_true rfl⟩) ⟨zB_blind, (zPre hPc hDc hKc hS hFc hZ hN)⟩ rfl rfl hl.1 rfl (lv_room (Nat.le_of_ble_eq_true rfl)) dX13_add_17 ⟨Nat.le_of_ble_eq_true rfl, Nat.le_of_ble_eq_true rfl⟩) hS (fun q _ h => hFc q h) hFc (fun r u t H1 locs ht hvm hw hB hz1 hk1 hS => ?_)
  subst hw
  obtain ⟨hP1, hK1, hD1⟩ := hB
  rw [ht] at hP1
  have hK1 := va_K.moved hvm.symm hK1
  obtain ⟨hP, hD⟩ := va_join (wr := [(q0, .inr (15, [.ref q1, .ref q2, .ref q3, .ref q4, .ref q5, .ref q6, .int 0, .int 1, .ref q7, .int 0, .ref q8, .null, .ref q9, .null, .ref q10, .ref q11, .ref q12, .ref q13, .ref q14, .int 0, .ref q15, .ref q16, .ref q17, .ref q18, .ref q19, .int 0, .int 0])), (q1, .inl (k0, 24, .inl (fun _ => 0))), (q2, .inl (k1, 24, .inl (fun _ => 0))), (q4, .inl (k2, 24, .inl (fun _ => 0))), (q5, .inl (k3, 24, .inr (.inr (.inr (.inr (fun _ => none)))))), (q6, .inl (k4, 24, .inr (.inr (.inr (.inr (fun _ => none)))))), (q3, .inl (k5, 24, .inl (fun _ => 0)))]) (w1 := []) hP hD [] [0, 1, 2, 3, 4, 5, 6] rfl rfl (by decide) (by decide) hk1 hFc hP1 hD1
  have hK := (hK.sub (tys' := [(k0, .boolean), (k1, .int), (k2, .char), (k3, (.array .long)), (k4, (.array .long)), (k5, .int)]) [0, 1, 2, 3, 4, 5] rfl).app hK1
  generalize H1 = H at hP hS ⊢
  have hP : va_P (dC, dI) vwCl [(q0, .inr (15, [.ref q1, .ref q2, .ref q3, .ref q4, .ref q5, .ref q6, .int 0, .int 1, .ref q7, .int 0, .ref q8, .null, .ref q9, .null, .ref q10, .ref q11, .ref q12, .ref q13, .ref q14, .int 0, .ref q15, .ref q16, .ref q17, .ref q18, .ref q19, .int 0, .int 0])), (q1, .inl (k0, 24, .inl (fun _ => 0))), (q2, .inl (k1, 24, .inl (fun _ => 0))), (q4, .inl (k2, 24, .inl (fun _ => 0))), (q5, .inl (k3, 24, .inr (.inr (.inr (.inr (fun _ => none)))))), (q6, .inl (k4, 24, .inr (.inr (.inr (.inr (fun _ => none)))))), (q3, .inl (k5, 24, .inl (fun _ => 0)))] H := hP
  have hD : va_D A [(q0, .inr (15, [.ref q1, .ref q2, .ref q3, .ref q4, .ref q5, .ref q6, .int 0, .int 1, .ref q7, .int 0, .ref q8, .null, .ref q9, .null, .ref q10, .ref q11, .ref q12, .ref q13, .ref q14, .int 0, .ref q15, .ref q16, .ref q17, .ref q18, .ref q19, .int 0, .int 0])), (q1, .inl (k0, 24, .inl (fun _ => 0))), (q2, .inl (k1, 24, .inl (fun _ => 0))), (q4, .inl (k2, 24, .inl (fun _ => 0))), (q5, .inl (k3, 24, .inr (.inr (.inr (.inr (fun _ => none)))))), (q6, .inl (k4, 24, .inr (.inr (.inr (.inr (fun _ => none)))))), (q3, .inl (k5, 24, .inl (fun _ => 0)))] := hD
  have hK : va_K (dC, dI) vwCl [(k0, .boolean), (k1, .int), (k2, .char), (k3, (.array .long)), (k4, (.array .long)), (k5, .int)] s := hK
  refine W.widen (k := 0) (n := 0) (Nat.le_of_ble_eq_true rfl) (Nat.le_of_ble_eq_true rfl) ?_
  refine lv_if_eq (tgt := 27) hx hb dX13_add_20 (by decide) (fun h9 => absurd h9 (show ¬ (1 : Int32) = (0 : Int32) by decide +kernel)) (fun _ => ?_)
  refine lv_iconst (v := 1) hx hb dX13_add_23 (by decide +kernel) ?_
  refine lv_goto (tgt := 28) hx hb dX13_add_24 (by decide) ?_
  refine lv_iconst (v := 1) hx hb dX13_add_28 (by decide +kernel) ?_
  have hPc := hP.sub (ws' := [(q0, .inr (15, [.ref q1, .ref q2, .ref q3, .ref q4, .ref q5, .ref q6, .int 0, .int 1, .ref q7, .int 0, .ref q8, .null, .ref q9, .null, .ref q10, .ref q11, .ref q12, .ref q13, .ref q14, .int 0, .ref q15, .ref q16, .ref q17, .ref q18, .ref q19, .int 0, .int 0]))]) [0] rfl
  have hDc := hD.sub (ws' := [(q0, .inr (15, [.ref q1, .ref q2, .ref q3, .ref q4, .ref q5, .ref q6, .int 0, .int 1, .ref q7, .int 0, .ref q8, .null, .ref q9, .null, .ref q10, .ref q11, .ref q12, .ref q13, .ref q14, .int 0, .ref q15, .ref q16, .ref q17, .ref q18, .ref q19, .int 0, .int 0]))]) [0] (by decide) rfl
  have hKc := hK.sub (tys' := []) [] rfl
  have hFc := va_free (wc := [(q0, .inr (15, [.ref q1, .ref q2, .ref q3, .ref q4, .ref q5, .ref q6, .int 0, .int 1, .ref q7, .int 0, .ref q8, .null, .ref q9, .null, .ref q10, .ref q11, .ref q12, .ref q13, .ref q14, .int 0, .ref q15, .ref q16, .ref q17, .ref q18, .ref q19, .int 0, .int 0]))]) hD hS hA [0] rfl
  refine va_calli (va_runV (As := [.int 1, .int 1]) (rest := []) ⟨hx, hb, hml, hown, hts⟩ (c_X13_no_2 l dC dI q0 q1 q2 q3 q4 q5 q6 q7 q8 q9 q10 q11 q12 q13 q14 q15 q16 q17 q18 q19 H.size  ) (cwV 2 hts gX13_add_X13_no rfl rfl rfl (by decide +kernel) ⟨Nat.le_of_ble_eq_true rfl, Nat.le_of_ble_eq_true rfl⟩) ⟨zB_blind, va_recv hK hP (ci := 15) (q0 := 0) rfl rfl, (zPre hPc hDc hKc hS hFc hZ hN)⟩ rfl rfl hl.1 rfl (lv_room (Nat.le_of_ble_eq_true rfl)) dX13_add_29 ⟨Nat.le_of_ble_eq_true rfl, Nat.le_of_ble_eq_true rfl⟩) hS (fun q _ h => hFc q h) hFc (fun r u t H1 locs ht hvm hw hB hz1 hk1 hS => ?_)
  subst hw
  obtain ⟨hP1, hK1, hD1⟩ := hB
  rw [ht] at hP1
  have hK1 := va_K.moved hvm.symm hK1
  obtain ⟨hP, hD⟩ := va_join (wr := [(q1, .inl (k0, 24, .inl (fun _ => 0))), (q2, .inl (k1, 24, .inl (fun _ => 0))), (q4, .inl (k2, 24, .inl (fun _ => 0))), (q5, .inl (k3, 24, .inr (.inr (.inr (.inr (fun _ => none)))))), (q6, .inl (k4, 24, .inr (.inr (.inr (.inr (fun _ => none)))))), (q3, .inl (k5, 24, .inl (fun _ => 0)))]) (w1 := [(q0, .inr (15, [.ref q1, .ref q2, .ref q3, .ref q4, .ref q5, .ref q6, .int 0, .int 1, .ref q7, .int 0, .ref q8, .null, .ref q9, .null, .ref q10, .ref q11, .ref q12, .ref q13, .ref q14, .int 0, .ref q15, .ref q16, .ref q17, .ref q18, .ref q19, .int 0, .int 0]))]) hP hD [0] [1, 2, 3, 4, 5, 6] rfl rfl (by decide) (by decide) hk1 hFc hP1 hD1
  have hK := (hK.sub (tys' := [(k0, .boolean), (k1, .int), (k2, .char), (k3, (.array .long)), (k4, (.array .long)), (k5, .int)]) [0, 1, 2, 3, 4, 5] rfl).app hK1
  generalize H1 = H at hP hS ⊢
  have hP : va_P (dC, dI) vwCl [(q1, .inl (k0, 24, .inl (fun _ => 0))), (q2, .inl (k1, 24, .inl (fun _ => 0))), (q4, .inl (k2, 24, .inl (fun _ => 0))), (q5, .inl (k3, 24, .inr (.inr (.inr (.inr (fun _ => none)))))), (q6, .inl (k4, 24, .inr (.inr (.inr (.inr (fun _ => none)))))), (q3, .inl (k5, 24, .inl (fun _ => 0))), (q0, .inr (15, [.ref q1, .ref q2, .ref q3, .ref q4, .ref q5, .ref q6, .int 0, .int 1, .ref q7, .int 0, .ref q8, .null, .ref q9, .null, .ref q10, .ref q11, .ref q12, .ref q13, .ref q14, .int 0, .ref q15, .ref q16, .ref q17, .ref q18, .ref q19, .int 0, .int 0]))] H := hP
  have hD : va_D A [(q1, .inl (k0, 24, .inl (fun _ => 0))), (q2, .inl (k1, 24, .inl (fun _ => 0))), (q4, .inl (k2, 24, .inl (fun _ => 0))), (q5, .inl (k3, 24, .inr (.inr (.inr (.inr (fun _ => none)))))), (q6, .inl (k4, 24, .inr (.inr (.inr (.inr (fun _ => none)))))), (q3, .inl (k5, 24, .inl (fun _ => 0))), (q0, .inr (15, [.ref q1, .ref q2, .ref q3, .ref q4, .ref q5, .ref q6, .int 0, .int 1, .ref q7, .int 0, .ref q8, .null, .ref q9, .null, .ref q10, .ref q11, .ref q12, .ref q13, .ref q14, .int 0, .ref q15, .ref q16, .ref q17, .ref q18, .ref q19, .int 0, .int 0]))] := hD
  have hK : va_K (dC, dI) vwCl [(k0, .boolean), (k1, .int), (k2, .char), (k3, (.array .long)), (k4, (.array .long)), (k5, .int)] s := hK
  refine W.widen (k := 0) (n := 0) (Nat.le_of_ble_eq_true rfl) (Nat.le_of_ble_eq_true rfl) ?_
  refine lv_if_ne (tgt := 57) hx hb dX13_add_32 (by decide) (fun h9 => absurd (show (0 : Int32) = (0 : Int32) by decide +kernel) h9) (fun _ => ?_)
  refine lv_aload_n hx hb dX13_add_35 rfl (lv_at hl 0 rfl) ?_
  refine lv_aload_n hx hb dX13_add_36 rfl (lv_at hl 0 rfl) ?_
  refine va_get (D := (dC, dI)) (ci := 15) (v := .int 0) (C := RX13) (T := TX13) (N := 27) hx hb hts (fun _ h => List.mem_cons_of_mem _ (List.mem_append_left _ (List.mem_append_right _ h))) hown hK hP 6 rfl rfl 6 (by decide) (hts (.fieldLink RX13 85 "SeekwellModel" "came" "I") (by decide +kernel)) (fun _ h9 => h9) rfl dX13_add_37 ?_
  refine lv_bipush (v := 24) hx hb dX13_add_40 (by decide +kernel) ?_
  refine lv_icmp_ge (tgt := 49) hx hb dX13_add_42 (by decide) (fun h9 => absurd h9 (show ¬ (24 : Int32) ≤ (0 : Int32) by decide +kernel)) (fun _ => ?_)
  refine lv_iconst (v := 1) hx hb dX13_add_45 (by decide +kernel) ?_
  refine lv_goto (tgt := 50) hx hb dX13_add_46 (by decide) ?_
  refine lv_iconst (v := 2) hx hb dX13_add_50 (by decide +kernel) ?_
  have hPc := hP.sub (ws' := [(q0, .inr (15, [.ref q1, .ref q2, .ref q3, .ref q4, .ref q5, .ref q6, .int 0, .int 1, .ref q7, .int 0, .ref q8, .null, .ref q9, .null, .ref q10, .ref q11, .ref q12, .ref q13, .ref q14, .int 0, .ref q15, .ref q16, .ref q17, .ref q18, .ref q19, .int 0, .int 0]))]) [6] rfl
  have hDc := hD.sub (ws' := [(q0, .inr (15, [.ref q1, .ref q2, .ref q3, .ref q4, .ref q5, .ref q6, .int 0, .int 1, .ref q7, .int 0, .ref q8, .null, .ref q9, .null, .ref q10, .ref q11, .ref q12, .ref q13, .ref q14, .int 0, .ref q15, .ref q16, .ref q17, .ref q18, .ref q19, .int 0, .int 0]))]) [6] (by decide) rfl
  have hKc := hK.sub (tys' := []) [] rfl
  have hFc := va_free (wc := [(q0, .inr (15, [.ref q1, .ref q2, .ref q3, .ref q4, .ref q5, .ref q6, .int 0, .int 1, .ref q7, .int 0, .ref q8, .null, .ref q9, .null, .ref q10, .ref q11, .ref q12, .ref q13, .ref q14, .int 0, .ref q15, .ref q16, .ref q17, .ref q18, .ref q19, .int 0, .int 0]))]) hD hS hA [6] rfl
  refine va_calli (va_runV (As := [.int 1, .int 2]) (rest := []) ⟨hx, hb, hml, hown, hts⟩ (c_X13_no_3 l dC dI q0 q1 q2 q3 q4 q5 q6 q7 q8 q9 q10 q11 q12 q13 q14 q15 q16 q17 q18 q19 H.size  ) (cwV 2 hts gX13_add_X13_no rfl rfl rfl (by decide +kernel) ⟨Nat.le_of_ble_eq_true rfl, Nat.le_of_ble_eq_true rfl⟩) ⟨zB_blind, va_recv hK hP (ci := 15) (q0 := 6) rfl rfl, (zPre hPc hDc hKc hS hFc hZ hN)⟩ rfl rfl hl.1 rfl (lv_room (Nat.le_of_ble_eq_true rfl)) dX13_add_51 ⟨Nat.le_of_ble_eq_true rfl, Nat.le_of_ble_eq_true rfl⟩) hS (fun q _ h => hFc q h) hFc (fun r u t H1 locs ht hvm hw hB hz1 hk1 hS => ?_)
  subst hw
  obtain ⟨hP1, hK1, hD1⟩ := hB
  rw [ht] at hP1
  have hK1 := va_K.moved hvm.symm hK1
  obtain ⟨hP, hD⟩ := va_join (wr := [(q1, .inl (k0, 24, .inl (fun _ => 0))), (q2, .inl (k1, 24, .inl (fun _ => 0))), (q4, .inl (k2, 24, .inl (fun _ => 0))), (q5, .inl (k3, 24, .inr (.inr (.inr (.inr (fun _ => none)))))), (q6, .inl (k4, 24, .inr (.inr (.inr (.inr (fun _ => none)))))), (q3, .inl (k5, 24, .inl (fun _ => 0)))]) (w1 := [(q0, .inr (15, [.ref q1, .ref q2, .ref q3, .ref q4, .ref q5, .ref q6, .int 0, .int 1, .ref q7, .int 0, .ref q8, .null, .ref q9, .null, .ref q10, .ref q11, .ref q12, .ref q13, .ref q14, .int 0, .ref q15, .ref q16, .ref q17, .ref q18, .ref q19, .int 0, .int 0]))]) hP hD [6] [0, 1, 2, 3, 4, 5] rfl rfl (by decide) (by decide) hk1 hFc hP1 hD1
  have hK := (hK.sub (tys' := [(k0, .boolean), (k1, .int), (k2, .char), (k3, (.array .long)), (k4, (.array .long)), (k5, .int)]) [0, 1, 2, 3, 4, 5] rfl).app hK1
  generalize H1 = H at hP hS ⊢
  have hP : va_P (dC, dI) vwCl [(q1, .inl (k0, 24, .inl (fun _ => 0))), (q2, .inl (k1, 24, .inl (fun _ => 0))), (q4, .inl (k2, 24, .inl (fun _ => 0))), (q5, .inl (k3, 24, .inr (.inr (.inr (.inr (fun _ => none)))))), (q6, .inl (k4, 24, .inr (.inr (.inr (.inr (fun _ => none)))))), (q3, .inl (k5, 24, .inl (fun _ => 0))), (q0, .inr (15, [.ref q1, .ref q2, .ref q3, .ref q4, .ref q5, .ref q6, .int 0, .int 1, .ref q7, .int 0, .ref q8, .null, .ref q9, .null, .ref q10, .ref q11, .ref q12, .ref q13, .ref q14, .int 0, .ref q15, .ref q16, .ref q17, .ref q18, .ref q19, .int 0, .int 0]))] H := hP
  have hD : va_D A [(q1, .inl (k0, 24, .inl (fun _ => 0))), (q2, .inl (k1, 24, .inl (fun _ => 0))), (q4, .inl (k2, 24, .inl (fun _ => 0))), (q5, .inl (k3, 24, .inr (.inr (.inr (.inr (fun _ => none)))))), (q6, .inl (k4, 24, .inr (.inr (.inr (.inr (fun _ => none)))))), (q3, .inl (k5, 24, .inl (fun _ => 0))), (q0, .inr (15, [.ref q1, .ref q2, .ref q3, .ref q4, .ref q5, .ref q6, .int 0, .int 1, .ref q7, .int 0, .ref q8, .null, .ref q9, .null, .ref q10, .ref q11, .ref q12, .ref q13, .ref q14, .int 0, .ref q15, .ref q16, .ref q17, .ref q18, .ref q19, .int 0, .int 0]))] := hD
  have hK : va_K (dC, dI) vwCl [(k0, .boolean), (k1, .int), (k2, .char), (k3, (.array .long)), (k4, (.array .long)), (k5, .int)] s := hK
  refine W.widen (k := 0) (n := 0) (Nat.le_of_ble_eq_true rfl) (Nat.le_of_ble_eq_true rfl) ?_
  refine lv_if_eq (tgt := 59) hx hb dX13_add_54 (by decide) (fun _ => ?_) (fun h9 => absurd (show (0 : Int32) = (0 : Int32) by decide +kernel) h9)
  refine lv_aload_n hx hb dX13_add_59 rfl (lv_at hl 0 rfl) ?_
  refine va_get (D := (dC, dI)) (ci := 15) (v := .ref q1) (C := RX13) (T := TX13) (N := 27) hx hb hts (fun _ h => List.mem_cons_of_mem _ (List.mem_append_left _ (List.mem_append_right _ h))) hown hK hP 6 rfl rfl 0 (by decide) (hts (.fieldLink RX13 9 "SeekwellModel" "isThere" "[Z") (by decide +kernel)) (fun _ h9 => h9) rfl dX13_add_60 ?_
  refine lv_aload_n hx hb dX13_add_63 rfl (lv_at hl 0 rfl) ?_
  refine va_get (D := (dC, dI)) (ci := 15) (v := .int 0) (C := RX13) (T := TX13) (N := 27) hx hb hts (fun _ h => List.mem_cons_of_mem _ (List.mem_append_left _ (List.mem_append_right _ h))) hown hK hP 6 rfl rfl 6 (by decide) (hts (.fieldLink RX13 85 "SeekwellModel" "came" "I") (by decide +kernel)) (fun _ h9 => h9) rfl dX13_add_64 ?_
  refine lv_iconst (v := 1) hx hb dX13_add_67 (by decide +kernel) ?_
  refine va_zast (D := (dC, dI)) hx hb hK hP hD hS 0 0 rfl rfl (i := 0) (x := 1) (zin (by decide +kernel)) dX13_add_68 (fun H locs hP hD hS => ?_)
  have hP : va_P (dC, dI) vwCl [(q1, .inl (k0, 24, .inl (upd (fun _ => 0) (0 : Int32).toNatClampNeg (vp_nar .boolean 1)))), (q2, .inl (k1, 24, .inl (fun _ => 0))), (q4, .inl (k2, 24, .inl (fun _ => 0))), (q5, .inl (k3, 24, .inr (.inr (.inr (.inr (fun _ => none)))))), (q6, .inl (k4, 24, .inr (.inr (.inr (.inr (fun _ => none)))))), (q3, .inl (k5, 24, .inl (fun _ => 0))), (q0, .inr (15, [.ref q1, .ref q2, .ref q3, .ref q4, .ref q5, .ref q6, .int 0, .int 1, .ref q7, .int 0, .ref q8, .null, .ref q9, .null, .ref q10, .ref q11, .ref q12, .ref q13, .ref q14, .int 0, .ref q15, .ref q16, .ref q17, .ref q18, .ref q19, .int 0, .int 0]))] H := hP
  have hD : va_D A [(q1, .inl (k0, 24, .inl (upd (fun _ => 0) (0 : Int32).toNatClampNeg (vp_nar .boolean 1)))), (q2, .inl (k1, 24, .inl (fun _ => 0))), (q4, .inl (k2, 24, .inl (fun _ => 0))), (q5, .inl (k3, 24, .inr (.inr (.inr (.inr (fun _ => none)))))), (q6, .inl (k4, 24, .inr (.inr (.inr (.inr (fun _ => none)))))), (q3, .inl (k5, 24, .inl (fun _ => 0))), (q0, .inr (15, [.ref q1, .ref q2, .ref q3, .ref q4, .ref q5, .ref q6, .int 0, .int 1, .ref q7, .int 0, .ref q8, .null, .ref q9, .null, .ref q10, .ref q11, .ref q12, .ref q13, .ref q14, .int 0, .ref q15, .ref q16, .ref q17, .ref q18, .ref q19, .int 0, .int 0]))] := hD
  refine lv_aload_n hx hb dX13_add_69 rfl (lv_at hl 0 rfl) ?_
  refine va_get (D := (dC, dI)) (ci := 15) (v := .ref q2) (C := RX13) (T := TX13) (N := 27) hx hb hts (fun _ h => List.mem_cons_of_mem _ (List.mem_append_left _ (List.mem_append_right _ h))) hown hK hP 6 rfl rfl 1 (by decide) (hts (.fieldLink RX13 13 "SeekwellModel" "values" "[I") (by decide +kernel)) (fun _ h9 => h9) rfl dX13_add_70 ?_
  refine lv_aload_n hx hb dX13_add_73 rfl (lv_at hl 0 rfl) ?_
  refine va_get (D := (dC, dI)) (ci := 15) (v := .int 0) (C := RX13) (T := TX13) (N := 27) hx hb hts (fun _ h => List.mem_cons_of_mem _ (List.mem_append_left _ (List.mem_append_right _ h))) hown hK hP 6 rfl rfl 6 (by decide) (hts (.fieldLink RX13 85 "SeekwellModel" "came" "I") (by decide +kernel)) (fun _ h9 => h9) rfl dX13_add_74 ?_
  refine lv_iload_n hx hb dX13_add_77 rfl (lv_at hl 1 rfl) ?_
  refine va_iast (D := (dC, dI)) hx hb hK hP hD hS 1 1 rfl rfl (i := 0) (x := p1) (zin (by decide +kernel)) dX13_add_78 (fun H locs hP hD hS => ?_)
  have hP : va_P (dC, dI) vwCl [(q1, .inl (k0, 24, .inl (upd (fun _ => 0) (0 : Int32).toNatClampNeg (vp_nar .boolean 1)))), (q2, .inl (k1, 24, .inl (upd (fun _ => 0) (0 : Int32).toNatClampNeg p1))), (q4, .inl (k2, 24, .inl (fun _ => 0))), (q5, .inl (k3, 24, .inr (.inr (.inr (.inr (fun _ => none)))))), (q6, .inl (k4, 24, .inr (.inr (.inr (.inr (fun _ => none)))))), (q3, .inl (k5, 24, .inl (fun _ => 0))), (q0, .inr (15, [.ref q1, .ref q2, .ref q3, .ref q4, .ref q5, .ref q6, .int 0, .int 1, .ref q7, .int 0, .ref q8, .null, .ref q9, .null, .ref q10, .ref q11, .ref q12, .ref q13, .ref q14, .int 0, .ref q15, .ref q16, .ref q17, .ref q18, .ref q19, .int 0, .int 0]))] H := hP
  have hD : va_D A [(q1, .inl (k0, 24, .inl (upd (fun _ => 0) (0 : Int32).toNatClampNeg (vp_nar .boolean 1)))), (q2, .inl (k1, 24, .inl (upd (fun _ => 0) (0 : Int32).toNatClampNeg p1))), (q4, .inl (k2, 24, .inl (fun _ => 0))), (q5, .inl (k3, 24, .inr (.inr (.inr (.inr (fun _ => none)))))), (q6, .inl (k4, 24, .inr (.inr (.inr (.inr (fun _ => none)))))), (q3, .inl (k5, 24, .inl (fun _ => 0))), (q0, .inr (15, [.ref q1, .ref q2, .ref q3, .ref q4, .ref q5, .ref q6, .int 0, .int 1, .ref q7, .int 0, .ref q8, .null, .ref q9, .null, .ref q10, .ref q11, .ref q12, .ref q13, .ref q14, .int 0, .ref q15, .ref q16, .ref q17, .ref q18, .ref q19, .int 0, .int 0]))] := hD
  refine lv_aload_n hx hb dX13_add_79 rfl (lv_at hl 0 rfl) ?_
  refine va_get (D := (dC, dI)) (ci := 15) (v := .ref q4) (C := RX13) (T := TX13) (N := 27) hx hb hts (fun _ h => List.mem_cons_of_mem _ (List.mem_append_left _ (List.mem_append_right _ h))) hown hK hP 6 rfl rfl 3 (by decide) (hts (.fieldLink RX13 20 "SeekwellModel" "tags" "[C") (by decide +kernel)) (fun _ h9 => h9) rfl dX13_add_80 ?_
  refine lv_aload_n hx hb dX13_add_83 rfl (lv_at hl 0 rfl) ?_
  refine va_get (D := (dC, dI)) (ci := 15) (v := .int 0) (C := RX13) (T := TX13) (N := 27) hx hb hts (fun _ h => List.mem_cons_of_mem _ (List.mem_append_left _ (List.mem_append_right _ h))) hown hK hP 6 rfl rfl 6 (by decide) (hts (.fieldLink RX13 85 "SeekwellModel" "came" "I") (by decide +kernel)) (fun _ h9 => h9) rfl dX13_add_84 ?_
  refine lv_iload_n hx hb dX13_add_87 rfl (lv_at hl 2 rfl) ?_
  refine va_cast (D := (dC, dI)) hx hb hK hP hD hS 2 2 rfl rfl (i := 0) (x := p2) (zin (by decide +kernel)) dX13_add_88 (fun H locs hP hD hS => ?_)
  have hP : va_P (dC, dI) vwCl [(q1, .inl (k0, 24, .inl (upd (fun _ => 0) (0 : Int32).toNatClampNeg (vp_nar .boolean 1)))), (q2, .inl (k1, 24, .inl (upd (fun _ => 0) (0 : Int32).toNatClampNeg p1))), (q4, .inl (k2, 24, .inl (upd (fun _ => 0) (0 : Int32).toNatClampNeg (vp_nar .char p2)))), (q5, .inl (k3, 24, .inr (.inr (.inr (.inr (fun _ => none)))))), (q6, .inl (k4, 24, .inr (.inr (.inr (.inr (fun _ => none)))))), (q3, .inl (k5, 24, .inl (fun _ => 0))), (q0, .inr (15, [.ref q1, .ref q2, .ref q3, .ref q4, .ref q5, .ref q6, .int 0, .int 1, .ref q7, .int 0, .ref q8, .null, .ref q9, .null, .ref q10, .ref q11, .ref q12, .ref q13, .ref q14, .int 0, .ref q15, .ref q16, .ref q17, .ref q18, .ref q19, .int 0, .int 0]))] H := hP
  have hD : va_D A [(q1, .inl (k0, 24, .inl (upd (fun _ => 0) (0 : Int32).toNatClampNeg (vp_nar .boolean 1)))), (q2, .inl (k1, 24, .inl (upd (fun _ => 0) (0 : Int32).toNatClampNeg p1))), (q4, .inl (k2, 24, .inl (upd (fun _ => 0) (0 : Int32).toNatClampNeg (vp_nar .char p2)))), (q5, .inl (k3, 24, .inr (.inr (.inr (.inr (fun _ => none)))))), (q6, .inl (k4, 24, .inr (.inr (.inr (.inr (fun _ => none)))))), (q3, .inl (k5, 24, .inl (fun _ => 0))), (q0, .inr (15, [.ref q1, .ref q2, .ref q3, .ref q4, .ref q5, .ref q6, .int 0, .int 1, .ref q7, .int 0, .ref q8, .null, .ref q9, .null, .ref q10, .ref q11, .ref q12, .ref q13, .ref q14, .int 0, .ref q15, .ref q16, .ref q17, .ref q18, .ref q19, .int 0, .int 0]))] := hD
  refine lv_aload_n hx hb dX13_add_89 rfl (lv_at hl 0 rfl) ?_
  refine lv_aload_n hx hb dX13_add_90 rfl (lv_at hl 0 rfl) ?_
  refine va_get (D := (dC, dI)) (ci := 15) (v := .int 0) (C := RX13) (T := TX13) (N := 27) hx hb hts (fun _ h => List.mem_cons_of_mem _ (List.mem_append_left _ (List.mem_append_right _ h))) hown hK hP 6 rfl rfl 6 (by decide) (hts (.fieldLink RX13 85 "SeekwellModel" "came" "I") (by decide +kernel)) (fun _ h9 => h9) rfl dX13_add_91 ?_
  have hPc := hP.sub (ws' := [(q0, .inr (15, [.ref q1, .ref q2, .ref q3, .ref q4, .ref q5, .ref q6, .int 0, .int 1, .ref q7, .int 0, .ref q8, .null, .ref q9, .null, .ref q10, .ref q11, .ref q12, .ref q13, .ref q14, .int 0, .ref q15, .ref q16, .ref q17, .ref q18, .ref q19, .int 0, .int 0])), (q5, .inl (k3, 24, .inr (.inr (.inr (.inr (fun _ => none)))))), (q6, .inl (k4, 24, .inr (.inr (.inr (.inr (fun _ => none)))))), (q3, .inl (k5, 24, .inl (fun _ => 0)))]) [6, 3, 4, 5] rfl
  have hDc := hD.sub (ws' := [(q0, .inr (15, [.ref q1, .ref q2, .ref q3, .ref q4, .ref q5, .ref q6, .int 0, .int 1, .ref q7, .int 0, .ref q8, .null, .ref q9, .null, .ref q10, .ref q11, .ref q12, .ref q13, .ref q14, .int 0, .ref q15, .ref q16, .ref q17, .ref q18, .ref q19, .int 0, .int 0])), (q5, .inl (k3, 24, .inr (.inr (.inr (.inr (fun _ => none)))))), (q6, .inl (k4, 24, .inr (.inr (.inr (.inr (fun _ => none)))))), (q3, .inl (k5, 24, .inl (fun _ => 0)))]) [6, 3, 4, 5] (by decide) rfl
  have hKc := hK.sub (tys' := [(k3, (.array .long)), (k4, (.array .long)), (k5, .int)]) [3, 4, 5] rfl
  have hFc := va_free (wc := [(q0, .inr (15, [.ref q1, .ref q2, .ref q3, .ref q4, .ref q5, .ref q6, .int 0, .int 1, .ref q7, .int 0, .ref q8, .null, .ref q9, .null, .ref q10, .ref q11, .ref q12, .ref q13, .ref q14, .int 0, .ref q15, .ref q16, .ref q17, .ref q18, .ref q19, .int 0, .int 0])), (q5, .inl (k3, 24, .inr (.inr (.inr (.inr (fun _ => none)))))), (q6, .inl (k4, 24, .inr (.inr (.inr (.inr (fun _ => none)))))), (q3, .inl (k5, 24, .inl (fun _ => 0)))]) hD hS hA [6, 3, 4, 5] rfl
  refine va_callv (va_runV (As := [.int 0]) (rest := []) ⟨hx, hb, hml, hown, hts⟩ (c_X13_reads l dC dI q0 q1 q2 q3 q4 q5 q6 q7 q8 q9 q10 q11 q12 q13 q14 q15 q16 q17 q18 q19 k3 k4 k5 H.size  ) (cwV 1 hts gX13_add_X13_reads rfl rfl rfl (by decide +kernel) ⟨Nat.le_of_ble_eq_true rfl, Nat.le_of_ble_eq_true rfl⟩) ⟨zB_blind, va_recv hK hP (ci := 15) (q0 := 6) rfl rfl, (zPre hPc hDc hKc hS hFc hZ hN)⟩ rfl rfl hl.1 rfl (lv_room (Nat.le_of_ble_eq_true rfl)) dX13_add_94 ⟨Nat.le_of_ble_eq_true rfl, Nat.le_of_ble_eq_true rfl⟩) hS (fun q _ h => hFc q h) hFc (fun u t H1 locs ht hvm hw hB hz1 hk1 hS => ?_)
  obtain ⟨hP1, hK1, hD1⟩ := hB
  rw [ht] at hP1
  have hK1 := va_K.moved hvm.symm hK1
  obtain ⟨hP, hD⟩ := va_join (wr := []) (w1 := [(q0, .inr (15, [.ref q1, .ref q2, .ref q3, .ref q4, .ref q5, .ref q6, .int 0, .int 1, .ref q7, .int 0, .ref q8, .null, .ref q9, .null, .ref q10, .ref q11, .ref q12, .ref q13, .ref q14, .int 0, .ref q15, .ref q16, .ref q17, .ref q18, .ref q19, .int 0, .int 0]))]) hP hD [6, 3, 4, 5] [] rfl rfl (by decide) (by decide) hk1 hFc hP1 hD1
  have hK := (hK.sub (tys' := []) [] rfl).app hK1
  generalize H1 = H at hP hS ⊢
  have hP : va_P (dC, dI) vwCl [(q0, .inr (15, [.ref q1, .ref q2, .ref q3, .ref q4, .ref q5, .ref q6, .int 0, .int 1, .ref q7, .int 0, .ref q8, .null, .ref q9, .null, .ref q10, .ref q11, .ref q12, .ref q13, .ref q14, .int 0, .ref q15, .ref q16, .ref q17, .ref q18, .ref q19, .int 0, .int 0]))] H := hP
  have hD : va_D A [(q0, .inr (15, [.ref q1, .ref q2, .ref q3, .ref q4, .ref q5, .ref q6, .int 0, .int 1, .ref q7, .int 0, .ref q8, .null, .ref q9, .null, .ref q10, .ref q11, .ref q12, .ref q13, .ref q14, .int 0, .ref q15, .ref q16, .ref q17, .ref q18, .ref q19, .int 0, .int 0]))] := hD
  have hK : va_K (dC, dI) vwCl [] s := hK
  refine W.widen (k := 4) (n := 4012) (Nat.le_of_ble_eq_true rfl) (Nat.le_of_ble_eq_true rfl) ?_
  refine lv_aload_n hx hb dX13_add_97 rfl (lv_at hl 0 rfl) ?_
  refine lv_dup hx hb dX13_add_98 rfl ?_
  refine va_get (D := (dC, dI)) (ci := 15) (v := .int 0) (C := RX13) (T := TX13) (N := 27) hx hb hts (fun _ h => List.mem_cons_of_mem _ (List.mem_append_left _ (List.mem_append_right _ h))) hown hK hP 0 rfl rfl 6 (by decide) (hts (.fieldLink RX13 85 "SeekwellModel" "came" "I") (by decide +kernel)) (fun _ h9 => h9) rfl dX13_add_99 ?_
  refine lv_iconst (v := 1) hx hb dX13_add_102 (by decide +kernel) ?_
  refine lv_iadd hx hb dX13_add_103 ?_
  refine zt_i (v := 1) (by decide +kernel) ?_
  refine va_put (D := (dC, dI)) (ci := 15) (v := .int 1) (ty := .int) (C := RX13) (T := TX13) (N := 27) hx hb hts (fun _ h => List.mem_cons_of_mem _ (List.mem_append_left _ (List.mem_append_right _ h))) tyX13 tyX13_ok nmX13 hown hK hP hD hS 0 rfl rfl 6 (by decide) (hts (.fieldLink RX13 85 "SeekwellModel" "came" "I") (by decide +kernel)) (fun _ h9 => h9) rfl (by decide +kernel) rfl rfl (Nat.le_of_ble_eq_true rfl) dX13_add_104 (fun H locs hP hD hS => ?_)
  have hP : va_P (dC, dI) vwCl [(q0, .inr (15, [.ref q1, .ref q2, .ref q3, .ref q4, .ref q5, .ref q6, .int 1, .int 1, .ref q7, .int 0, .ref q8, .null, .ref q9, .null, .ref q10, .ref q11, .ref q12, .ref q13, .ref q14, .int 0, .ref q15, .ref q16, .ref q17, .ref q18, .ref q19, .int 0, .int 0]))] H := hP
  have hD : va_D A [(q0, .inr (15, [.ref q1, .ref q2, .ref q3, .ref q4, .ref q5, .ref q6, .int 1, .int 1, .ref q7, .int 0, .ref q8, .null, .ref q9, .null, .ref q10, .ref q11, .ref q12, .ref q13, .ref q14, .int 0, .ref q15, .ref q16, .ref q17, .ref q18, .ref q19, .int 0, .int 0]))] := hD
  refine lv_aload_n hx hb dX13_add_107 rfl (lv_at hl 0 rfl) ?_
  refine va_get (D := (dC, dI)) (ci := 15) (v := .int 1) (C := RX13) (T := TX13) (N := 27) hx hb hts (fun _ h => List.mem_cons_of_mem _ (List.mem_append_left _ (List.mem_append_right _ h))) hown hK hP 0 rfl rfl 6 (by decide) (hts (.fieldLink RX13 85 "SeekwellModel" "came" "I") (by decide +kernel)) (fun _ h9 => h9) rfl dX13_add_108 ?_
  refine lv_iconst (v := 1) hx hb dX13_add_111 (by decide +kernel) ?_
  refine lv_isub hx hb dX13_add_112 ?_
  refine zt_i (v := 0) (by decide +kernel) ?_
  have hP9 := hP.sub (ws' := [(q0, .inr (15, [.ref q1, .ref q2, .ref q3, .ref q4, .ref q5, .ref q6, .int 1, .int 1, .ref q7, .int 0, .ref q8, .null, .ref q9, .null, .ref q10, .ref q11, .ref q12, .ref q13, .ref q14, .int 0, .ref q15, .ref q16, .ref q17, .ref q18, .ref q19, .int 0, .int 0]))]) [0] rfl
  have hD9 := hD.sub (ws' := [(q0, .inr (15, [.ref q1, .ref q2, .ref q3, .ref q4, .ref q5, .ref q6, .int 1, .int 1, .ref q7, .int 0, .ref q8, .null, .ref q9, .null, .ref q10, .ref q11, .ref q12, .ref q13, .ref q14, .int 0, .ref q15, .ref q16, .ref q17, .ref q18, .ref q19, .int 0, .int 0]))]) [0] (by decide) rfl
  have hK9 := hK.sub (tys' := []) [] rfl
  exact W.iret (v := 0) hx hb hr (fun t ht hW => ⟨⟨0, (), rfl, rfl, ⟨by rw [ht]; exact hP9, va_K.moved hW.alike hK9, hD9⟩⟩, hS.F ht⟩) hS.2.2 dX13_add_113
set_option maxHeartbeats 4000000 in
set_option maxRecDepth 100000 in
theorem c_X13_thrown_3 (l : Launch) (dC : Nat → ClassId) (dI : Nat → Nat → Nat) (q0 q1 q2 q3 q4 q5 q6 q7 q8 q9 q10 q11 q12 q13 q14 q15 q16 q17 q18 q19 : Nat) (sz : Nat) : Met l yX13_thrown wsX13_thrown ({ frames := 0, cells := 0, slots := 0, locals := 0 }) (va_Pc [.ref q0] (zB (dC, dI) [] [(q0, .inr (15, [.ref q1, .ref q2, .ref q3, .ref q4, .ref q5, .ref q6, .int 1, .int 1, .ref q7, .int 0, .ref q8, .null, .ref q9, .null, .ref q10, .ref q11, .ref q12, .ref q13, .ref q14, .int 0, .ref q15, .ref q16, .ref q17, .ref q18, .ref q19, .int 0, .int 0]))] sz)) (va_Qi (fun (r : Int32) (_ : Unit) => 0 = r) (fun _ t => zE (dC, dI) [] [] (va_A [(q0, .inr (15, [.ref q1, .ref q2, .ref q3, .ref q4, .ref q5, .ref q6, .int 1, .int 1, .ref q7, .int 0, .ref q8, .null, .ref q9, .null, .ref q10, .ref q11, .ref q12, .ref q13, .ref q14, .int 0, .ref q15, .ref q16, .ref q17, .ref q18, .ref q19, .int 0, .int 0]))] sz) t) (va_A [(q0, .inr (15, [.ref q1, .ref q2, .ref q3, .ref q4, .ref q5, .ref q6, .int 1, .int 1, .ref q7, .int 0, .ref q8, .null, .ref q9, .null, .ref q10, .ref q11, .ref q12, .ref q13, .ref q14, .int 0, .ref q15, .ref q16, .ref q17, .ref q18, .ref q19, .int 0, .int 0]))] sz)) 0 0 (va_A [(q0, .inr (15, [.ref q1, .ref q2, .ref q3, .ref q4, .ref q5, .ref q6, .int 1, .int 1, .ref q7, .int 0, .ref q8, .null, .ref q9, .null, .ref q10, .ref q11, .ref q12, .ref q13, .ref q14, .int 0, .ref q15, .ref q16, .ref q17, .ref q18, .ref q19, .int 0, .int 0]))] sz) := by
  refine Met.ofW (cc := cX13_thrown) (maxL := 1) (ret := (some .int)) (by decide) rfl ?_
  intro p e s m args below meth c s₁ B hml hv
  obtain ⟨rfl, hsz, hP, hK, hD0, hZ, hN⟩ := hv
  have hx := B.exec
  have hb := B.bytes
  have hr := B.returns
  have hts := atoms_spec (ws := wsX13_thrown) B.pre
  have hown : s.vm.findClass RX13 = some m.cls := findClass_of_methodNamed B.named
  have hlocks := B.notSynchronized
  subst hsz
  have hD := hD0.self (sz := s.heap.size)
  generalize hAe : va_A [(q0, .inr (15, [.ref q1, .ref q2, .ref q3, .ref q4, .ref q5, .ref q6, .int 1, .int 1, .ref q7, .int 0, .ref q8, .null, .ref q9, .null, .ref q10, .ref q11, .ref q12, .ref q13, .ref q14, .int 0, .ref q15, .ref q16, .ref q17, .ref q18, .ref q19, .int 0, .int 0]))] s.heap.size = A at hD hZ ⊢
  have hA : ∀ q : Nat, s.heap.size ≤ q → A q := fun q h => by rw [← hAe]; exact Or.inr h
  have hS : va_S A s.heap s.heap [] := va_S.rf
  have hP : va_P (dC, dI) vwCl [(q0, .inr (15, [.ref q1, .ref q2, .ref q3, .ref q4, .ref q5, .ref q6, .int 1, .int 1, .ref q7, .int 0, .ref q8, .null, .ref q9, .null, .ref q10, .ref q11, .ref q12, .ref q13, .ref q14, .int 0, .ref q15, .ref q16, .ref q17, .ref q18, .ref q19, .int 0, .int 0]))] s.heap := hP
  have hl := lv_entry ([.ref q0]) (n := 1) (Nat.le_of_ble_eq_true rfl)
  rw [lg_entry_eq]
  generalize (lg_sl ([.ref q0]) ++ List.replicate (1 - (lg_sl ([.ref q0])).length) Slot.unset).toArray = ls at hl ⊢
  have hl : lv_has ls 1 [(0, .ref q0)] := hl
  refine lv_aload_n hx hb dX13_thrown_0 rfl (lv_at hl 0 rfl) ?_
  refine va_get (D := (dC, dI)) (ci := 15) (v := .int 0) (C := RX13) (T := TX13) (N := 27) hx hb hts (fun _ h => List.mem_cons_of_mem _ (List.mem_append_right _ h)) hown hK hP 0 rfl rfl 19 (by decide) (hts (.fieldLink RX13 82 "SeekwellModel" "thrown" "I") (by decide +kernel)) (fun _ h9 => h9) rfl dX13_thrown_1 ?_
  have hP9 := hP.sub (ws' := []) [] rfl
  have hD9 := hD.sub (ws' := []) [] (by decide) rfl
  have hK9 := hK.sub (tys' := []) [] rfl
  exact W.iret (v := 0) hx hb hr (fun t ht hW => ⟨⟨0, (), rfl, rfl, ⟨by rw [ht]; exact hP9, va_K.moved hW.alike hK9, hD9⟩⟩, hS.F ht⟩) hS.2.2 dX13_thrown_4
set_option maxHeartbeats 4000000 in
set_option maxRecDepth 100000 in
theorem c_X8_at (l : Launch) (dC : Nat → ClassId) (dI : Nat → Nat → Nat) (q0 : Nat) (sz : Nat) (p1 : Int32) (hc0 : p1 < 0) : Met l yX8_at wsX8_at ({ frames := 0, cells := 0, slots := 0, locals := 0 }) (va_Pc [.ref q0, .int p1] (zB (dC, dI) [] [] sz)) (va_Qq (fun (r : Option Nat) (_ : Unit) => none = r) (fun _ t => zE (dC, dI) [] [] (va_A [] sz) t) (va_A [] sz)) 0 0 (va_A [] sz) := by
  refine Met.ofW (cc := cX8_at) (maxL := 3) (ret := (some (.object "Seekwell$Text"))) (by decide) rfl ?_
  intro p e s m args below meth c s₁ B hml hv
  obtain ⟨rfl, hsz, hP, hK, hD0, hZ, hN⟩ := hv
  have hx := B.exec
  have hb := B.bytes
  have hr := B.returns
  have hts := atoms_spec (ws := wsX8_at) B.pre
  have hown : s.vm.findClass RX8 = some m.cls := findClass_of_methodNamed B.named
  have hlocks := B.notSynchronized
  subst hsz
  have hD := hD0.self (sz := s.heap.size)
  generalize hAe : va_A [] s.heap.size = A at hD hZ ⊢
  have hA : ∀ q : Nat, s.heap.size ≤ q → A q := fun q h => by rw [← hAe]; exact Or.inr h
  have hS : va_S A s.heap s.heap [] := va_S.rf
  have hP : va_P (dC, dI) vwCl [] s.heap := hP
  have hl := lv_entry ([.ref q0, .int p1]) (n := 3) (Nat.le_of_ble_eq_true rfl)
  rw [lg_entry_eq]
  generalize (lg_sl ([.ref q0, .int p1]) ++ List.replicate (3 - (lg_sl ([.ref q0, .int p1])).length) Slot.unset).toArray = ls at hl ⊢
  have hl : lv_has ls 3 [(0, .ref q0), (1, .int p1)] := hl
  refine lv_iload_n hx hb dX8_at_0 rfl (lv_at hl 1 rfl) ?_
  refine lv_if_lt (tgt := 21) hx hb dX8_at_1 (by decide) (fun _ => ?_) (fun h9 => absurd hc0 h9)
  refine lv_null hx hb dX8_at_21 ?_
  have hP9 := hP.sub (ws' := []) [] rfl
  have hD9 := hD.sub (ws' := []) [] (by decide) rfl
  have hK9 := hK.sub (tys' := []) [] rfl
  exact W.aret (v := .null) hx hb hr (Or.inl ⟨_, rfl⟩) (Or.inl rfl) (fun t ht hW => ⟨⟨none, (), rfl, rfl, ⟨by rw [ht]; exact hP9, va_K.moved hW.alike hK9, hD9⟩⟩, hS.F ht⟩) hS.2.2 dX8_at_22
set_option maxHeartbeats 4000000 in
set_option maxRecDepth 100000 in
theorem c_X11_textOf (l : Launch) (hfl : l.stackTraces = false) (dC : Nat → ClassId) (dI : Nat → Nat → Nat) (q0 q1 q2 q3 q4 q5 q6 q7 q8 q9 q10 q11 q12 q13 q14 : Nat) (sz : Nat) (p1 : Int32) (hc0 : p1 < 0) : vx_Met l yX11_textOf wsX11_textOf ({ frames := 6, cells := 1, slots := 6, locals := 90 }) (va_Pc [.ref q0, .int p1] (zB (dC, dI) [] [(q0, .inr (13, [.ref q1, .ref q2, .ref q3, .ref q4, .ref q5, .ref q6, .ref q7, .ref q8, .int 0, .ref q9, .ref q10, .ref q11, .ref q12, .ref q13])), (q2, .inr (11, [.ref q14, .int 0, .int 1]))] sz)) (va_Qq (fun (_ : Option Nat) (_ : Unit) => False) (fun _ _ => True) (va_A [(q0, .inr (13, [.ref q1, .ref q2, .ref q3, .ref q4, .ref q5, .ref q6, .ref q7, .ref q8, .int 0, .ref q9, .ref q10, .ref q11, .ref q12, .ref q13])), (q2, .inr (11, [.ref q14, .int 0, .int 1]))] sz)) (vx_X (fun (_ : Unit) => True) (fun E _ _ => "java/util/NoSuchElementException" = E) (va_A [(q0, .inr (13, [.ref q1, .ref q2, .ref q3, .ref q4, .ref q5, .ref q6, .ref q7, .ref q8, .int 0, .ref q9, .ref q10, .ref q11, .ref q12, .ref q13])), (q2, .inr (11, [.ref q14, .int 0, .int 1]))] sz)) 1 6 (va_A [(q0, .inr (13, [.ref q1, .ref q2, .ref q3, .ref q4, .ref q5, .ref q6, .ref q7, .ref q8, .int 0, .ref q9, .ref q10, .ref q11, .ref q12, .ref q13])), (q2, .inr (11, [.ref q14, .int 0, .int 1]))] sz) := by
  refine vx_ofW (cc := cX11_textOf) (maxL := 3) (ret := (some (.object "Seekwell$Text"))) (by decide) rfl ?_
  intro p e s m args below meth c s₁ B hml hnoex hv
  obtain ⟨rfl, hsz, hP, hK, hD0, hZ, hN⟩ := hv
  have hx := B.exec
  have hb := B.bytes
  have hr := B.returns
  have hts := atoms_spec (ws := wsX11_textOf) B.pre
  have hown : s.vm.findClass RX11 = some m.cls := findClass_of_methodNamed B.named
  have hlocks := B.notSynchronized
  subst hsz
  have hD := hD0.self (sz := s.heap.size)
  generalize hAe : va_A [(q0, .inr (13, [.ref q1, .ref q2, .ref q3, .ref q4, .ref q5, .ref q6, .ref q7, .ref q8, .int 0, .ref q9, .ref q10, .ref q11, .ref q12, .ref q13])), (q2, .inr (11, [.ref q14, .int 0, .int 1]))] s.heap.size = A at hD hZ ⊢
  have hA : ∀ q : Nat, s.heap.size ≤ q → A q := fun q h => by rw [← hAe]; exact Or.inr h
  have hS : va_S A s.heap s.heap [] := va_S.rf
  have hP : va_P (dC, dI) vwCl [(q0, .inr (13, [.ref q1, .ref q2, .ref q3, .ref q4, .ref q5, .ref q6, .ref q7, .ref q8, .int 0, .ref q9, .ref q10, .ref q11, .ref q12, .ref q13])), (q2, .inr (11, [.ref q14, .int 0, .int 1]))] s.heap := hP
  have hl := lv_entry ([.ref q0, .int p1]) (n := 3) (Nat.le_of_ble_eq_true rfl)
  rw [lg_entry_eq]
  generalize (lg_sl ([.ref q0, .int p1]) ++ List.replicate (3 - (lg_sl ([.ref q0, .int p1])).length) Slot.unset).toArray = ls at hl ⊢
  have hl : lv_has ls 3 [(0, .ref q0), (1, .int p1)] := hl
  refine lv_aload_n hx hb dX11_textOf_0 rfl (lv_at hl 0 rfl) ?_
  refine va_get (D := (dC, dI)) (ci := 13) (v := .ref q2) (C := RX11) (T := TX11) (N := 14) hx hb hts (fun _ h => List.mem_cons_of_mem _ (List.mem_append_left _ (List.mem_append_left _ (List.mem_append_left _ (List.mem_append_right _ h))))) hown hK hP 0 rfl rfl 1 (by decide) (hts (.fieldLink RX11 19 "Seekwell" "shelf" "LSeekwell$Shelf;") (by decide +kernel)) (fun _ h9 => h9) rfl dX11_textOf_1 ?_
  refine lv_iload_n hx hb dX11_textOf_4 rfl (lv_at hl 1 rfl) ?_
  have hPc := hP.sub (ws' := []) [] rfl
  have hDc := hD.sub (ws' := []) [] (by decide) rfl
  have hKc := hK.sub (tys' := []) [] rfl
  have hFc := va_free (wc := []) hD hS hA [] rfl
  refine va_callq (va_runV (As := [.int p1]) (rest := []) ⟨hx, hb, hml, hown, hts⟩ (c_X8_at l dC dI q2 s.heap.size p1 hc0) (cwV 1 hts gX11_textOf_X8_at rfl rfl rfl (by decide +kernel) ⟨Nat.le_of_ble_eq_true rfl, Nat.le_of_ble_eq_true rfl⟩) ⟨zB_blind, va_recv hK hP (ci := 11) (q0 := 1) rfl rfl, (zPre hPc hDc hKc hS hFc hZ hN)⟩ rfl rfl hl.1 rfl (lv_room (Nat.le_of_ble_eq_true rfl)) dX11_textOf_5 ⟨Nat.le_of_ble_eq_true rfl, Nat.le_of_ble_eq_true rfl⟩) hS (fun q _ h => hFc q h) hFc (fun r u t H1 locs ht hvm hw hB hz1 hk1 hS => ?_)
  subst hw
  obtain ⟨hP1, hK1, hD1⟩ := hB
  rw [ht] at hP1
  have hK1 := va_K.moved hvm.symm hK1
  obtain ⟨hP, hD⟩ := va_join (wr := []) (w1 := []) hP hD [] [] rfl rfl (by decide) (by decide) hk1 hFc hP1 hD1
  have hK := (hK.sub (tys' := []) [] rfl).app hK1
  generalize H1 = H at hP hS ⊢
  have hP : va_P (dC, dI) vwCl [] H := hP
  have hD : va_D A [] := hD
  have hK : va_K (dC, dI) vwCl [] s := hK
  refine W.widen (k := 0) (n := 0) (Nat.le_of_ble_eq_true rfl) (Nat.le_of_ble_eq_true rfl) ?_
  refine zt_v (w := .null) rfl ?_
  refine lv_astore_nN (lv' := [(2, .null), (0, .ref q0), (1, .int p1)]) hx hb dX11_textOf_8 rfl hl (by decide) rfl (fun ls hl => ?_)
  refine lv_aload_nN hx hb dX11_textOf_9 rfl (lv_at hl 0 rfl) ?_
  refine lv_ifnonnullN hx hb dX11_textOf_10 ?_
  obtain ⟨sa, hstr⟩ := hN.2.2.2.2.1 (RX11, 329, "there is no such text") (by decide +kernel)
  refine z_throwSXW (ix := 13) (rx := prog_42_method_4_code) (A := A) (cls := "java/util/NoSuchElementException") (names := ["java/lang/RuntimeException", "java/lang/Exception"]) (own := RX11) (text := "there is no such text") hx hb hfl (by decide +kernel) (by decide +kernel) (by decide +kernel) (by decide +kernel) hown (by decide +kernel) (by decide +kernel) (hts (.classLink RX11 195 "java/util/NoSuchElementException") (by decide +kernel)) (hts (.initialized "java/util/NoSuchElementException") (by decide +kernel)) hstr (vx_hat (B := [Cond.castable "java/util/NoSuchElementException" "java/util/NoSuchElementException", Cond.declares (Bundle.initS "java/lang/RuntimeException"), Cond.declares (Bundle.initS "java/lang/Exception"), Cond.declares (Bundle.initS Bundle.tN)]) (fun w h => hts w (List.mem_cons_of_mem _ (List.mem_append_right _ h))) (by decide +kernel) (zthr hN (by decide +kernel))) (by decide +kernel) hZ.1 hZ.2 hS (hl.1.trans hml.symm) dX11_textOf_13 dX11_textOf_16 dX11_textOf_17 dX11_textOf_20 dX11_textOf_23 (fun x h => (hnoex x h).elim) (Nat.lt_of_succ_le (Nat.le_of_ble_eq_true rfl)) (Nat.le_of_ble_eq_true rfl) (Nat.le_of_ble_eq_true rfl) (Nat.le_of_ble_eq_true rfl) hlocks ?_ hS.2.2 (Nat.le_refl _) (Nat.le_refl _)
  exact fun t hvm hz hk => ⟨(), trivial, rfl, zF hS hz hk⟩
set_option maxHeartbeats 4000000 in
set_option maxRecDepth 100000 in
theorem c_X11_revise (l : Launch) (hfl : l.stackTraces = false) (dC : Nat → ClassId) (dI : Nat → Nat → Nat) (q0 q1 q2 q3 q4 q5 q6 q7 q8 q9 q10 q11 q12 q13 q14 : Nat) (sz : Nat) (p1 : Int32) (hc0 : p1 < 0) : vx_Met l yX11_revise wsX11_revise ({ frames := 7, cells := 1, slots := 6, locals := 112 }) (va_Pc [.ref q0, .int p1] (zB (dC, dI) [] [(q0, .inr (13, [.ref q1, .ref q2, .ref q3, .ref q4, .ref q5, .ref q6, .ref q7, .ref q8, .int 0, .ref q9, .ref q10, .ref q11, .ref q12, .ref q13])), (q2, .inr (11, [.ref q14, .int 0, .int 1]))] sz)) (va_Qi (fun (_ : Int32) (_ : Unit) => False) (fun _ _ => True) (va_A [(q0, .inr (13, [.ref q1, .ref q2, .ref q3, .ref q4, .ref q5, .ref q6, .ref q7, .ref q8, .int 0, .ref q9, .ref q10, .ref q11, .ref q12, .ref q13])), (q2, .inr (11, [.ref q14, .int 0, .int 1]))] sz)) (vx_X (fun (_ : Unit) => True) (fun E _ _ => "java/util/NoSuchElementException" = E) (va_A [(q0, .inr (13, [.ref q1, .ref q2, .ref q3, .ref q4, .ref q5, .ref q6, .ref q7, .ref q8, .int 0, .ref q9, .ref q10, .ref q11, .ref q12, .ref q13])), (q2, .inr (11, [.ref q14, .int 0, .int 1]))] sz)) 1 6 (va_A [(q0, .inr (13, [.ref q1, .ref q2, .ref q3, .ref q4, .ref q5, .ref q6, .ref q7, .ref q8, .int 0, .ref q9, .ref q10, .ref q11, .ref q12, .ref q13])), (q2, .inr (11, [.ref q14, .int 0, .int 1]))] sz) := by
  refine vx_ofW (cc := cX11_revise) (maxL := 3) (ret := (some .int)) (by decide) rfl ?_
  intro p e s m args below meth c s₁ B hml hnoex hv
  obtain ⟨rfl, hsz, hP, hK, hD0, hZ, hN⟩ := hv
  have hx := B.exec
  have hb := B.bytes
  have hr := B.returns
  have hts := atoms_spec (ws := wsX11_revise) B.pre
  have hown : s.vm.findClass RX11 = some m.cls := findClass_of_methodNamed B.named
  have hlocks := B.notSynchronized
  subst hsz
  have hD := hD0.self (sz := s.heap.size)
  generalize hAe : va_A [(q0, .inr (13, [.ref q1, .ref q2, .ref q3, .ref q4, .ref q5, .ref q6, .ref q7, .ref q8, .int 0, .ref q9, .ref q10, .ref q11, .ref q12, .ref q13])), (q2, .inr (11, [.ref q14, .int 0, .int 1]))] s.heap.size = A at hD hZ ⊢
  have hA : ∀ q : Nat, s.heap.size ≤ q → A q := fun q h => by rw [← hAe]; exact Or.inr h
  have hS : va_S A s.heap s.heap [] := va_S.rf
  have hP : va_P (dC, dI) vwCl [(q0, .inr (13, [.ref q1, .ref q2, .ref q3, .ref q4, .ref q5, .ref q6, .ref q7, .ref q8, .int 0, .ref q9, .ref q10, .ref q11, .ref q12, .ref q13])), (q2, .inr (11, [.ref q14, .int 0, .int 1]))] s.heap := hP
  have hl := lv_entry ([.ref q0, .int p1]) (n := 3) (Nat.le_of_ble_eq_true rfl)
  rw [lg_entry_eq]
  generalize (lg_sl ([.ref q0, .int p1]) ++ List.replicate (3 - (lg_sl ([.ref q0, .int p1])).length) Slot.unset).toArray = ls at hl ⊢
  have hl : lv_has ls 3 [(0, .ref q0), (1, .int p1)] := hl
  refine lv_aload_n hx hb dX11_revise_0 rfl (lv_at hl 0 rfl) ?_
  refine lv_iload_n hx hb dX11_revise_1 rfl (lv_at hl 1 rfl) ?_
  have hPc := hP.sub (ws' := [(q0, .inr (13, [.ref q1, .ref q2, .ref q3, .ref q4, .ref q5, .ref q6, .ref q7, .ref q8, .int 0, .ref q9, .ref q10, .ref q11, .ref q12, .ref q13])), (q2, .inr (11, [.ref q14, .int 0, .int 1]))]) [0, 1] rfl
  have hDc := hD.sub (ws' := [(q0, .inr (13, [.ref q1, .ref q2, .ref q3, .ref q4, .ref q5, .ref q6, .ref q7, .ref q8, .int 0, .ref q9, .ref q10, .ref q11, .ref q12, .ref q13])), (q2, .inr (11, [.ref q14, .int 0, .int 1]))]) [0, 1] (by decide) rfl
  have hKc := hK.sub (tys' := []) [] rfl
  have hFc := va_free (wc := [(q0, .inr (13, [.ref q1, .ref q2, .ref q3, .ref q4, .ref q5, .ref q6, .ref q7, .ref q8, .int 0, .ref q9, .ref q10, .ref q11, .ref q12, .ref q13])), (q2, .inr (11, [.ref q14, .int 0, .int 1]))]) hD hS hA [0, 1] rfl
  refine vx_callq (vx_runV (As := [.int p1]) (rest := []) ⟨hx, hb, hml, hown, hts⟩ (c_X11_textOf l hfl dC dI q0 q1 q2 q3 q4 q5 q6 q7 q8 q9 q10 q11 q12 q13 q14 s.heap.size p1 hc0) (cwV 1 hts gX11_revise_X11_textOf rfl rfl rfl (by decide +kernel) ⟨Nat.le_of_ble_eq_true rfl, Nat.le_of_ble_eq_true rfl⟩) ⟨zB_blind, va_recv hK hP (ci := 13) (q0 := 0) rfl rfl, (zPre hPc hDc hKc hS hFc hZ hN)⟩ rfl rfl hl.1 rfl (lv_room (Nat.le_of_ble_eq_true rfl)) dX11_revise_2 ⟨Nat.le_of_ble_eq_true rfl, Nat.le_of_ble_eq_true rfl⟩) hS (fun q _ h => hFc q h) hFc (fun q _ h => hFc q h) (fun E ce qx u t H1 locs1 ht hvm hpx hBX hz1 hk1 hS hq9 hv9 hcl9 => ?_) (fun r u t H1 locs1 _ _ hw => hw.elim)
  subst hBX
  exact vx_out (fun x h => ((hnoex x h).elim)) hlocks hq9 hv9 hcl9 (fun t h1 _ => ⟨(), trivial, rfl, hS.F h1⟩) hS.2.2 (Nat.le_refl _) (Nat.le_refl _)
set_option maxHeartbeats 4000000 in
set_option maxRecDepth 100000 in
theorem c_L_revise (l : Launch) (hfl : l.stackTraces = false) (dC : Nat → ClassId) (dI : Nat → Nat → Nat) (q0 q1 q2 q3 q4 q5 q6 q7 q8 q9 q10 q11 q12 q13 q14 q15 : Nat) (sz : Nat) (p1 : Int32) (hc0 : p1 < 0) : Met l yL_revise wsL_revise ({ frames := 8, cells := 1, slots := 6, locals := 134 }) (va_Pc [.ref q0, .int p1, .ref q1] (zB (dC, dI) [] [(q0, .inr (13, [.ref q2, .ref q3, .ref q4, .ref q5, .ref q6, .ref q7, .ref q8, .ref q9, .int 0, .ref q10, .ref q11, .ref q12, .ref q13, .ref q14])), (q3, .inr (11, [.ref q15, .int 0, .int 1]))] sz)) (va_Qi (fun (r : Int32) (_ : Unit) => 1 = r) (fun _ t => zE (dC, dI) [] [] (va_A [(q0, .inr (13, [.ref q2, .ref q3, .ref q4, .ref q5, .ref q6, .ref q7, .ref q8, .ref q9, .int 0, .ref q10, .ref q11, .ref q12, .ref q13, .ref q14])), (q3, .inr (11, [.ref q15, .int 0, .int 1]))] sz) t) (va_A [(q0, .inr (13, [.ref q2, .ref q3, .ref q4, .ref q5, .ref q6, .ref q7, .ref q8, .ref q9, .int 0, .ref q10, .ref q11, .ref q12, .ref q13, .ref q14])), (q3, .inr (11, [.ref q15, .int 0, .int 1]))] sz)) 1 6 (va_A [(q0, .inr (13, [.ref q2, .ref q3, .ref q4, .ref q5, .ref q6, .ref q7, .ref q8, .ref q9, .int 0, .ref q10, .ref q11, .ref q12, .ref q13, .ref q14])), (q3, .inr (11, [.ref q15, .int 0, .int 1]))] sz) := by
  refine va_MetW (cc := cL_revise) (maxL := 4) (ret := (some .int)) (by decide) rfl ?_
  intro p e s m args below meth c s₁ B hml hv
  obtain ⟨rfl, hsz, hP, hK, hD0, hZ, hN⟩ := hv
  have hx := B.exec
  have hb := B.bytes
  have hr := B.returns
  have hts := atoms_spec (ws := wsL_revise) B.pre
  have hown : s.vm.findClass RL = some m.cls := findClass_of_methodNamed B.named
  have hlocks := B.notSynchronized
  have htab := vx_table (x := yL_revise) B (hts (.codeWith yL_revise cL_revise 4 (some .int) [(0, 9, 12, 31)]) List.mem_cons_self)
  subst hsz
  have hD := hD0.self (sz := s.heap.size)
  generalize hAe : va_A [(q0, .inr (13, [.ref q2, .ref q3, .ref q4, .ref q5, .ref q6, .ref q7, .ref q8, .ref q9, .int 0, .ref q10, .ref q11, .ref q12, .ref q13, .ref q14])), (q3, .inr (11, [.ref q15, .int 0, .int 1]))] s.heap.size = A at hD hZ ⊢
  have hA : ∀ q : Nat, s.heap.size ≤ q → A q := fun q h => by rw [← hAe]; exact Or.inr h
  have hS : va_S A s.heap s.heap [] := va_S.rf
  have hP : va_P (dC, dI) vwCl [(q0, .inr (13, [.ref q2, .ref q3, .ref q4, .ref q5, .ref q6, .ref q7, .ref q8, .ref q9, .int 0, .ref q10, .ref q11, .ref q12, .ref q13, .ref q14])), (q3, .inr (11, [.ref q15, .int 0, .int 1]))] s.heap := hP
  have hl := lv_entry ([.ref q0, .int p1, .ref q1]) (n := 4) (Nat.le_of_ble_eq_true rfl)
  rw [lg_entry_eq]
  generalize (lg_sl ([.ref q0, .int p1, .ref q1]) ++ List.replicate (4 - (lg_sl ([.ref q0, .int p1, .ref q1])).length) Slot.unset).toArray = ls at hl ⊢
  have hl : lv_has ls 4 [(0, .ref q0), (1, .int p1), (2, .ref q1)] := hl
  refine lv_aload_n hx hb dL_revise_0 rfl (lv_at hl 2 rfl) ?_
  refine lv_iconst (v := 0) hx hb dL_revise_1 (by decide +kernel) ?_
  refine lv_aload_n hx hb dL_revise_2 rfl (lv_at hl 0 rfl) ?_
  refine lv_iload_n hx hb dL_revise_3 rfl (lv_at hl 1 rfl) ?_
  have hPc := hP.sub (ws' := [(q0, .inr (13, [.ref q2, .ref q3, .ref q4, .ref q5, .ref q6, .ref q7, .ref q8, .ref q9, .int 0, .ref q10, .ref q11, .ref q12, .ref q13, .ref q14])), (q3, .inr (11, [.ref q15, .int 0, .int 1]))]) [0, 1] rfl
  have hDc := hD.sub (ws' := [(q0, .inr (13, [.ref q2, .ref q3, .ref q4, .ref q5, .ref q6, .ref q7, .ref q8, .ref q9, .int 0, .ref q10, .ref q11, .ref q12, .ref q13, .ref q14])), (q3, .inr (11, [.ref q15, .int 0, .int 1]))]) [0, 1] (by decide) rfl
  have hKc := hK.sub (tys' := []) [] rfl
  have hFc := va_free (wc := [(q0, .inr (13, [.ref q2, .ref q3, .ref q4, .ref q5, .ref q6, .ref q7, .ref q8, .ref q9, .int 0, .ref q10, .ref q11, .ref q12, .ref q13, .ref q14])), (q3, .inr (11, [.ref q15, .int 0, .int 1]))]) hD hS hA [0, 1] rfl
  refine vx_calli (vx_runV (As := [.int p1]) (rest := [.int 0, .ref q1]) ⟨hx, hb, hml, hown, hts⟩ (c_X11_revise l hfl dC dI q0 q2 q3 q4 q5 q6 q7 q8 q9 q10 q11 q12 q13 q14 q15 s.heap.size p1 hc0) (cwV 1 hts gL_revise_X11_revise rfl rfl rfl (by decide +kernel) ⟨Nat.le_of_ble_eq_true rfl, Nat.le_of_ble_eq_true rfl⟩) ⟨zB_blind, va_recv hK hP (ci := 13) (q0 := 0) rfl rfl, (zPre hPc hDc hKc hS hFc hZ hN)⟩ rfl rfl hl.1 rfl (lv_room (Nat.le_of_ble_eq_true rfl)) dL_revise_4 ⟨Nat.le_of_ble_eq_true rfl, Nat.le_of_ble_eq_true rfl⟩) hS (fun q _ h => hFc q h) hFc (fun q _ h => hFc q h) (fun E ce qx u t H1 locs1 ht hvm hpx hBX hz1 hk1 hS hq9 hv9 hcl9 => ?_) (fun r u t H1 locs1 _ _ hw => hw.elim)
  subst hBX
  refine vx_catch (name := "java/util/NoSuchElementException") hown [] ⟨0, 9, 12, 31⟩ [] (by rw [htab]; rfl) (fun z h => absurd h List.not_mem_nil) rfl (by decide) (hts (.classLink RL 31 "java/util/NoSuchElementException") (by decide +kernel)) (va_Nw.use rfl (hN.2.1 "java/util/NoSuchElementException" (by decide +kernel))) hq9 hv9 hcl9 ?_
  generalize H1 = H at hS ⊢
  refine W.widen (k := 1) (n := 6) (Nat.le_of_ble_eq_true rfl) (Nat.le_of_ble_eq_true rfl) ?_
  have hP : va_P (dC, dI) vwCl [] H := zP_nil
  have hD : va_D A [] := zD_nil
  have hK := hK.sub (tys' := []) [] rfl
  refine lv_astore_n (lv' := [(3, .ref qx), (0, .ref q0), (1, .int p1), (2, .ref q1)]) hx hb dL_revise_12 rfl hl (by decide) rfl (fun ls hl => ?_)
  refine lv_iconst (v := 1) hx hb dL_revise_13 (by decide +kernel) ?_
  have hP9 := hP.sub (ws' := []) [] rfl
  have hD9 := hD.sub (ws' := []) [] (by decide) rfl
  have hK9 := hK.sub (tys' := []) [] rfl
  exact W.iret (v := 1) hx hb hr (fun t ht hW => ⟨⟨1, (), rfl, rfl, ⟨by rw [ht]; exact hP9, va_K.moved hW.alike hK9, hD9⟩⟩, hS.F ht⟩) hS.2.2 dL_revise_14
set_option maxHeartbeats 4000000 in
set_option maxRecDepth 100000 in
theorem c_X13_isText (l : Launch) (dC : Nat → ClassId) (dI : Nat → Nat → Nat) (q0 q1 q2 q3 q4 q5 q6 q7 q8 q9 q10 q11 q12 q13 q14 q15 q16 q17 q18 q19 : Nat) (sz : Nat) (p1 : Int32) (hc0 : p1 < 0) : Met l yX13_isText wsX13_isText ({ frames := 1, cells := 0, slots := 0, locals := 22 }) (va_Pc [.ref q0, .int p1] (zB (dC, dI) [] [(q0, .inr (15, [.ref q1, .ref q2, .ref q3, .ref q4, .ref q5, .ref q6, .int 0, .int 1, .ref q7, .int 0, .ref q8, .null, .ref q9, .null, .ref q10, .ref q11, .ref q12, .ref q13, .ref q14, .int 0, .ref q15, .ref q16, .ref q17, .ref q18, .ref q19, .int 0, .int 0]))] sz)) (va_Qi (fun (r : Int32) (_ : Unit) => 0 = r) (fun _ t => zE (dC, dI) [] [(q0, .inr (15, [.ref q1, .ref q2, .ref q3, .ref q4, .ref q5, .ref q6, .int 0, .int 1, .ref q7, .int 0, .ref q8, .null, .ref q9, .null, .ref q10, .ref q11, .ref q12, .ref q13, .ref q14, .int 0, .ref q15, .ref q16, .ref q17, .ref q18, .ref q19, .int 0, .int 0]))] (va_A [(q0, .inr (15, [.ref q1, .ref q2, .ref q3, .ref q4, .ref q5, .ref q6, .int 0, .int 1, .ref q7, .int 0, .ref q8, .null, .ref q9, .null, .ref q10, .ref q11, .ref q12, .ref q13, .ref q14, .int 0, .ref q15, .ref q16, .ref q17, .ref q18, .ref q19, .int 0, .int 0]))] sz) t) (va_A [(q0, .inr (15, [.ref q1, .ref q2, .ref q3, .ref q4, .ref q5, .ref q6, .int 0, .int 1, .ref q7, .int 0, .ref q8, .null, .ref q9, .null, .ref q10, .ref q11, .ref q12, .ref q13, .ref q14, .int 0, .ref q15, .ref q16, .ref q17, .ref q18, .ref q19, .int 0, .int 0]))] sz)) 0 0 (va_A [(q0, .inr (15, [.ref q1, .ref q2, .ref q3, .ref q4, .ref q5, .ref q6, .int 0, .int 1, .ref q7, .int 0, .ref q8, .null, .ref q9, .null, .ref q10, .ref q11, .ref q12, .ref q13, .ref q14, .int 0, .ref q15, .ref q16, .ref q17, .ref q18, .ref q19, .int 0, .int 0]))] sz) := by
  refine Met.ofW (cc := cX13_isText) (maxL := 2) (ret := (some .boolean)) (by decide) rfl ?_
  intro p e s m args below meth c s₁ B hml hv
  obtain ⟨rfl, hsz, hP, hK, hD0, hZ, hN⟩ := hv
  have hx := B.exec
  have hb := B.bytes
  have hr := B.returns
  have hts := atoms_spec (ws := wsX13_isText) B.pre
  have hown : s.vm.findClass RX13 = some m.cls := findClass_of_methodNamed B.named
  have hlocks := B.notSynchronized
  subst hsz
  have hD := hD0.self (sz := s.heap.size)
  generalize hAe : va_A [(q0, .inr (15, [.ref q1, .ref q2, .ref q3, .ref q4, .ref q5, .ref q6, .int 0, .int 1, .ref q7, .int 0, .ref q8, .null, .ref q9, .null, .ref q10, .ref q11, .ref q12, .ref q13, .ref q14, .int 0, .ref q15, .ref q16, .ref q17, .ref q18, .ref q19, .int 0, .int 0]))] s.heap.size = A at hD hZ ⊢
  have hA : ∀ q : Nat, s.heap.size ≤ q → A q := fun q h => by rw [← hAe]; exact Or.inr h
  have hS : va_S A s.heap s.heap [] := va_S.rf
  have hP : va_P (dC, dI) vwCl [(q0, .inr (15, [.ref q1, .ref q2, .ref q3, .ref q4, .ref q5, .ref q6, .int 0, .int 1, .ref q7, .int 0, .ref q8, .null, .ref q9, .null, .ref q10, .ref q11, .ref q12, .ref q13, .ref q14, .int 0, .ref q15, .ref q16, .ref q17, .ref q18, .ref q19, .int 0, .int 0]))] s.heap := hP
  have hl := lv_entry ([.ref q0, .int p1]) (n := 2) (Nat.le_of_ble_eq_true rfl)
  rw [lg_entry_eq]
  generalize (lg_sl ([.ref q0, .int p1]) ++ List.replicate (2 - (lg_sl ([.ref q0, .int p1])).length) Slot.unset).toArray = ls at hl ⊢
  have hl : lv_has ls 2 [(0, .ref q0), (1, .int p1)] := hl
  refine lv_iload_n hx hb dX13_isText_0 rfl (lv_at hl 1 rfl) ?_
  refine lv_iconst (v := 0) hx hb dX13_isText_1 (by decide +kernel) ?_
  refine lv_aload_n hx hb dX13_isText_2 rfl (lv_at hl 0 rfl) ?_
  refine va_get (D := (dC, dI)) (ci := 15) (v := .int 0) (C := RX13) (T := TX13) (N := 27) hx hb hts (fun _ h => List.mem_cons_of_mem _ (List.mem_append_left _ (List.mem_append_right _ h))) hown hK hP 0 rfl rfl 6 (by decide) (hts (.fieldLink RX13 85 "SeekwellModel" "came" "I") (by decide +kernel)) (fun _ h9 => h9) rfl dX13_isText_3 ?_
  refine lv_iconst (v := 1) hx hb dX13_isText_6 (by decide +kernel) ?_
  refine lv_isub hx hb dX13_isText_7 ?_
  refine zt_i (v := (-1)) (by decide +kernel) ?_
  have hPc := hP.sub (ws' := []) [] rfl
  have hDc := hD.sub (ws' := []) [] (by decide) rfl
  have hKc := hK.sub (tys' := []) [] rfl
  have hFc := va_free (wc := []) hD hS hA [] rfl
  refine va_calli (va_runS (As := [.int p1, .int 0, .int (-1)]) (rest := []) ⟨hx, hb, hml, hown, hts⟩ (c_X13_in_4 l dC dI  s.heap.size p1 hc0) (va_cwS 3 hts gX13_isText_X13_in rfl rfl rfl (by decide +kernel) ⟨Nat.le_of_ble_eq_true rfl, Nat.le_of_ble_eq_true rfl⟩) ⟨zB_blind, (zPre hPc hDc hKc hS hFc hZ hN)⟩ rfl rfl hl.1 rfl (lv_room (Nat.le_of_ble_eq_true rfl)) dX13_isText_8 ⟨Nat.le_of_ble_eq_true rfl, Nat.le_of_ble_eq_true rfl⟩) hS (fun q _ h => hFc q h) hFc (fun r u t H1 locs ht hvm hw hB hz1 hk1 hS => ?_)
  subst hw
  obtain ⟨hP1, hK1, hD1⟩ := hB
  rw [ht] at hP1
  have hK1 := va_K.moved hvm.symm hK1
  obtain ⟨hP, hD⟩ := va_join (wr := [(q0, .inr (15, [.ref q1, .ref q2, .ref q3, .ref q4, .ref q5, .ref q6, .int 0, .int 1, .ref q7, .int 0, .ref q8, .null, .ref q9, .null, .ref q10, .ref q11, .ref q12, .ref q13, .ref q14, .int 0, .ref q15, .ref q16, .ref q17, .ref q18, .ref q19, .int 0, .int 0]))]) (w1 := []) hP hD [] [0] rfl rfl (by decide) (by decide) hk1 hFc hP1 hD1
  have hK := (hK.sub (tys' := []) [] rfl).app hK1
  generalize H1 = H at hP hS ⊢
  have hP : va_P (dC, dI) vwCl [(q0, .inr (15, [.ref q1, .ref q2, .ref q3, .ref q4, .ref q5, .ref q6, .int 0, .int 1, .ref q7, .int 0, .ref q8, .null, .ref q9, .null, .ref q10, .ref q11, .ref q12, .ref q13, .ref q14, .int 0, .ref q15, .ref q16, .ref q17, .ref q18, .ref q19, .int 0, .int 0]))] H := hP
  have hD : va_D A [(q0, .inr (15, [.ref q1, .ref q2, .ref q3, .ref q4, .ref q5, .ref q6, .int 0, .int 1, .ref q7, .int 0, .ref q8, .null, .ref q9, .null, .ref q10, .ref q11, .ref q12, .ref q13, .ref q14, .int 0, .ref q15, .ref q16, .ref q17, .ref q18, .ref q19, .int 0, .int 0]))] := hD
  have hK : va_K (dC, dI) vwCl [] s := hK
  refine W.widen (k := 0) (n := 0) (Nat.le_of_ble_eq_true rfl) (Nat.le_of_ble_eq_true rfl) ?_
  refine lv_if_eq (tgt := 27) hx hb dX13_isText_11 (by decide) (fun _ => ?_) (fun h9 => absurd (show (0 : Int32) = (0 : Int32) by decide +kernel) h9)
  refine lv_iconst (v := 0) hx hb dX13_isText_27 (by decide +kernel) ?_
  have hP9 := hP.sub (ws' := [(q0, .inr (15, [.ref q1, .ref q2, .ref q3, .ref q4, .ref q5, .ref q6, .int 0, .int 1, .ref q7, .int 0, .ref q8, .null, .ref q9, .null, .ref q10, .ref q11, .ref q12, .ref q13, .ref q14, .int 0, .ref q15, .ref q16, .ref q17, .ref q18, .ref q19, .int 0, .int 0]))]) [0] rfl
  have hD9 := hD.sub (ws' := [(q0, .inr (15, [.ref q1, .ref q2, .ref q3, .ref q4, .ref q5, .ref q6, .int 0, .int 1, .ref q7, .int 0, .ref q8, .null, .ref q9, .null, .ref q10, .ref q11, .ref q12, .ref q13, .ref q14, .int 0, .ref q15, .ref q16, .ref q17, .ref q18, .ref q19, .int 0, .int 0]))]) [0] (by decide) rfl
  have hK9 := hK.sub (tys' := []) [] rfl
  exact W.zret (v := 0) hx hb hr (by decide +kernel) (fun t ht hW => ⟨⟨0, (), rfl, rfl, ⟨by rw [ht]; exact hP9, va_K.moved hW.alike hK9, hD9⟩⟩, hS.F ht⟩) hS.2.2 dX13_isText_28
set_option maxHeartbeats 4000000 in
set_option maxRecDepth 100000 in
theorem c_X13_revise (l : Launch) (dC : Nat → ClassId) (dI : Nat → Nat → Nat) (q0 q1 q2 q3 q4 q5 q6 q7 q8 q9 q10 q11 q12 q13 q14 q15 q16 q17 q18 q19 : Nat) (sz : Nat) (p1 : Int32) (hc0 : p1 < 0) : Met l yX13_revise wsX13_revise ({ frames := 2, cells := 0, slots := 0, locals := 43 }) (va_Pc [.ref q0, .int p1] (zB (dC, dI) [] [(q0, .inr (15, [.ref q1, .ref q2, .ref q3, .ref q4, .ref q5, .ref q6, .int 0, .int 1, .ref q7, .int 0, .ref q8, .null, .ref q9, .null, .ref q10, .ref q11, .ref q12, .ref q13, .ref q14, .int 0, .ref q15, .ref q16, .ref q17, .ref q18, .ref q19, .int 0, .int 0]))] sz)) (va_Qi (fun (r : Int32) (_ : Unit) => 0 = r) (fun _ t => zE (dC, dI) [] [(q0, .inr (15, [.ref q1, .ref q2, .ref q3, .ref q4, .ref q5, .ref q6, .int 0, .int 1, .ref q7, .int 0, .ref q8, .null, .ref q9, .null, .ref q10, .ref q11, .ref q12, .ref q13, .ref q14, .int 1, .ref q15, .ref q16, .ref q17, .ref q18, .ref q19, .int 0, .int 0]))] (va_A [(q0, .inr (15, [.ref q1, .ref q2, .ref q3, .ref q4, .ref q5, .ref q6, .int 0, .int 1, .ref q7, .int 0, .ref q8, .null, .ref q9, .null, .ref q10, .ref q11, .ref q12, .ref q13, .ref q14, .int 0, .ref q15, .ref q16, .ref q17, .ref q18, .ref q19, .int 0, .int 0]))] sz) t) (va_A [(q0, .inr (15, [.ref q1, .ref q2, .ref q3, .ref q4, .ref q5, .ref q6, .int 0, .int 1, .ref q7, .int 0, .ref q8, .null, .ref q9, .null, .ref q10, .ref q11, .ref q12, .ref q13, .ref q14, .int 0, .ref q15, .ref q16, .ref q17, .ref q18, .ref q19, .int 0, .int 0]))] sz)) 0 0 (va_A [(q0, .inr (15, [.ref q1, .ref q2, .ref q3, .ref q4, .ref q5, .ref q6, .int 0, .int 1, .ref q7, .int 0, .ref q8, .null, .ref q9, .null, .ref q10, .ref q11, .ref q12, .ref q13, .ref q14, .int 0, .ref q15, .ref q16, .ref q17, .ref q18, .ref q19, .int 0, .int 0]))] sz) := by
  refine Met.ofW (cc := cX13_revise) (maxL := 2) (ret := (some .int)) (by decide) rfl ?_
  intro p e s m args below meth c s₁ B hml hv
  obtain ⟨rfl, hsz, hP, hK, hD0, hZ, hN⟩ := hv
  have hx := B.exec
  have hb := B.bytes
  have hr := B.returns
  have hts := atoms_spec (ws := wsX13_revise) B.pre
  have hown : s.vm.findClass RX13 = some m.cls := findClass_of_methodNamed B.named
  have hlocks := B.notSynchronized
  subst hsz
  have hD := hD0.self (sz := s.heap.size)
  generalize hAe : va_A [(q0, .inr (15, [.ref q1, .ref q2, .ref q3, .ref q4, .ref q5, .ref q6, .int 0, .int 1, .ref q7, .int 0, .ref q8, .null, .ref q9, .null, .ref q10, .ref q11, .ref q12, .ref q13, .ref q14, .int 0, .ref q15, .ref q16, .ref q17, .ref q18, .ref q19, .int 0, .int 0]))] s.heap.size = A at hD hZ ⊢
  have hA : ∀ q : Nat, s.heap.size ≤ q → A q := fun q h => by rw [← hAe]; exact Or.inr h
  have hS : va_S A s.heap s.heap [] := va_S.rf
  have hP : va_P (dC, dI) vwCl [(q0, .inr (15, [.ref q1, .ref q2, .ref q3, .ref q4, .ref q5, .ref q6, .int 0, .int 1, .ref q7, .int 0, .ref q8, .null, .ref q9, .null, .ref q10, .ref q11, .ref q12, .ref q13, .ref q14, .int 0, .ref q15, .ref q16, .ref q17, .ref q18, .ref q19, .int 0, .int 0]))] s.heap := hP
  have hl := lv_entry ([.ref q0, .int p1]) (n := 2) (Nat.le_of_ble_eq_true rfl)
  rw [lg_entry_eq]
  generalize (lg_sl ([.ref q0, .int p1]) ++ List.replicate (2 - (lg_sl ([.ref q0, .int p1])).length) Slot.unset).toArray = ls at hl ⊢
  have hl : lv_has ls 2 [(0, .ref q0), (1, .int p1)] := hl
  refine lv_aload_n hx hb dX13_revise_0 rfl (lv_at hl 0 rfl) ?_
  refine lv_aload_n hx hb dX13_revise_1 rfl (lv_at hl 0 rfl) ?_
  refine lv_iload_n hx hb dX13_revise_2 rfl (lv_at hl 1 rfl) ?_
  have hPc := hP.sub (ws' := [(q0, .inr (15, [.ref q1, .ref q2, .ref q3, .ref q4, .ref q5, .ref q6, .int 0, .int 1, .ref q7, .int 0, .ref q8, .null, .ref q9, .null, .ref q10, .ref q11, .ref q12, .ref q13, .ref q14, .int 0, .ref q15, .ref q16, .ref q17, .ref q18, .ref q19, .int 0, .int 0]))]) [0] rfl
  have hDc := hD.sub (ws' := [(q0, .inr (15, [.ref q1, .ref q2, .ref q3, .ref q4, .ref q5, .ref q6, .int 0, .int 1, .ref q7, .int 0, .ref q8, .null, .ref q9, .null, .ref q10, .ref q11, .ref q12, .ref q13, .ref q14, .int 0, .ref q15, .ref q16, .ref q17, .ref q18, .ref q19, .int 0, .int 0]))]) [0] (by decide) rfl
  have hKc := hK.sub (tys' := []) [] rfl
  have hFc := va_free (wc := [(q0, .inr (15, [.ref q1, .ref q2, .ref q3, .ref q4, .ref q5, .ref q6, .int 0, .int 1, .ref q7, .int 0, .ref q8, .null, .ref q9, .null, .ref q10, .ref q11, .ref q12, .ref q13, .ref q14, .int 0, .ref q15, .ref q16, .ref q17, .ref q18, .ref q19, .int 0, .int 0]))]) hD hS hA [0] rfl
  refine va_calli (va_runV (As := [.int p1]) (rest := [.ref q0]) ⟨hx, hb, hml, hown, hts⟩ (c_X13_isText l dC dI q0 q1 q2 q3 q4 q5 q6 q7 q8 q9 q10 q11 q12 q13 q14 q15 q16 q17 q18 q19 s.heap.size p1 hc0) (cwV 1 hts gX13_revise_X13_isText rfl rfl rfl (by decide +kernel) ⟨Nat.le_of_ble_eq_true rfl, Nat.le_of_ble_eq_true rfl⟩) ⟨zB_blind, va_recv hK hP (ci := 15) (q0 := 0) rfl rfl, (zPre hPc hDc hKc hS hFc hZ hN)⟩ rfl rfl hl.1 rfl (lv_room (Nat.le_of_ble_eq_true rfl)) dX13_revise_3 ⟨Nat.le_of_ble_eq_true rfl, Nat.le_of_ble_eq_true rfl⟩) hS (fun q _ h => hFc q h) hFc (fun r u t H1 locs ht hvm hw hB hz1 hk1 hS => ?_)
  subst hw
  obtain ⟨hP1, hK1, hD1⟩ := hB
  rw [ht] at hP1
  have hK1 := va_K.moved hvm.symm hK1
  obtain ⟨hP, hD⟩ := va_join (wr := []) (w1 := [(q0, .inr (15, [.ref q1, .ref q2, .ref q3, .ref q4, .ref q5, .ref q6, .int 0, .int 1, .ref q7, .int 0, .ref q8, .null, .ref q9, .null, .ref q10, .ref q11, .ref q12, .ref q13, .ref q14, .int 0, .ref q15, .ref q16, .ref q17, .ref q18, .ref q19, .int 0, .int 0]))]) hP hD [0] [] rfl rfl (by decide) (by decide) hk1 hFc hP1 hD1
  have hK := (hK.sub (tys' := []) [] rfl).app hK1
  generalize H1 = H at hP hS ⊢
  have hP : va_P (dC, dI) vwCl [(q0, .inr (15, [.ref q1, .ref q2, .ref q3, .ref q4, .ref q5, .ref q6, .int 0, .int 1, .ref q7, .int 0, .ref q8, .null, .ref q9, .null, .ref q10, .ref q11, .ref q12, .ref q13, .ref q14, .int 0, .ref q15, .ref q16, .ref q17, .ref q18, .ref q19, .int 0, .int 0]))] H := hP
  have hD : va_D A [(q0, .inr (15, [.ref q1, .ref q2, .ref q3, .ref q4, .ref q5, .ref q6, .int 0, .int 1, .ref q7, .int 0, .ref q8, .null, .ref q9, .null, .ref q10, .ref q11, .ref q12, .ref q13, .ref q14, .int 0, .ref q15, .ref q16, .ref q17, .ref q18, .ref q19, .int 0, .int 0]))] := hD
  have hK : va_K (dC, dI) vwCl [] s := hK
  refine W.widen (k := 0) (n := 0) (Nat.le_of_ble_eq_true rfl) (Nat.le_of_ble_eq_true rfl) ?_
  refine lv_iconst (v := 1) hx hb dX13_revise_6 (by decide +kernel) ?_
  have hPc := hP.sub (ws' := [(q0, .inr (15, [.ref q1, .ref q2, .ref q3, .ref q4, .ref q5, .ref q6, .int 0, .int 1, .ref q7, .int 0, .ref q8, .null, .ref q9, .null, .ref q10, .ref q11, .ref q12, .ref q13, .ref q14, .int 0, .ref q15, .ref q16, .ref q17, .ref q18, .ref q19, .int 0, .int 0]))]) [0] rfl
  have hDc := hD.sub (ws' := [(q0, .inr (15, [.ref q1, .ref q2, .ref q3, .ref q4, .ref q5, .ref q6, .int 0, .int 1, .ref q7, .int 0, .ref q8, .null, .ref q9, .null, .ref q10, .ref q11, .ref q12, .ref q13, .ref q14, .int 0, .ref q15, .ref q16, .ref q17, .ref q18, .ref q19, .int 0, .int 0]))]) [0] (by decide) rfl
  have hKc := hK.sub (tys' := []) [] rfl
  have hFc := va_free (wc := [(q0, .inr (15, [.ref q1, .ref q2, .ref q3, .ref q4, .ref q5, .ref q6, .int 0, .int 1, .ref q7, .int 0, .ref q8, .null, .ref q9, .null, .ref q10, .ref q11, .ref q12, .ref q13, .ref q14, .int 0, .ref q15, .ref q16, .ref q17, .ref q18, .ref q19, .int 0, .int 0]))]) hD hS hA [0] rfl
  refine va_calli (va_runV (As := [.int 0, .int 1]) (rest := []) ⟨hx, hb, hml, hown, hts⟩ (c_X13_no l dC dI q0 q1 q2 q3 q4 q5 q6 q7 q8 q9 q10 q11 q12 q13 q14 q15 q16 q17 q18 q19 H.size  ) (cwV 2 hts gX13_revise_X13_no rfl rfl rfl (by decide +kernel) ⟨Nat.le_of_ble_eq_true rfl, Nat.le_of_ble_eq_true rfl⟩) ⟨zB_blind, va_recv hK hP (ci := 15) (q0 := 0) rfl rfl, (zPre hPc hDc hKc hS hFc hZ hN)⟩ rfl rfl hl.1 rfl (lv_room (Nat.le_of_ble_eq_true rfl)) dX13_revise_7 ⟨Nat.le_of_ble_eq_true rfl, Nat.le_of_ble_eq_true rfl⟩) hS (fun q _ h => hFc q h) hFc (fun r u t H1 locs ht hvm hw hB hz1 hk1 hS => ?_)
  subst hw
  obtain ⟨hP1, hK1, hD1⟩ := hB
  rw [ht] at hP1
  have hK1 := va_K.moved hvm.symm hK1
  obtain ⟨hP, hD⟩ := va_join (wr := []) (w1 := [(q0, .inr (15, [.ref q1, .ref q2, .ref q3, .ref q4, .ref q5, .ref q6, .int 0, .int 1, .ref q7, .int 0, .ref q8, .null, .ref q9, .null, .ref q10, .ref q11, .ref q12, .ref q13, .ref q14, .int 1, .ref q15, .ref q16, .ref q17, .ref q18, .ref q19, .int 0, .int 0]))]) hP hD [0] [] rfl rfl (by decide) (by decide) hk1 hFc hP1 hD1
  have hK := (hK.sub (tys' := []) [] rfl).app hK1
  generalize H1 = H at hP hS ⊢
  have hP : va_P (dC, dI) vwCl [(q0, .inr (15, [.ref q1, .ref q2, .ref q3, .ref q4, .ref q5, .ref q6, .int 0, .int 1, .ref q7, .int 0, .ref q8, .null, .ref q9, .null, .ref q10, .ref q11, .ref q12, .ref q13, .ref q14, .int 1, .ref q15, .ref q16, .ref q17, .ref q18, .ref q19, .int 0, .int 0]))] H := hP
  have hD : va_D A [(q0, .inr (15, [.ref q1, .ref q2, .ref q3, .ref q4, .ref q5, .ref q6, .int 0, .int 1, .ref q7, .int 0, .ref q8, .null, .ref q9, .null, .ref q10, .ref q11, .ref q12, .ref q13, .ref q14, .int 1, .ref q15, .ref q16, .ref q17, .ref q18, .ref q19, .int 0, .int 0]))] := hD
  have hK : va_K (dC, dI) vwCl [] s := hK
  refine W.widen (k := 0) (n := 0) (Nat.le_of_ble_eq_true rfl) (Nat.le_of_ble_eq_true rfl) ?_
  refine lv_if_eq (tgt := 15) hx hb dX13_revise_10 (by decide) (fun h9 => absurd h9 (show ¬ (1 : Int32) = (0 : Int32) by decide +kernel)) (fun _ => ?_)
  refine lv_iconst (v := 0) hx hb dX13_revise_13 (by decide +kernel) ?_
  have hP9 := hP.sub (ws' := [(q0, .inr (15, [.ref q1, .ref q2, .ref q3, .ref q4, .ref q5, .ref q6, .int 0, .int 1, .ref q7, .int 0, .ref q8, .null, .ref q9, .null, .ref q10, .ref q11, .ref q12, .ref q13, .ref q14, .int 1, .ref q15, .ref q16, .ref q17, .ref q18, .ref q19, .int 0, .int 0]))]) [0] rfl
  have hD9 := hD.sub (ws' := [(q0, .inr (15, [.ref q1, .ref q2, .ref q3, .ref q4, .ref q5, .ref q6, .int 0, .int 1, .ref q7, .int 0, .ref q8, .null, .ref q9, .null, .ref q10, .ref q11, .ref q12, .ref q13, .ref q14, .int 1, .ref q15, .ref q16, .ref q17, .ref q18, .ref q19, .int 0, .int 0]))]) [0] (by decide) rfl
  have hK9 := hK.sub (tys' := []) [] rfl
  exact W.iret (v := 0) hx hb hr (fun t ht hW => ⟨⟨0, (), rfl, rfl, ⟨by rw [ht]; exact hP9, va_K.moved hW.alike hK9, hD9⟩⟩, hS.F ht⟩) hS.2.2 dX13_revise_14
set_option maxHeartbeats 4000000 in
set_option maxRecDepth 100000 in
theorem c_X8_at_2 (l : Launch) (dC : Nat → ClassId) (dI : Nat → Nat → Nat) (q0 q1 : Nat) (sz : Nat) (p1 : Int32) (hc0 : ¬ p1 < 0) (hc1 : (0 : Int32) ≤ p1) : Met l yX8_at wsX8_at ({ frames := 0, cells := 0, slots := 0, locals := 0 }) (va_Pc [.ref q0, .int p1] (zB (dC, dI) [] [(q0, .inr (11, [.ref q1, .int 0, .int 1]))] sz)) (va_Qq (fun (r : Option Nat) (_ : Unit) => none = r) (fun _ t => zE (dC, dI) [] [] (va_A [(q0, .inr (11, [.ref q1, .int 0, .int 1]))] sz) t) (va_A [(q0, .inr (11, [.ref q1, .int 0, .int 1]))] sz)) 0 0 (va_A [(q0, .inr (11, [.ref q1, .int 0, .int 1]))] sz) := by
  refine Met.ofW (cc := cX8_at) (maxL := 3) (ret := (some (.object "Seekwell$Text"))) (by decide) rfl ?_
  intro p e s m args below meth c s₁ B hml hv
  obtain ⟨rfl, hsz, hP, hK, hD0, hZ, hN⟩ := hv
  have hx := B.exec
  have hb := B.bytes
  have hr := B.returns
  have hts := atoms_spec (ws := wsX8_at) B.pre
  have hown : s.vm.findClass RX8 = some m.cls := findClass_of_methodNamed B.named
  have hlocks := B.notSynchronized
  subst hsz
  have hD := hD0.self (sz := s.heap.size)
  generalize hAe : va_A [(q0, .inr (11, [.ref q1, .int 0, .int 1]))] s.heap.size = A at hD hZ ⊢
  have hA : ∀ q : Nat, s.heap.size ≤ q → A q := fun q h => by rw [← hAe]; exact Or.inr h
  have hS : va_S A s.heap s.heap [] := va_S.rf
  have hP : va_P (dC, dI) vwCl [(q0, .inr (11, [.ref q1, .int 0, .int 1]))] s.heap := hP
  have hl := lv_entry ([.ref q0, .int p1]) (n := 3) (Nat.le_of_ble_eq_true rfl)
  rw [lg_entry_eq]
  generalize (lg_sl ([.ref q0, .int p1]) ++ List.replicate (3 - (lg_sl ([.ref q0, .int p1])).length) Slot.unset).toArray = ls at hl ⊢
  have hl : lv_has ls 3 [(0, .ref q0), (1, .int p1)] := hl
  refine lv_iload_n hx hb dX8_at_0 rfl (lv_at hl 1 rfl) ?_
  refine lv_if_lt (tgt := 21) hx hb dX8_at_1 (by decide) (fun h9 => absurd h9 hc0) (fun _ => ?_)
  refine lv_iload_n hx hb dX8_at_4 rfl (lv_at hl 1 rfl) ?_
  refine lv_aload_n hx hb dX8_at_5 rfl (lv_at hl 0 rfl) ?_
  refine va_get (D := (dC, dI)) (ci := 11) (v := .int 0) (C := RX8) (T := TX8) (N := 3) hx hb hts (fun _ h => List.mem_cons_of_mem _ (List.mem_append_left _ (List.mem_append_right _ h))) hown hK hP 0 rfl rfl 1 (by decide) (hts (.fieldLink RX8 17 "Seekwell$Shelf" "came" "I") (by decide +kernel)) (fun _ h9 => h9) rfl dX8_at_6 ?_
  refine lv_icmp_ge (tgt := 21) hx hb dX8_at_9 (by decide) (fun _ => ?_) (fun h9 => absurd hc1 h9)
  refine lv_null hx hb dX8_at_21 ?_
  have hP9 := hP.sub (ws' := []) [] rfl
  have hD9 := hD.sub (ws' := []) [] (by decide) rfl
  have hK9 := hK.sub (tys' := []) [] rfl
  exact W.aret (v := .null) hx hb hr (Or.inl ⟨_, rfl⟩) (Or.inl rfl) (fun t ht hW => ⟨⟨none, (), rfl, rfl, ⟨by rw [ht]; exact hP9, va_K.moved hW.alike hK9, hD9⟩⟩, hS.F ht⟩) hS.2.2 dX8_at_22
set_option maxHeartbeats 4000000 in
set_option maxRecDepth 100000 in
theorem c_X11_textOf_2 (l : Launch) (hfl : l.stackTraces = false) (dC : Nat → ClassId) (dI : Nat → Nat → Nat) (q0 q1 q2 q3 q4 q5 q6 q7 q8 q9 q10 q11 q12 q13 q14 : Nat) (sz : Nat) (p1 : Int32) (hc0 : ¬ p1 < 0) (hc1 : (0 : Int32) ≤ p1) : vx_Met l yX11_textOf wsX11_textOf ({ frames := 6, cells := 1, slots := 6, locals := 90 }) (va_Pc [.ref q0, .int p1] (zB (dC, dI) [] [(q0, .inr (13, [.ref q1, .ref q2, .ref q3, .ref q4, .ref q5, .ref q6, .ref q7, .ref q8, .int 0, .ref q9, .ref q10, .ref q11, .ref q12, .ref q13])), (q2, .inr (11, [.ref q14, .int 0, .int 1]))] sz)) (va_Qq (fun (_ : Option Nat) (_ : Unit) => False) (fun _ _ => True) (va_A [(q0, .inr (13, [.ref q1, .ref q2, .ref q3, .ref q4, .ref q5, .ref q6, .ref q7, .ref q8, .int 0, .ref q9, .ref q10, .ref q11, .ref q12, .ref q13])), (q2, .inr (11, [.ref q14, .int 0, .int 1]))] sz)) (vx_X (fun (_ : Unit) => True) (fun E _ _ => "java/util/NoSuchElementException" = E) (va_A [(q0, .inr (13, [.ref q1, .ref q2, .ref q3, .ref q4, .ref q5, .ref q6, .ref q7, .ref q8, .int 0, .ref q9, .ref q10, .ref q11, .ref q12, .ref q13])), (q2, .inr (11, [.ref q14, .int 0, .int 1]))] sz)) 1 6 (va_A [(q0, .inr (13, [.ref q1, .ref q2, .ref q3, .ref q4, .ref q5, .ref q6, .ref q7, .ref q8, .int 0, .ref q9, .ref q10, .ref q11, .ref q12, .ref q13])), (q2, .inr (11, [.ref q14, .int 0, .int 1]))] sz) := by
  refine vx_ofW (cc := cX11_textOf) (maxL := 3) (ret := (some (.object "Seekwell$Text"))) (by decide) rfl ?_
  intro p e s m args below meth c s₁ B hml hnoex hv
  obtain ⟨rfl, hsz, hP, hK, hD0, hZ, hN⟩ := hv
  have hx := B.exec
  have hb := B.bytes
  have hr := B.returns
  have hts := atoms_spec (ws := wsX11_textOf) B.pre
  have hown : s.vm.findClass RX11 = some m.cls := findClass_of_methodNamed B.named
  have hlocks := B.notSynchronized
  subst hsz
  have hD := hD0.self (sz := s.heap.size)
  generalize hAe : va_A [(q0, .inr (13, [.ref q1, .ref q2, .ref q3, .ref q4, .ref q5, .ref q6, .ref q7, .ref q8, .int 0, .ref q9, .ref q10, .ref q11, .ref q12, .ref q13])), (q2, .inr (11, [.ref q14, .int 0, .int 1]))] s.heap.size = A at hD hZ ⊢
  have hA : ∀ q : Nat, s.heap.size ≤ q → A q := fun q h => by rw [← hAe]; exact Or.inr h
  have hS : va_S A s.heap s.heap [] := va_S.rf
  have hP : va_P (dC, dI) vwCl [(q0, .inr (13, [.ref q1, .ref q2, .ref q3, .ref q4, .ref q5, .ref q6, .ref q7, .ref q8, .int 0, .ref q9, .ref q10, .ref q11, .ref q12, .ref q13])), (q2, .inr (11, [.ref q14, .int 0, .int 1]))] s.heap := hP
  have hl := lv_entry ([.ref q0, .int p1]) (n := 3) (Nat.le_of_ble_eq_true rfl)
  rw [lg_entry_eq]
  generalize (lg_sl ([.ref q0, .int p1]) ++ List.replicate (3 - (lg_sl ([.ref q0, .int p1])).length) Slot.unset).toArray = ls at hl ⊢
  have hl : lv_has ls 3 [(0, .ref q0), (1, .int p1)] := hl
  refine lv_aload_n hx hb dX11_textOf_0 rfl (lv_at hl 0 rfl) ?_
  refine va_get (D := (dC, dI)) (ci := 13) (v := .ref q2) (C := RX11) (T := TX11) (N := 14) hx hb hts (fun _ h => List.mem_cons_of_mem _ (List.mem_append_left _ (List.mem_append_left _ (List.mem_append_left _ (List.mem_append_right _ h))))) hown hK hP 0 rfl rfl 1 (by decide) (hts (.fieldLink RX11 19 "Seekwell" "shelf" "LSeekwell$Shelf;") (by decide +kernel)) (fun _ h9 => h9) rfl dX11_textOf_1 ?_
  refine lv_iload_n hx hb dX11_textOf_4 rfl (lv_at hl 1 rfl) ?_
  have hPc := hP.sub (ws' := [(q2, .inr (11, [.ref q14, .int 0, .int 1]))]) [1] rfl
  have hDc := hD.sub (ws' := [(q2, .inr (11, [.ref q14, .int 0, .int 1]))]) [1] (by decide) rfl
  have hKc := hK.sub (tys' := []) [] rfl
  have hFc := va_free (wc := [(q2, .inr (11, [.ref q14, .int 0, .int 1]))]) hD hS hA [1] rfl
  refine va_callq (va_runV (As := [.int p1]) (rest := []) ⟨hx, hb, hml, hown, hts⟩ (c_X8_at_2 l dC dI q2 q14 s.heap.size p1 hc0 hc1) (cwV 1 hts gX11_textOf_X8_at rfl rfl rfl (by decide +kernel) ⟨Nat.le_of_ble_eq_true rfl, Nat.le_of_ble_eq_true rfl⟩) ⟨zB_blind, va_recv hK hP (ci := 11) (q0 := 1) rfl rfl, (zPre hPc hDc hKc hS hFc hZ hN)⟩ rfl rfl hl.1 rfl (lv_room (Nat.le_of_ble_eq_true rfl)) dX11_textOf_5 ⟨Nat.le_of_ble_eq_true rfl, Nat.le_of_ble_eq_true rfl⟩) hS (fun q _ h => hFc q h) hFc (fun r u t H1 locs ht hvm hw hB hz1 hk1 hS => ?_)
  subst hw
  obtain ⟨hP1, hK1, hD1⟩ := hB
  rw [ht] at hP1
  have hK1 := va_K.moved hvm.symm hK1
  obtain ⟨hP, hD⟩ := va_join (wr := []) (w1 := []) hP hD [1] [] rfl rfl (by decide) (by decide) hk1 hFc hP1 hD1
  have hK := (hK.sub (tys' := []) [] rfl).app hK1
  generalize H1 = H at hP hS ⊢
  have hP : va_P (dC, dI) vwCl [] H := hP
  have hD : va_D A [] := hD
  have hK : va_K (dC, dI) vwCl [] s := hK
  refine W.widen (k := 0) (n := 0) (Nat.le_of_ble_eq_true rfl) (Nat.le_of_ble_eq_true rfl) ?_
  refine zt_v (w := .null) rfl ?_
  refine lv_astore_nN (lv' := [(2, .null), (0, .ref q0), (1, .int p1)]) hx hb dX11_textOf_8 rfl hl (by decide) rfl (fun ls hl => ?_)
  refine lv_aload_nN hx hb dX11_textOf_9 rfl (lv_at hl 0 rfl) ?_
  refine lv_ifnonnullN hx hb dX11_textOf_10 ?_
  obtain ⟨sa, hstr⟩ := hN.2.2.2.2.1 (RX11, 329, "there is no such text") (by decide +kernel)
  refine z_throwSXW (ix := 13) (rx := prog_42_method_4_code) (A := A) (cls := "java/util/NoSuchElementException") (names := ["java/lang/RuntimeException", "java/lang/Exception"]) (own := RX11) (text := "there is no such text") hx hb hfl (by decide +kernel) (by decide +kernel) (by decide +kernel) (by decide +kernel) hown (by decide +kernel) (by decide +kernel) (hts (.classLink RX11 195 "java/util/NoSuchElementException") (by decide +kernel)) (hts (.initialized "java/util/NoSuchElementException") (by decide +kernel)) hstr (vx_hat (B := [Cond.castable "java/util/NoSuchElementException" "java/util/NoSuchElementException", Cond.declares (Bundle.initS "java/lang/RuntimeException"), Cond.declares (Bundle.initS "java/lang/Exception"), Cond.declares (Bundle.initS Bundle.tN)]) (fun w h => hts w (List.mem_cons_of_mem _ (List.mem_append_right _ h))) (by decide +kernel) (zthr hN (by decide +kernel))) (by decide +kernel) hZ.1 hZ.2 hS (hl.1.trans hml.symm) dX11_textOf_13 dX11_textOf_16 dX11_textOf_17 dX11_textOf_20 dX11_textOf_23 (fun x h => (hnoex x h).elim) (Nat.lt_of_succ_le (Nat.le_of_ble_eq_true rfl)) (Nat.le_of_ble_eq_true rfl) (Nat.le_of_ble_eq_true rfl) (Nat.le_of_ble_eq_true rfl) hlocks ?_ hS.2.2 (Nat.le_refl _) (Nat.le_refl _)
  exact fun t hvm hz hk => ⟨(), trivial, rfl, zF hS hz hk⟩
set_option maxHeartbeats 4000000 in
set_option maxRecDepth 100000 in
theorem c_X11_revise_2 (l : Launch) (hfl : l.stackTraces = false) (dC : Nat → ClassId) (dI : Nat → Nat → Nat) (q0 q1 q2 q3 q4 q5 q6 q7 q8 q9 q10 q11 q12 q13 q14 : Nat) (sz : Nat) (p1 : Int32) (hc0 : ¬ p1 < 0) (hc1 : (0 : Int32) ≤ p1) : vx_Met l yX11_revise wsX11_revise ({ frames := 7, cells := 1, slots := 6, locals := 112 }) (va_Pc [.ref q0, .int p1] (zB (dC, dI) [] [(q0, .inr (13, [.ref q1, .ref q2, .ref q3, .ref q4, .ref q5, .ref q6, .ref q7, .ref q8, .int 0, .ref q9, .ref q10, .ref q11, .ref q12, .ref q13])), (q2, .inr (11, [.ref q14, .int 0, .int 1]))] sz)) (va_Qi (fun (_ : Int32) (_ : Unit) => False) (fun _ _ => True) (va_A [(q0, .inr (13, [.ref q1, .ref q2, .ref q3, .ref q4, .ref q5, .ref q6, .ref q7, .ref q8, .int 0, .ref q9, .ref q10, .ref q11, .ref q12, .ref q13])), (q2, .inr (11, [.ref q14, .int 0, .int 1]))] sz)) (vx_X (fun (_ : Unit) => True) (fun E _ _ => "java/util/NoSuchElementException" = E) (va_A [(q0, .inr (13, [.ref q1, .ref q2, .ref q3, .ref q4, .ref q5, .ref q6, .ref q7, .ref q8, .int 0, .ref q9, .ref q10, .ref q11, .ref q12, .ref q13])), (q2, .inr (11, [.ref q14, .int 0, .int 1]))] sz)) 1 6 (va_A [(q0, .inr (13, [.ref q1, .ref q2, .ref q3, .ref q4, .ref q5, .ref q6, .ref q7, .ref q8, .int 0, .ref q9, .ref q10, .ref q11, .ref q12, .ref q13])), (q2, .inr (11, [.ref q14, .int 0, .int 1]))] sz) := by
  refine vx_ofW (cc := cX11_revise) (maxL := 3) (ret := (some .int)) (by decide) rfl ?_
  intro p e s m args below meth c s₁ B hml hnoex hv
  obtain ⟨rfl, hsz, hP, hK, hD0, hZ, hN⟩ := hv
  have hx := B.exec
  have hb := B.bytes
  have hr := B.returns
  have hts := atoms_spec (ws := wsX11_revise) B.pre
  have hown : s.vm.findClass RX11 = some m.cls := findClass_of_methodNamed B.named
  have hlocks := B.notSynchronized
  subst hsz
  have hD := hD0.self (sz := s.heap.size)
  generalize hAe : va_A [(q0, .inr (13, [.ref q1, .ref q2, .ref q3, .ref q4, .ref q5, .ref q6, .ref q7, .ref q8, .int 0, .ref q9, .ref q10, .ref q11, .ref q12, .ref q13])), (q2, .inr (11, [.ref q14, .int 0, .int 1]))] s.heap.size = A at hD hZ ⊢
  have hA : ∀ q : Nat, s.heap.size ≤ q → A q := fun q h => by rw [← hAe]; exact Or.inr h
  have hS : va_S A s.heap s.heap [] := va_S.rf
  have hP : va_P (dC, dI) vwCl [(q0, .inr (13, [.ref q1, .ref q2, .ref q3, .ref q4, .ref q5, .ref q6, .ref q7, .ref q8, .int 0, .ref q9, .ref q10, .ref q11, .ref q12, .ref q13])), (q2, .inr (11, [.ref q14, .int 0, .int 1]))] s.heap := hP
  have hl := lv_entry ([.ref q0, .int p1]) (n := 3) (Nat.le_of_ble_eq_true rfl)
  rw [lg_entry_eq]
  generalize (lg_sl ([.ref q0, .int p1]) ++ List.replicate (3 - (lg_sl ([.ref q0, .int p1])).length) Slot.unset).toArray = ls at hl ⊢
  have hl : lv_has ls 3 [(0, .ref q0), (1, .int p1)] := hl
  refine lv_aload_n hx hb dX11_revise_0 rfl (lv_at hl 0 rfl) ?_
  refine lv_iload_n hx hb dX11_revise_1 rfl (lv_at hl 1 rfl) ?_
  have hPc := hP.sub (ws' := [(q0, .inr (13, [.ref q1, .ref q2, .ref q3, .ref q4, .ref q5, .ref q6, .ref q7, .ref q8, .int 0, .ref q9, .ref q10, .ref q11, .ref q12, .ref q13])), (q2, .inr (11, [.ref q14, .int 0, .int 1]))]) [0, 1] rfl
  have hDc := hD.sub (ws' := [(q0, .inr (13, [.ref q1, .ref q2, .ref q3, .ref q4, .ref q5, .ref q6, .ref q7, .ref q8, .int 0, .ref q9, .ref q10, .ref q11, .ref q12, .ref q13])), (q2, .inr (11, [.ref q14, .int 0, .int 1]))]) [0, 1] (by decide) rfl
  have hKc := hK.sub (tys' := []) [] rfl
  have hFc := va_free (wc := [(q0, .inr (13, [.ref q1, .ref q2, .ref q3, .ref q4, .ref q5, .ref q6, .ref q7, .ref q8, .int 0, .ref q9, .ref q10, .ref q11, .ref q12, .ref q13])), (q2, .inr (11, [.ref q14, .int 0, .int 1]))]) hD hS hA [0, 1] rfl
  refine vx_callq (vx_runV (As := [.int p1]) (rest := []) ⟨hx, hb, hml, hown, hts⟩ (c_X11_textOf_2 l hfl dC dI q0 q1 q2 q3 q4 q5 q6 q7 q8 q9 q10 q11 q12 q13 q14 s.heap.size p1 hc0 hc1) (cwV 1 hts gX11_revise_X11_textOf rfl rfl rfl (by decide +kernel) ⟨Nat.le_of_ble_eq_true rfl, Nat.le_of_ble_eq_true rfl⟩) ⟨zB_blind, va_recv hK hP (ci := 13) (q0 := 0) rfl rfl, (zPre hPc hDc hKc hS hFc hZ hN)⟩ rfl rfl hl.1 rfl (lv_room (Nat.le_of_ble_eq_true rfl)) dX11_revise_2 ⟨Nat.le_of_ble_eq_true rfl, Nat.le_of_ble_eq_true rfl⟩) hS (fun q _ h => hFc q h) hFc (fun q _ h => hFc q h) (fun E ce qx u t H1 locs1 ht hvm hpx hBX hz1 hk1 hS hq9 hv9 hcl9 => ?_) (fun r u t H1 locs1 _ _ hw => hw.elim)
  subst hBX
  exact vx_out (fun x h => ((hnoex x h).elim)) hlocks hq9 hv9 hcl9 (fun t h1 _ => ⟨(), trivial, rfl, hS.F h1⟩) hS.2.2 (Nat.le_refl _) (Nat.le_refl _)
set_option maxHeartbeats 4000000 in
set_option maxRecDepth 100000 in
theorem c_L_revise_2 (l : Launch) (hfl : l.stackTraces = false) (dC : Nat → ClassId) (dI : Nat → Nat → Nat) (q0 q1 q2 q3 q4 q5 q6 q7 q8 q9 q10 q11 q12 q13 q14 q15 : Nat) (sz : Nat) (p1 : Int32) (hc0 : ¬ p1 < 0) (hc1 : (0 : Int32) ≤ p1) : Met l yL_revise wsL_revise ({ frames := 8, cells := 1, slots := 6, locals := 134 }) (va_Pc [.ref q0, .int p1, .ref q1] (zB (dC, dI) [] [(q0, .inr (13, [.ref q2, .ref q3, .ref q4, .ref q5, .ref q6, .ref q7, .ref q8, .ref q9, .int 0, .ref q10, .ref q11, .ref q12, .ref q13, .ref q14])), (q3, .inr (11, [.ref q15, .int 0, .int 1]))] sz)) (va_Qi (fun (r : Int32) (_ : Unit) => 1 = r) (fun _ t => zE (dC, dI) [] [] (va_A [(q0, .inr (13, [.ref q2, .ref q3, .ref q4, .ref q5, .ref q6, .ref q7, .ref q8, .ref q9, .int 0, .ref q10, .ref q11, .ref q12, .ref q13, .ref q14])), (q3, .inr (11, [.ref q15, .int 0, .int 1]))] sz) t) (va_A [(q0, .inr (13, [.ref q2, .ref q3, .ref q4, .ref q5, .ref q6, .ref q7, .ref q8, .ref q9, .int 0, .ref q10, .ref q11, .ref q12, .ref q13, .ref q14])), (q3, .inr (11, [.ref q15, .int 0, .int 1]))] sz)) 1 6 (va_A [(q0, .inr (13, [.ref q2, .ref q3, .ref q4, .ref q5, .ref q6, .ref q7, .ref q8, .ref q9, .int 0, .ref q10, .ref q11, .ref q12, .ref q13, .ref q14])), (q3, .inr (11, [.ref q15, .int 0, .int 1]))] sz) := by
  refine va_MetW (cc := cL_revise) (maxL := 4) (ret := (some .int)) (by decide) rfl ?_
  intro p e s m args below meth c s₁ B hml hv
  obtain ⟨rfl, hsz, hP, hK, hD0, hZ, hN⟩ := hv
  have hx := B.exec
  have hb := B.bytes
  have hr := B.returns
  have hts := atoms_spec (ws := wsL_revise) B.pre
  have hown : s.vm.findClass RL = some m.cls := findClass_of_methodNamed B.named
  have hlocks := B.notSynchronized
  have htab := vx_table (x := yL_revise) B (hts (.codeWith yL_revise cL_revise 4 (some .int) [(0, 9, 12, 31)]) List.mem_cons_self)
  subst hsz
  have hD := hD0.self (sz := s.heap.size)
  generalize hAe : va_A [(q0, .inr (13, [.ref q2, .ref q3, .ref q4, .ref q5, .ref q6, .ref q7, .ref q8, .ref q9, .int 0, .ref q10, .ref q11, .ref q12, .ref q13, .ref q14])), (q3, .inr (11, [.ref q15, .int 0, .int 1]))] s.heap.size = A at hD hZ ⊢
  have hA : ∀ q : Nat, s.heap.size ≤ q → A q := fun q h => by rw [← hAe]; exact Or.inr h
  have hS : va_S A s.heap s.heap [] := va_S.rf
  have hP : va_P (dC, dI) vwCl [(q0, .inr (13, [.ref q2, .ref q3, .ref q4, .ref q5, .ref q6, .ref q7, .ref q8, .ref q9, .int 0, .ref q10, .ref q11, .ref q12, .ref q13, .ref q14])), (q3, .inr (11, [.ref q15, .int 0, .int 1]))] s.heap := hP
  have hl := lv_entry ([.ref q0, .int p1, .ref q1]) (n := 4) (Nat.le_of_ble_eq_true rfl)
  rw [lg_entry_eq]
  generalize (lg_sl ([.ref q0, .int p1, .ref q1]) ++ List.replicate (4 - (lg_sl ([.ref q0, .int p1, .ref q1])).length) Slot.unset).toArray = ls at hl ⊢
  have hl : lv_has ls 4 [(0, .ref q0), (1, .int p1), (2, .ref q1)] := hl
  refine lv_aload_n hx hb dL_revise_0 rfl (lv_at hl 2 rfl) ?_
  refine lv_iconst (v := 0) hx hb dL_revise_1 (by decide +kernel) ?_
  refine lv_aload_n hx hb dL_revise_2 rfl (lv_at hl 0 rfl) ?_
  refine lv_iload_n hx hb dL_revise_3 rfl (lv_at hl 1 rfl) ?_
  have hPc := hP.sub (ws' := [(q0, .inr (13, [.ref q2, .ref q3, .ref q4, .ref q5, .ref q6, .ref q7, .ref q8, .ref q9, .int 0, .ref q10, .ref q11, .ref q12, .ref q13, .ref q14])), (q3, .inr (11, [.ref q15, .int 0, .int 1]))]) [0, 1] rfl
  have hDc := hD.sub (ws' := [(q0, .inr (13, [.ref q2, .ref q3, .ref q4, .ref q5, .ref q6, .ref q7, .ref q8, .ref q9, .int 0, .ref q10, .ref q11, .ref q12, .ref q13, .ref q14])), (q3, .inr (11, [.ref q15, .int 0, .int 1]))]) [0, 1] (by decide) rfl
  have hKc := hK.sub (tys' := []) [] rfl
  have hFc := va_free (wc := [(q0, .inr (13, [.ref q2, .ref q3, .ref q4, .ref q5, .ref q6, .ref q7, .ref q8, .ref q9, .int 0, .ref q10, .ref q11, .ref q12, .ref q13, .ref q14])), (q3, .inr (11, [.ref q15, .int 0, .int 1]))]) hD hS hA [0, 1] rfl
  refine vx_calli (vx_runV (As := [.int p1]) (rest := [.int 0, .ref q1]) ⟨hx, hb, hml, hown, hts⟩ (c_X11_revise_2 l hfl dC dI q0 q2 q3 q4 q5 q6 q7 q8 q9 q10 q11 q12 q13 q14 q15 s.heap.size p1 hc0 hc1) (cwV 1 hts gL_revise_X11_revise rfl rfl rfl (by decide +kernel) ⟨Nat.le_of_ble_eq_true rfl, Nat.le_of_ble_eq_true rfl⟩) ⟨zB_blind, va_recv hK hP (ci := 13) (q0 := 0) rfl rfl, (zPre hPc hDc hKc hS hFc hZ hN)⟩ rfl rfl hl.1 rfl (lv_room (Nat.le_of_ble_eq_true rfl)) dL_revise_4 ⟨Nat.le_of_ble_eq_true rfl, Nat.le_of_ble_eq_true rfl⟩) hS (fun q _ h => hFc q h) hFc (fun q _ h => hFc q h) (fun E ce qx u t H1 locs1 ht hvm hpx hBX hz1 hk1 hS hq9 hv9 hcl9 => ?_) (fun r u t H1 locs1 _ _ hw => hw.elim)
  subst hBX
  refine vx_catch (name := "java/util/NoSuchElementException") hown [] ⟨0, 9, 12, 31⟩ [] (by rw [htab]; rfl) (fun z h => absurd h List.not_mem_nil) rfl (by decide) (hts (.classLink RL 31 "java/util/NoSuchElementException") (by decide +kernel)) (va_Nw.use rfl (hN.2.1 "java/util/NoSuchElementException" (by decide +kernel))) hq9 hv9 hcl9 ?_
  generalize H1 = H at hS ⊢
  refine W.widen (k := 1) (n := 6) (Nat.le_of_ble_eq_true rfl) (Nat.le_of_ble_eq_true rfl) ?_
  have hP : va_P (dC, dI) vwCl [] H := zP_nil
  have hD : va_D A [] := zD_nil
  have hK := hK.sub (tys' := []) [] rfl
  refine lv_astore_n (lv' := [(3, .ref qx), (0, .ref q0), (1, .int p1), (2, .ref q1)]) hx hb dL_revise_12 rfl hl (by decide) rfl (fun ls hl => ?_)
  refine lv_iconst (v := 1) hx hb dL_revise_13 (by decide +kernel) ?_
  have hP9 := hP.sub (ws' := []) [] rfl
  have hD9 := hD.sub (ws' := []) [] (by decide) rfl
  have hK9 := hK.sub (tys' := []) [] rfl
  exact W.iret (v := 1) hx hb hr (fun t ht hW => ⟨⟨1, (), rfl, rfl, ⟨by rw [ht]; exact hP9, va_K.moved hW.alike hK9, hD9⟩⟩, hS.F ht⟩) hS.2.2 dL_revise_14
set_option maxHeartbeats 4000000 in
set_option maxRecDepth 100000 in
theorem c_X13_isText_2 (l : Launch) (dC : Nat → ClassId) (dI : Nat → Nat → Nat) (q0 q1 q2 q3 q4 q5 q6 q7 q8 q9 q10 q11 q12 q13 q14 q15 q16 q17 q18 q19 : Nat) (sz : Nat) (p1 : Int32) (hc0 : ¬ p1 < 0) (hc1 : ((-1) : Int32) < p1) : Met l yX13_isText wsX13_isText ({ frames := 1, cells := 0, slots := 0, locals := 22 }) (va_Pc [.ref q0, .int p1] (zB (dC, dI) [] [(q0, .inr (15, [.ref q1, .ref q2, .ref q3, .ref q4, .ref q5, .ref q6, .int 0, .int 1, .ref q7, .int 0, .ref q8, .null, .ref q9, .null, .ref q10, .ref q11, .ref q12, .ref q13, .ref q14, .int 0, .ref q15, .ref q16, .ref q17, .ref q18, .ref q19, .int 0, .int 0]))] sz)) (va_Qi (fun (r : Int32) (_ : Unit) => 0 = r) (fun _ t => zE (dC, dI) [] [(q0, .inr (15, [.ref q1, .ref q2, .ref q3, .ref q4, .ref q5, .ref q6, .int 0, .int 1, .ref q7, .int 0, .ref q8, .null, .ref q9, .null, .ref q10, .ref q11, .ref q12, .ref q13, .ref q14, .int 0, .ref q15, .ref q16, .ref q17, .ref q18, .ref q19, .int 0, .int 0]))] (va_A [(q0, .inr (15, [.ref q1, .ref q2, .ref q3, .ref q4, .ref q5, .ref q6, .int 0, .int 1, .ref q7, .int 0, .ref q8, .null, .ref q9, .null, .ref q10, .ref q11, .ref q12, .ref q13, .ref q14, .int 0, .ref q15, .ref q16, .ref q17, .ref q18, .ref q19, .int 0, .int 0]))] sz) t) (va_A [(q0, .inr (15, [.ref q1, .ref q2, .ref q3, .ref q4, .ref q5, .ref q6, .int 0, .int 1, .ref q7, .int 0, .ref q8, .null, .ref q9, .null, .ref q10, .ref q11, .ref q12, .ref q13, .ref q14, .int 0, .ref q15, .ref q16, .ref q17, .ref q18, .ref q19, .int 0, .int 0]))] sz)) 0 0 (va_A [(q0, .inr (15, [.ref q1, .ref q2, .ref q3, .ref q4, .ref q5, .ref q6, .int 0, .int 1, .ref q7, .int 0, .ref q8, .null, .ref q9, .null, .ref q10, .ref q11, .ref q12, .ref q13, .ref q14, .int 0, .ref q15, .ref q16, .ref q17, .ref q18, .ref q19, .int 0, .int 0]))] sz) := by
  refine Met.ofW (cc := cX13_isText) (maxL := 2) (ret := (some .boolean)) (by decide) rfl ?_
  intro p e s m args below meth c s₁ B hml hv
  obtain ⟨rfl, hsz, hP, hK, hD0, hZ, hN⟩ := hv
  have hx := B.exec
  have hb := B.bytes
  have hr := B.returns
  have hts := atoms_spec (ws := wsX13_isText) B.pre
  have hown : s.vm.findClass RX13 = some m.cls := findClass_of_methodNamed B.named
  have hlocks := B.notSynchronized
  subst hsz
  have hD := hD0.self (sz := s.heap.size)
  generalize hAe : va_A [(q0, .inr (15, [.ref q1, .ref q2, .ref q3, .ref q4, .ref q5, .ref q6, .int 0, .int 1, .ref q7, .int 0, .ref q8, .null, .ref q9, .null, .ref q10, .ref q11, .ref q12, .ref q13, .ref q14, .int 0, .ref q15, .ref q16, .ref q17, .ref q18, .ref q19, .int 0, .int 0]))] s.heap.size = A at hD hZ ⊢
  have hA : ∀ q : Nat, s.heap.size ≤ q → A q := fun q h => by rw [← hAe]; exact Or.inr h
  have hS : va_S A s.heap s.heap [] := va_S.rf
  have hP : va_P (dC, dI) vwCl [(q0, .inr (15, [.ref q1, .ref q2, .ref q3, .ref q4, .ref q5, .ref q6, .int 0, .int 1, .ref q7, .int 0, .ref q8, .null, .ref q9, .null, .ref q10, .ref q11, .ref q12, .ref q13, .ref q14, .int 0, .ref q15, .ref q16, .ref q17, .ref q18, .ref q19, .int 0, .int 0]))] s.heap := hP
  have hl := lv_entry ([.ref q0, .int p1]) (n := 2) (Nat.le_of_ble_eq_true rfl)
  rw [lg_entry_eq]
  generalize (lg_sl ([.ref q0, .int p1]) ++ List.replicate (2 - (lg_sl ([.ref q0, .int p1])).length) Slot.unset).toArray = ls at hl ⊢
  have hl : lv_has ls 2 [(0, .ref q0), (1, .int p1)] := hl
  refine lv_iload_n hx hb dX13_isText_0 rfl (lv_at hl 1 rfl) ?_
  refine lv_iconst (v := 0) hx hb dX13_isText_1 (by decide +kernel) ?_
  refine lv_aload_n hx hb dX13_isText_2 rfl (lv_at hl 0 rfl) ?_
  refine va_get (D := (dC, dI)) (ci := 15) (v := .int 0) (C := RX13) (T := TX13) (N := 27) hx hb hts (fun _ h => List.mem_cons_of_mem _ (List.mem_append_left _ (List.mem_append_right _ h))) hown hK hP 0 rfl rfl 6 (by decide) (hts (.fieldLink RX13 85 "SeekwellModel" "came" "I") (by decide +kernel)) (fun _ h9 => h9) rfl dX13_isText_3 ?_
  refine lv_iconst (v := 1) hx hb dX13_isText_6 (by decide +kernel) ?_
  refine lv_isub hx hb dX13_isText_7 ?_
  refine zt_i (v := (-1)) (by decide +kernel) ?_
  have hPc := hP.sub (ws' := []) [] rfl
  have hDc := hD.sub (ws' := []) [] (by decide) rfl
  have hKc := hK.sub (tys' := []) [] rfl
  have hFc := va_free (wc := []) hD hS hA [] rfl
  refine va_calli (va_runS (As := [.int p1, .int 0, .int (-1)]) (rest := []) ⟨hx, hb, hml, hown, hts⟩ (c_X13_in_5 l dC dI  s.heap.size p1 hc0 hc1) (va_cwS 3 hts gX13_isText_X13_in rfl rfl rfl (by decide +kernel) ⟨Nat.le_of_ble_eq_true rfl, Nat.le_of_ble_eq_true rfl⟩) ⟨zB_blind, (zPre hPc hDc hKc hS hFc hZ hN)⟩ rfl rfl hl.1 rfl (lv_room (Nat.le_of_ble_eq_true rfl)) dX13_isText_8 ⟨Nat.le_of_ble_eq_true rfl, Nat.le_of_ble_eq_true rfl⟩) hS (fun q _ h => hFc q h) hFc (fun r u t H1 locs ht hvm hw hB hz1 hk1 hS => ?_)
  subst hw
  obtain ⟨hP1, hK1, hD1⟩ := hB
  rw [ht] at hP1
  have hK1 := va_K.moved hvm.symm hK1
  obtain ⟨hP, hD⟩ := va_join (wr := [(q0, .inr (15, [.ref q1, .ref q2, .ref q3, .ref q4, .ref q5, .ref q6, .int 0, .int 1, .ref q7, .int 0, .ref q8, .null, .ref q9, .null, .ref q10, .ref q11, .ref q12, .ref q13, .ref q14, .int 0, .ref q15, .ref q16, .ref q17, .ref q18, .ref q19, .int 0, .int 0]))]) (w1 := []) hP hD [] [0] rfl rfl (by decide) (by decide) hk1 hFc hP1 hD1
  have hK := (hK.sub (tys' := []) [] rfl).app hK1
  generalize H1 = H at hP hS ⊢
  have hP : va_P (dC, dI) vwCl [(q0, .inr (15, [.ref q1, .ref q2, .ref q3, .ref q4, .ref q5, .ref q6, .int 0, .int 1, .ref q7, .int 0, .ref q8, .null, .ref q9, .null, .ref q10, .ref q11, .ref q12, .ref q13, .ref q14, .int 0, .ref q15, .ref q16, .ref q17, .ref q18, .ref q19, .int 0, .int 0]))] H := hP
  have hD : va_D A [(q0, .inr (15, [.ref q1, .ref q2, .ref q3, .ref q4, .ref q5, .ref q6, .int 0, .int 1, .ref q7, .int 0, .ref q8, .null, .ref q9, .null, .ref q10, .ref q11, .ref q12, .ref q13, .ref q14, .int 0, .ref q15, .ref q16, .ref q17, .ref q18, .ref q19, .int 0, .int 0]))] := hD
  have hK : va_K (dC, dI) vwCl [] s := hK
  refine W.widen (k := 0) (n := 0) (Nat.le_of_ble_eq_true rfl) (Nat.le_of_ble_eq_true rfl) ?_
  refine lv_if_eq (tgt := 27) hx hb dX13_isText_11 (by decide) (fun _ => ?_) (fun h9 => absurd (show (0 : Int32) = (0 : Int32) by decide +kernel) h9)
  refine lv_iconst (v := 0) hx hb dX13_isText_27 (by decide +kernel) ?_
  have hP9 := hP.sub (ws' := [(q0, .inr (15, [.ref q1, .ref q2, .ref q3, .ref q4, .ref q5, .ref q6, .int 0, .int 1, .ref q7, .int 0, .ref q8, .null, .ref q9, .null, .ref q10, .ref q11, .ref q12, .ref q13, .ref q14, .int 0, .ref q15, .ref q16, .ref q17, .ref q18, .ref q19, .int 0, .int 0]))]) [0] rfl
  have hD9 := hD.sub (ws' := [(q0, .inr (15, [.ref q1, .ref q2, .ref q3, .ref q4, .ref q5, .ref q6, .int 0, .int 1, .ref q7, .int 0, .ref q8, .null, .ref q9, .null, .ref q10, .ref q11, .ref q12, .ref q13, .ref q14, .int 0, .ref q15, .ref q16, .ref q17, .ref q18, .ref q19, .int 0, .int 0]))]) [0] (by decide) rfl
  have hK9 := hK.sub (tys' := []) [] rfl
  exact W.zret (v := 0) hx hb hr (by decide +kernel) (fun t ht hW => ⟨⟨0, (), rfl, rfl, ⟨by rw [ht]; exact hP9, va_K.moved hW.alike hK9, hD9⟩⟩, hS.F ht⟩) hS.2.2 dX13_isText_28
set_option maxHeartbeats 4000000 in
set_option maxRecDepth 100000 in
theorem c_X13_revise_2 (l : Launch) (dC : Nat → ClassId) (dI : Nat → Nat → Nat) (q0 q1 q2 q3 q4 q5 q6 q7 q8 q9 q10 q11 q12 q13 q14 q15 q16 q17 q18 q19 : Nat) (sz : Nat) (p1 : Int32) (hc0 : ¬ p1 < 0) (hc1 : ((-1) : Int32) < p1) : Met l yX13_revise wsX13_revise ({ frames := 2, cells := 0, slots := 0, locals := 43 }) (va_Pc [.ref q0, .int p1] (zB (dC, dI) [] [(q0, .inr (15, [.ref q1, .ref q2, .ref q3, .ref q4, .ref q5, .ref q6, .int 0, .int 1, .ref q7, .int 0, .ref q8, .null, .ref q9, .null, .ref q10, .ref q11, .ref q12, .ref q13, .ref q14, .int 0, .ref q15, .ref q16, .ref q17, .ref q18, .ref q19, .int 0, .int 0]))] sz)) (va_Qi (fun (r : Int32) (_ : Unit) => 0 = r) (fun _ t => zE (dC, dI) [] [(q0, .inr (15, [.ref q1, .ref q2, .ref q3, .ref q4, .ref q5, .ref q6, .int 0, .int 1, .ref q7, .int 0, .ref q8, .null, .ref q9, .null, .ref q10, .ref q11, .ref q12, .ref q13, .ref q14, .int 1, .ref q15, .ref q16, .ref q17, .ref q18, .ref q19, .int 0, .int 0]))] (va_A [(q0, .inr (15, [.ref q1, .ref q2, .ref q3, .ref q4, .ref q5, .ref q6, .int 0, .int 1, .ref q7, .int 0, .ref q8, .null, .ref q9, .null, .ref q10, .ref q11, .ref q12, .ref q13, .ref q14, .int 0, .ref q15, .ref q16, .ref q17, .ref q18, .ref q19, .int 0, .int 0]))] sz) t) (va_A [(q0, .inr (15, [.ref q1, .ref q2, .ref q3, .ref q4, .ref q5, .ref q6, .int 0, .int 1, .ref q7, .int 0, .ref q8, .null, .ref q9, .null, .ref q10, .ref q11, .ref q12, .ref q13, .ref q14, .int 0, .ref q15, .ref q16, .ref q17, .ref q18, .ref q19, .int 0, .int 0]))] sz)) 0 0 (va_A [(q0, .inr (15, [.ref q1, .ref q2, .ref q3, .ref q4, .ref q5, .ref q6, .int 0, .int 1, .ref q7, .int 0, .ref q8, .null, .ref q9, .null, .ref q10, .ref q11, .ref q12, .ref q13, .ref q14, .int 0, .ref q15, .ref q16, .ref q17, .ref q18, .ref q19, .int 0, .int 0]))] sz) := by
  refine Met.ofW (cc := cX13_revise) (maxL := 2) (ret := (some .int)) (by decide) rfl ?_
  intro p e s m args below meth c s₁ B hml hv
  obtain ⟨rfl, hsz, hP, hK, hD0, hZ, hN⟩ := hv
  have hx := B.exec
  have hb := B.bytes
  have hr := B.returns
  have hts := atoms_spec (ws := wsX13_revise) B.pre
  have hown : s.vm.findClass RX13 = some m.cls := findClass_of_methodNamed B.named
  have hlocks := B.notSynchronized
  subst hsz
  have hD := hD0.self (sz := s.heap.size)
  generalize hAe : va_A [(q0, .inr (15, [.ref q1, .ref q2, .ref q3, .ref q4, .ref q5, .ref q6, .int 0, .int 1, .ref q7, .int 0, .ref q8, .null, .ref q9, .null, .ref q10, .ref q11, .ref q12, .ref q13, .ref q14, .int 0, .ref q15, .ref q16, .ref q17, .ref q18, .ref q19, .int 0, .int 0]))] s.heap.size = A at hD hZ ⊢
  have hA : ∀ q : Nat, s.heap.size ≤ q → A q := fun q h => by rw [← hAe]; exact Or.inr h
  have hS : va_S A s.heap s.heap [] := va_S.rf
  have hP : va_P (dC, dI) vwCl [(q0, .inr (15, [.ref q1, .ref q2, .ref q3, .ref q4, .ref q5, .ref q6, .int 0, .int 1, .ref q7, .int 0, .ref q8, .null, .ref q9, .null, .ref q10, .ref q11, .ref q12, .ref q13, .ref q14, .int 0, .ref q15, .ref q16, .ref q17, .ref q18, .ref q19, .int 0, .int 0]))] s.heap := hP
  have hl := lv_entry ([.ref q0, .int p1]) (n := 2) (Nat.le_of_ble_eq_true rfl)
  rw [lg_entry_eq]
  generalize (lg_sl ([.ref q0, .int p1]) ++ List.replicate (2 - (lg_sl ([.ref q0, .int p1])).length) Slot.unset).toArray = ls at hl ⊢
  have hl : lv_has ls 2 [(0, .ref q0), (1, .int p1)] := hl
  refine lv_aload_n hx hb dX13_revise_0 rfl (lv_at hl 0 rfl) ?_
  refine lv_aload_n hx hb dX13_revise_1 rfl (lv_at hl 0 rfl) ?_
  refine lv_iload_n hx hb dX13_revise_2 rfl (lv_at hl 1 rfl) ?_
  have hPc := hP.sub (ws' := [(q0, .inr (15, [.ref q1, .ref q2, .ref q3, .ref q4, .ref q5, .ref q6, .int 0, .int 1, .ref q7, .int 0, .ref q8, .null, .ref q9, .null, .ref q10, .ref q11, .ref q12, .ref q13, .ref q14, .int 0, .ref q15, .ref q16, .ref q17, .ref q18, .ref q19, .int 0, .int 0]))]) [0] rfl
  have hDc := hD.sub (ws' := [(q0, .inr (15, [.ref q1, .ref q2, .ref q3, .ref q4, .ref q5, .ref q6, .int 0, .int 1, .ref q7, .int 0, .ref q8, .null, .ref q9, .null, .ref q10, .ref q11, .ref q12, .ref q13, .ref q14, .int 0, .ref q15, .ref q16, .ref q17, .ref q18, .ref q19, .int 0, .int 0]))]) [0] (by decide) rfl
  have hKc := hK.sub (tys' := []) [] rfl
  have hFc := va_free (wc := [(q0, .inr (15, [.ref q1, .ref q2, .ref q3, .ref q4, .ref q5, .ref q6, .int 0, .int 1, .ref q7, .int 0, .ref q8, .null, .ref q9, .null, .ref q10, .ref q11, .ref q12, .ref q13, .ref q14, .int 0, .ref q15, .ref q16, .ref q17, .ref q18, .ref q19, .int 0, .int 0]))]) hD hS hA [0] rfl
  refine va_calli (va_runV (As := [.int p1]) (rest := [.ref q0]) ⟨hx, hb, hml, hown, hts⟩ (c_X13_isText_2 l dC dI q0 q1 q2 q3 q4 q5 q6 q7 q8 q9 q10 q11 q12 q13 q14 q15 q16 q17 q18 q19 s.heap.size p1 hc0 hc1) (cwV 1 hts gX13_revise_X13_isText rfl rfl rfl (by decide +kernel) ⟨Nat.le_of_ble_eq_true rfl, Nat.le_of_ble_eq_true rfl⟩) ⟨zB_blind, va_recv hK hP (ci := 15) (q0 := 0) rfl rfl, (zPre hPc hDc hKc hS hFc hZ hN)⟩ rfl rfl hl.1 rfl (lv_room (Nat.le_of_ble_eq_true rfl)) dX13_revise_3 ⟨Nat.le_of_ble_eq_true rfl, Nat.le_of_ble_eq_true rfl⟩) hS (fun q _ h => hFc q h) hFc (fun r u t H1 locs ht hvm hw hB hz1 hk1 hS => ?_)
  subst hw
  obtain ⟨hP1, hK1, hD1⟩ := hB
  rw [ht] at hP1
  have hK1 := va_K.moved hvm.symm hK1
  obtain ⟨hP, hD⟩ := va_join (wr := []) (w1 := [(q0, .inr (15, [.ref q1, .ref q2, .ref q3, .ref q4, .ref q5, .ref q6, .int 0, .int 1, .ref q7, .int 0, .ref q8, .null, .ref q9, .null, .ref q10, .ref q11, .ref q12, .ref q13, .ref q14, .int 0, .ref q15, .ref q16, .ref q17, .ref q18, .ref q19, .int 0, .int 0]))]) hP hD [0] [] rfl rfl (by decide) (by decide) hk1 hFc hP1 hD1
  have hK := (hK.sub (tys' := []) [] rfl).app hK1
  generalize H1 = H at hP hS ⊢
  have hP : va_P (dC, dI) vwCl [(q0, .inr (15, [.ref q1, .ref q2, .ref q3, .ref q4, .ref q5, .ref q6, .int 0, .int 1, .ref q7, .int 0, .ref q8, .null, .ref q9, .null, .ref q10, .ref q11, .ref q12, .ref q13, .ref q14, .int 0, .ref q15, .ref q16, .ref q17, .ref q18, .ref q19, .int 0, .int 0]))] H := hP
  have hD : va_D A [(q0, .inr (15, [.ref q1, .ref q2, .ref q3, .ref q4, .ref q5, .ref q6, .int 0, .int 1, .ref q7, .int 0, .ref q8, .null, .ref q9, .null, .ref q10, .ref q11, .ref q12, .ref q13, .ref q14, .int 0, .ref q15, .ref q16, .ref q17, .ref q18, .ref q19, .int 0, .int 0]))] := hD
  have hK : va_K (dC, dI) vwCl [] s := hK
  refine W.widen (k := 0) (n := 0) (Nat.le_of_ble_eq_true rfl) (Nat.le_of_ble_eq_true rfl) ?_
  refine lv_iconst (v := 1) hx hb dX13_revise_6 (by decide +kernel) ?_
  have hPc := hP.sub (ws' := [(q0, .inr (15, [.ref q1, .ref q2, .ref q3, .ref q4, .ref q5, .ref q6, .int 0, .int 1, .ref q7, .int 0, .ref q8, .null, .ref q9, .null, .ref q10, .ref q11, .ref q12, .ref q13, .ref q14, .int 0, .ref q15, .ref q16, .ref q17, .ref q18, .ref q19, .int 0, .int 0]))]) [0] rfl
  have hDc := hD.sub (ws' := [(q0, .inr (15, [.ref q1, .ref q2, .ref q3, .ref q4, .ref q5, .ref q6, .int 0, .int 1, .ref q7, .int 0, .ref q8, .null, .ref q9, .null, .ref q10, .ref q11, .ref q12, .ref q13, .ref q14, .int 0, .ref q15, .ref q16, .ref q17, .ref q18, .ref q19, .int 0, .int 0]))]) [0] (by decide) rfl
  have hKc := hK.sub (tys' := []) [] rfl
  have hFc := va_free (wc := [(q0, .inr (15, [.ref q1, .ref q2, .ref q3, .ref q4, .ref q5, .ref q6, .int 0, .int 1, .ref q7, .int 0, .ref q8, .null, .ref q9, .null, .ref q10, .ref q11, .ref q12, .ref q13, .ref q14, .int 0, .ref q15, .ref q16, .ref q17, .ref q18, .ref q19, .int 0, .int 0]))]) hD hS hA [0] rfl
  refine va_calli (va_runV (As := [.int 0, .int 1]) (rest := []) ⟨hx, hb, hml, hown, hts⟩ (c_X13_no l dC dI q0 q1 q2 q3 q4 q5 q6 q7 q8 q9 q10 q11 q12 q13 q14 q15 q16 q17 q18 q19 H.size  ) (cwV 2 hts gX13_revise_X13_no rfl rfl rfl (by decide +kernel) ⟨Nat.le_of_ble_eq_true rfl, Nat.le_of_ble_eq_true rfl⟩) ⟨zB_blind, va_recv hK hP (ci := 15) (q0 := 0) rfl rfl, (zPre hPc hDc hKc hS hFc hZ hN)⟩ rfl rfl hl.1 rfl (lv_room (Nat.le_of_ble_eq_true rfl)) dX13_revise_7 ⟨Nat.le_of_ble_eq_true rfl, Nat.le_of_ble_eq_true rfl⟩) hS (fun q _ h => hFc q h) hFc (fun r u t H1 locs ht hvm hw hB hz1 hk1 hS => ?_)
  subst hw
  obtain ⟨hP1, hK1, hD1⟩ := hB
  rw [ht] at hP1
  have hK1 := va_K.moved hvm.symm hK1
  obtain ⟨hP, hD⟩ := va_join (wr := []) (w1 := [(q0, .inr (15, [.ref q1, .ref q2, .ref q3, .ref q4, .ref q5, .ref q6, .int 0, .int 1, .ref q7, .int 0, .ref q8, .null, .ref q9, .null, .ref q10, .ref q11, .ref q12, .ref q13, .ref q14, .int 1, .ref q15, .ref q16, .ref q17, .ref q18, .ref q19, .int 0, .int 0]))]) hP hD [0] [] rfl rfl (by decide) (by decide) hk1 hFc hP1 hD1
  have hK := (hK.sub (tys' := []) [] rfl).app hK1
  generalize H1 = H at hP hS ⊢
  have hP : va_P (dC, dI) vwCl [(q0, .inr (15, [.ref q1, .ref q2, .ref q3, .ref q4, .ref q5, .ref q6, .int 0, .int 1, .ref q7, .int 0, .ref q8, .null, .ref q9, .null, .ref q10, .ref q11, .ref q12, .ref q13, .ref q14, .int 1, .ref q15, .ref q16, .ref q17, .ref q18, .ref q19, .int 0, .int 0]))] H := hP
  have hD : va_D A [(q0, .inr (15, [.ref q1, .ref q2, .ref q3, .ref q4, .ref q5, .ref q6, .int 0, .int 1, .ref q7, .int 0, .ref q8, .null, .ref q9, .null, .ref q10, .ref q11, .ref q12, .ref q13, .ref q14, .int 1, .ref q15, .ref q16, .ref q17, .ref q18, .ref q19, .int 0, .int 0]))] := hD
  have hK : va_K (dC, dI) vwCl [] s := hK
  refine W.widen (k := 0) (n := 0) (Nat.le_of_ble_eq_true rfl) (Nat.le_of_ble_eq_true rfl) ?_
  refine lv_if_eq (tgt := 15) hx hb dX13_revise_10 (by decide) (fun h9 => absurd h9 (show ¬ (1 : Int32) = (0 : Int32) by decide +kernel)) (fun _ => ?_)
  refine lv_iconst (v := 0) hx hb dX13_revise_13 (by decide +kernel) ?_
  have hP9 := hP.sub (ws' := [(q0, .inr (15, [.ref q1, .ref q2, .ref q3, .ref q4, .ref q5, .ref q6, .int 0, .int 1, .ref q7, .int 0, .ref q8, .null, .ref q9, .null, .ref q10, .ref q11, .ref q12, .ref q13, .ref q14, .int 1, .ref q15, .ref q16, .ref q17, .ref q18, .ref q19, .int 0, .int 0]))]) [0] rfl
  have hD9 := hD.sub (ws' := [(q0, .inr (15, [.ref q1, .ref q2, .ref q3, .ref q4, .ref q5, .ref q6, .int 0, .int 1, .ref q7, .int 0, .ref q8, .null, .ref q9, .null, .ref q10, .ref q11, .ref q12, .ref q13, .ref q14, .int 1, .ref q15, .ref q16, .ref q17, .ref q18, .ref q19, .int 0, .int 0]))]) [0] (by decide) rfl
  have hK9 := hK.sub (tys' := []) [] rfl
  exact W.iret (v := 0) hx hb hr (fun t ht hW => ⟨⟨0, (), rfl, rfl, ⟨by rw [ht]; exact hP9, va_K.moved hW.alike hK9, hD9⟩⟩, hS.F ht⟩) hS.2.2 dX13_revise_14
set_option maxHeartbeats 4000000 in
set_option maxRecDepth 100000 in
theorem c_X11_drop (l : Launch) (hfl : l.stackTraces = false) (dC : Nat → ClassId) (dI : Nat → Nat → Nat) (q0 q1 q2 q3 q4 q5 q6 q7 q8 q9 q10 q11 q12 q13 q14 : Nat) (sz : Nat) (p1 : Int32) (hc0 : p1 < 0) : vx_Met l yX11_drop wsX11_drop ({ frames := 7, cells := 1, slots := 6, locals := 112 }) (va_Pc [.ref q0, .int p1] (zB (dC, dI) [] [(q0, .inr (13, [.ref q1, .ref q2, .ref q3, .ref q4, .ref q5, .ref q6, .ref q7, .ref q8, .int 0, .ref q9, .ref q10, .ref q11, .ref q12, .ref q13])), (q2, .inr (11, [.ref q14, .int 0, .int 1]))] sz)) (va_Qi (fun (_ : Int32) (_ : Unit) => False) (fun _ _ => True) (va_A [(q0, .inr (13, [.ref q1, .ref q2, .ref q3, .ref q4, .ref q5, .ref q6, .ref q7, .ref q8, .int 0, .ref q9, .ref q10, .ref q11, .ref q12, .ref q13])), (q2, .inr (11, [.ref q14, .int 0, .int 1]))] sz)) (vx_X (fun (_ : Unit) => True) (fun E _ _ => "java/util/NoSuchElementException" = E) (va_A [(q0, .inr (13, [.ref q1, .ref q2, .ref q3, .ref q4, .ref q5, .ref q6, .ref q7, .ref q8, .int 0, .ref q9, .ref q10, .ref q11, .ref q12, .ref q13])), (q2, .inr (11, [.ref q14, .int 0, .int 1]))] sz)) 1 6 (va_A [(q0, .inr (13, [.ref q1, .ref q2, .ref q3, .ref q4, .ref q5, .ref q6, .ref q7, .ref q8, .int 0, .ref q9, .ref q10, .ref q11, .ref q12, .ref q13])), (q2, .inr (11, [.ref q14, .int 0, .int 1]))] sz) := by
  refine vx_ofW (cc := cX11_drop) (maxL := 2) (ret := (some .int)) (by decide) rfl ?_
  intro p e s m args below meth c s₁ B hml hnoex hv
  obtain ⟨rfl, hsz, hP, hK, hD0, hZ, hN⟩ := hv
  have hx := B.exec
  have hb := B.bytes
  have hr := B.returns
  have hts := atoms_spec (ws := wsX11_drop) B.pre
  have hown : s.vm.findClass RX11 = some m.cls := findClass_of_methodNamed B.named
  have hlocks := B.notSynchronized
  subst hsz
  have hD := hD0.self (sz := s.heap.size)
  generalize hAe : va_A [(q0, .inr (13, [.ref q1, .ref q2, .ref q3, .ref q4, .ref q5, .ref q6, .ref q7, .ref q8, .int 0, .ref q9, .ref q10, .ref q11, .ref q12, .ref q13])), (q2, .inr (11, [.ref q14, .int 0, .int 1]))] s.heap.size = A at hD hZ ⊢
  have hA : ∀ q : Nat, s.heap.size ≤ q → A q := fun q h => by rw [← hAe]; exact Or.inr h
  have hS : va_S A s.heap s.heap [] := va_S.rf
  have hP : va_P (dC, dI) vwCl [(q0, .inr (13, [.ref q1, .ref q2, .ref q3, .ref q4, .ref q5, .ref q6, .ref q7, .ref q8, .int 0, .ref q9, .ref q10, .ref q11, .ref q12, .ref q13])), (q2, .inr (11, [.ref q14, .int 0, .int 1]))] s.heap := hP
  have hl := lv_entry ([.ref q0, .int p1]) (n := 2) (Nat.le_of_ble_eq_true rfl)
  rw [lg_entry_eq]
  generalize (lg_sl ([.ref q0, .int p1]) ++ List.replicate (2 - (lg_sl ([.ref q0, .int p1])).length) Slot.unset).toArray = ls at hl ⊢
  have hl : lv_has ls 2 [(0, .ref q0), (1, .int p1)] := hl
  refine lv_aload_n hx hb dX11_drop_0 rfl (lv_at hl 0 rfl) ?_
  refine lv_iload_n hx hb dX11_drop_1 rfl (lv_at hl 1 rfl) ?_
  have hPc := hP.sub (ws' := [(q0, .inr (13, [.ref q1, .ref q2, .ref q3, .ref q4, .ref q5, .ref q6, .ref q7, .ref q8, .int 0, .ref q9, .ref q10, .ref q11, .ref q12, .ref q13])), (q2, .inr (11, [.ref q14, .int 0, .int 1]))]) [0, 1] rfl
  have hDc := hD.sub (ws' := [(q0, .inr (13, [.ref q1, .ref q2, .ref q3, .ref q4, .ref q5, .ref q6, .ref q7, .ref q8, .int 0, .ref q9, .ref q10, .ref q11, .ref q12, .ref q13])), (q2, .inr (11, [.ref q14, .int 0, .int 1]))]) [0, 1] (by decide) rfl
  have hKc := hK.sub (tys' := []) [] rfl
  have hFc := va_free (wc := [(q0, .inr (13, [.ref q1, .ref q2, .ref q3, .ref q4, .ref q5, .ref q6, .ref q7, .ref q8, .int 0, .ref q9, .ref q10, .ref q11, .ref q12, .ref q13])), (q2, .inr (11, [.ref q14, .int 0, .int 1]))]) hD hS hA [0, 1] rfl
  refine vx_callq (vx_runV (As := [.int p1]) (rest := []) ⟨hx, hb, hml, hown, hts⟩ (c_X11_textOf l hfl dC dI q0 q1 q2 q3 q4 q5 q6 q7 q8 q9 q10 q11 q12 q13 q14 s.heap.size p1 hc0) (cwV 1 hts gX11_drop_X11_textOf rfl rfl rfl (by decide +kernel) ⟨Nat.le_of_ble_eq_true rfl, Nat.le_of_ble_eq_true rfl⟩) ⟨zB_blind, va_recv hK hP (ci := 13) (q0 := 0) rfl rfl, (zPre hPc hDc hKc hS hFc hZ hN)⟩ rfl rfl hl.1 rfl (lv_room (Nat.le_of_ble_eq_true rfl)) dX11_drop_2 ⟨Nat.le_of_ble_eq_true rfl, Nat.le_of_ble_eq_true rfl⟩) hS (fun q _ h => hFc q h) hFc (fun q _ h => hFc q h) (fun E ce qx u t H1 locs1 ht hvm hpx hBX hz1 hk1 hS hq9 hv9 hcl9 => ?_) (fun r u t H1 locs1 _ _ hw => hw.elim)
  subst hBX
  exact vx_out (fun x h => ((hnoex x h).elim)) hlocks hq9 hv9 hcl9 (fun t h1 _ => ⟨(), trivial, rfl, hS.F h1⟩) hS.2.2 (Nat.le_refl _) (Nat.le_refl _)
set_option maxHeartbeats 4000000 in
set_option maxRecDepth 100000 in
theorem c_L_drop (l : Launch) (hfl : l.stackTraces = false) (dC : Nat → ClassId) (dI : Nat → Nat → Nat) (q0 q1 q2 q3 q4 q5 q6 q7 q8 q9 q10 q11 q12 q13 q14 q15 : Nat) (sz : Nat) (p1 : Int32) (hc0 : p1 < 0) : Met l yL_drop wsL_drop ({ frames := 8, cells := 1, slots := 6, locals := 133 }) (va_Pc [.ref q0, .int p1, .ref q1] (zB (dC, dI) [] [(q0, .inr (13, [.ref q2, .ref q3, .ref q4, .ref q5, .ref q6, .ref q7, .ref q8, .ref q9, .int 0, .ref q10, .ref q11, .ref q12, .ref q13, .ref q14])), (q3, .inr (11, [.ref q15, .int 0, .int 1]))] sz)) (va_Qi (fun (r : Int32) (_ : Unit) => 1 = r) (fun _ t => zE (dC, dI) [] [] (va_A [(q0, .inr (13, [.ref q2, .ref q3, .ref q4, .ref q5, .ref q6, .ref q7, .ref q8, .ref q9, .int 0, .ref q10, .ref q11, .ref q12, .ref q13, .ref q14])), (q3, .inr (11, [.ref q15, .int 0, .int 1]))] sz) t) (va_A [(q0, .inr (13, [.ref q2, .ref q3, .ref q4, .ref q5, .ref q6, .ref q7, .ref q8, .ref q9, .int 0, .ref q10, .ref q11, .ref q12, .ref q13, .ref q14])), (q3, .inr (11, [.ref q15, .int 0, .int 1]))] sz)) 1 6 (va_A [(q0, .inr (13, [.ref q2, .ref q3, .ref q4, .ref q5, .ref q6, .ref q7, .ref q8, .ref q9, .int 0, .ref q10, .ref q11, .ref q12, .ref q13, .ref q14])), (q3, .inr (11, [.ref q15, .int 0, .int 1]))] sz) := by
  refine va_MetW (cc := cL_drop) (maxL := 4) (ret := (some .int)) (by decide) rfl ?_
  intro p e s m args below meth c s₁ B hml hv
  obtain ⟨rfl, hsz, hP, hK, hD0, hZ, hN⟩ := hv
  have hx := B.exec
  have hb := B.bytes
  have hr := B.returns
  have hts := atoms_spec (ws := wsL_drop) B.pre
  have hown : s.vm.findClass RL = some m.cls := findClass_of_methodNamed B.named
  have hlocks := B.notSynchronized
  have htab := vx_table (x := yL_drop) B (hts (.codeWith yL_drop cL_drop 4 (some .int) [(0, 9, 12, 31)]) List.mem_cons_self)
  subst hsz
  have hD := hD0.self (sz := s.heap.size)
  generalize hAe : va_A [(q0, .inr (13, [.ref q2, .ref q3, .ref q4, .ref q5, .ref q6, .ref q7, .ref q8, .ref q9, .int 0, .ref q10, .ref q11, .ref q12, .ref q13, .ref q14])), (q3, .inr (11, [.ref q15, .int 0, .int 1]))] s.heap.size = A at hD hZ ⊢
  have hA : ∀ q : Nat, s.heap.size ≤ q → A q := fun q h => by rw [← hAe]; exact Or.inr h
  have hS : va_S A s.heap s.heap [] := va_S.rf
  have hP : va_P (dC, dI) vwCl [(q0, .inr (13, [.ref q2, .ref q3, .ref q4, .ref q5, .ref q6, .ref q7, .ref q8, .ref q9, .int 0, .ref q10, .ref q11, .ref q12, .ref q13, .ref q14])), (q3, .inr (11, [.ref q15, .int 0, .int 1]))] s.heap := hP
  have hl := lv_entry ([.ref q0, .int p1, .ref q1]) (n := 4) (Nat.le_of_ble_eq_true rfl)
  rw [lg_entry_eq]
  generalize (lg_sl ([.ref q0, .int p1, .ref q1]) ++ List.replicate (4 - (lg_sl ([.ref q0, .int p1, .ref q1])).length) Slot.unset).toArray = ls at hl ⊢
  have hl : lv_has ls 4 [(0, .ref q0), (1, .int p1), (2, .ref q1)] := hl
  refine lv_aload_n hx hb dL_drop_0 rfl (lv_at hl 2 rfl) ?_
  refine lv_iconst (v := 0) hx hb dL_drop_1 (by decide +kernel) ?_
  refine lv_aload_n hx hb dL_drop_2 rfl (lv_at hl 0 rfl) ?_
  refine lv_iload_n hx hb dL_drop_3 rfl (lv_at hl 1 rfl) ?_
  have hPc := hP.sub (ws' := [(q0, .inr (13, [.ref q2, .ref q3, .ref q4, .ref q5, .ref q6, .ref q7, .ref q8, .ref q9, .int 0, .ref q10, .ref q11, .ref q12, .ref q13, .ref q14])), (q3, .inr (11, [.ref q15, .int 0, .int 1]))]) [0, 1] rfl
  have hDc := hD.sub (ws' := [(q0, .inr (13, [.ref q2, .ref q3, .ref q4, .ref q5, .ref q6, .ref q7, .ref q8, .ref q9, .int 0, .ref q10, .ref q11, .ref q12, .ref q13, .ref q14])), (q3, .inr (11, [.ref q15, .int 0, .int 1]))]) [0, 1] (by decide) rfl
  have hKc := hK.sub (tys' := []) [] rfl
  have hFc := va_free (wc := [(q0, .inr (13, [.ref q2, .ref q3, .ref q4, .ref q5, .ref q6, .ref q7, .ref q8, .ref q9, .int 0, .ref q10, .ref q11, .ref q12, .ref q13, .ref q14])), (q3, .inr (11, [.ref q15, .int 0, .int 1]))]) hD hS hA [0, 1] rfl
  refine vx_calli (vx_runV (As := [.int p1]) (rest := [.int 0, .ref q1]) ⟨hx, hb, hml, hown, hts⟩ (c_X11_drop l hfl dC dI q0 q2 q3 q4 q5 q6 q7 q8 q9 q10 q11 q12 q13 q14 q15 s.heap.size p1 hc0) (cwV 1 hts gL_drop_X11_drop rfl rfl rfl (by decide +kernel) ⟨Nat.le_of_ble_eq_true rfl, Nat.le_of_ble_eq_true rfl⟩) ⟨zB_blind, va_recv hK hP (ci := 13) (q0 := 0) rfl rfl, (zPre hPc hDc hKc hS hFc hZ hN)⟩ rfl rfl hl.1 rfl (lv_room (Nat.le_of_ble_eq_true rfl)) dL_drop_4 ⟨Nat.le_of_ble_eq_true rfl, Nat.le_of_ble_eq_true rfl⟩) hS (fun q _ h => hFc q h) hFc (fun q _ h => hFc q h) (fun E ce qx u t H1 locs1 ht hvm hpx hBX hz1 hk1 hS hq9 hv9 hcl9 => ?_) (fun r u t H1 locs1 _ _ hw => hw.elim)
  subst hBX
  refine vx_catch (name := "java/util/NoSuchElementException") hown [] ⟨0, 9, 12, 31⟩ [] (by rw [htab]; rfl) (fun z h => absurd h List.not_mem_nil) rfl (by decide) (hts (.classLink RL 31 "java/util/NoSuchElementException") (by decide +kernel)) (va_Nw.use rfl (hN.2.1 "java/util/NoSuchElementException" (by decide +kernel))) hq9 hv9 hcl9 ?_
  generalize H1 = H at hS ⊢
  refine W.widen (k := 1) (n := 6) (Nat.le_of_ble_eq_true rfl) (Nat.le_of_ble_eq_true rfl) ?_
  have hP : va_P (dC, dI) vwCl [] H := zP_nil
  have hD : va_D A [] := zD_nil
  have hK := hK.sub (tys' := []) [] rfl
  refine lv_astore_n (lv' := [(3, .ref qx), (0, .ref q0), (1, .int p1), (2, .ref q1)]) hx hb dL_drop_12 rfl hl (by decide) rfl (fun ls hl => ?_)
  refine lv_iconst (v := 1) hx hb dL_drop_13 (by decide +kernel) ?_
  have hP9 := hP.sub (ws' := []) [] rfl
  have hD9 := hD.sub (ws' := []) [] (by decide) rfl
  have hK9 := hK.sub (tys' := []) [] rfl
  exact W.iret (v := 1) hx hb hr (fun t ht hW => ⟨⟨1, (), rfl, rfl, ⟨by rw [ht]; exact hP9, va_K.moved hW.alike hK9, hD9⟩⟩, hS.F ht⟩) hS.2.2 dL_drop_14
set_option maxHeartbeats 4000000 in
set_option maxRecDepth 100000 in
theorem c_X13_drop (l : Launch) (dC : Nat → ClassId) (dI : Nat → Nat → Nat) (q0 q1 q2 q3 q4 q5 q6 q7 q8 q9 q10 q11 q12 q13 q14 q15 q16 q17 q18 q19 : Nat) (sz : Nat) (p1 : Int32) (hc0 : p1 < 0) : Met l yX13_drop wsX13_drop ({ frames := 2, cells := 0, slots := 0, locals := 43 }) (va_Pc [.ref q0, .int p1] (zB (dC, dI) [] [(q0, .inr (15, [.ref q1, .ref q2, .ref q3, .ref q4, .ref q5, .ref q6, .int 0, .int 1, .ref q7, .int 0, .ref q8, .null, .ref q9, .null, .ref q10, .ref q11, .ref q12, .ref q13, .ref q14, .int 0, .ref q15, .ref q16, .ref q17, .ref q18, .ref q19, .int 0, .int 0]))] sz)) (va_Qi (fun (r : Int32) (_ : Unit) => 0 = r) (fun _ t => zE (dC, dI) [] [(q0, .inr (15, [.ref q1, .ref q2, .ref q3, .ref q4, .ref q5, .ref q6, .int 0, .int 1, .ref q7, .int 0, .ref q8, .null, .ref q9, .null, .ref q10, .ref q11, .ref q12, .ref q13, .ref q14, .int 1, .ref q15, .ref q16, .ref q17, .ref q18, .ref q19, .int 0, .int 0]))] (va_A [(q0, .inr (15, [.ref q1, .ref q2, .ref q3, .ref q4, .ref q5, .ref q6, .int 0, .int 1, .ref q7, .int 0, .ref q8, .null, .ref q9, .null, .ref q10, .ref q11, .ref q12, .ref q13, .ref q14, .int 0, .ref q15, .ref q16, .ref q17, .ref q18, .ref q19, .int 0, .int 0]))] sz) t) (va_A [(q0, .inr (15, [.ref q1, .ref q2, .ref q3, .ref q4, .ref q5, .ref q6, .int 0, .int 1, .ref q7, .int 0, .ref q8, .null, .ref q9, .null, .ref q10, .ref q11, .ref q12, .ref q13, .ref q14, .int 0, .ref q15, .ref q16, .ref q17, .ref q18, .ref q19, .int 0, .int 0]))] sz)) 0 0 (va_A [(q0, .inr (15, [.ref q1, .ref q2, .ref q3, .ref q4, .ref q5, .ref q6, .int 0, .int 1, .ref q7, .int 0, .ref q8, .null, .ref q9, .null, .ref q10, .ref q11, .ref q12, .ref q13, .ref q14, .int 0, .ref q15, .ref q16, .ref q17, .ref q18, .ref q19, .int 0, .int 0]))] sz) := by
  refine Met.ofW (cc := cX13_drop) (maxL := 2) (ret := (some .int)) (by decide) rfl ?_
  intro p e s m args below meth c s₁ B hml hv
  obtain ⟨rfl, hsz, hP, hK, hD0, hZ, hN⟩ := hv
  have hx := B.exec
  have hb := B.bytes
  have hr := B.returns
  have hts := atoms_spec (ws := wsX13_drop) B.pre
  have hown : s.vm.findClass RX13 = some m.cls := findClass_of_methodNamed B.named
  have hlocks := B.notSynchronized
  subst hsz
  have hD := hD0.self (sz := s.heap.size)
  generalize hAe : va_A [(q0, .inr (15, [.ref q1, .ref q2, .ref q3, .ref q4, .ref q5, .ref q6, .int 0, .int 1, .ref q7, .int 0, .ref q8, .null, .ref q9, .null, .ref q10, .ref q11, .ref q12, .ref q13, .ref q14, .int 0, .ref q15, .ref q16, .ref q17, .ref q18, .ref q19, .int 0, .int 0]))] s.heap.size = A at hD hZ ⊢
  have hA : ∀ q : Nat, s.heap.size ≤ q → A q := fun q h => by rw [← hAe]; exact Or.inr h
  have hS : va_S A s.heap s.heap [] := va_S.rf
  have hP : va_P (dC, dI) vwCl [(q0, .inr (15, [.ref q1, .ref q2, .ref q3, .ref q4, .ref q5, .ref q6, .int 0, .int 1, .ref q7, .int 0, .ref q8, .null, .ref q9, .null, .ref q10, .ref q11, .ref q12, .ref q13, .ref q14, .int 0, .ref q15, .ref q16, .ref q17, .ref q18, .ref q19, .int 0, .int 0]))] s.heap := hP
  have hl := lv_entry ([.ref q0, .int p1]) (n := 2) (Nat.le_of_ble_eq_true rfl)
  rw [lg_entry_eq]
  generalize (lg_sl ([.ref q0, .int p1]) ++ List.replicate (2 - (lg_sl ([.ref q0, .int p1])).length) Slot.unset).toArray = ls at hl ⊢
  have hl : lv_has ls 2 [(0, .ref q0), (1, .int p1)] := hl
  refine lv_aload_n hx hb dX13_drop_0 rfl (lv_at hl 0 rfl) ?_
  refine lv_aload_n hx hb dX13_drop_1 rfl (lv_at hl 0 rfl) ?_
  refine lv_iload_n hx hb dX13_drop_2 rfl (lv_at hl 1 rfl) ?_
  have hPc := hP.sub (ws' := [(q0, .inr (15, [.ref q1, .ref q2, .ref q3, .ref q4, .ref q5, .ref q6, .int 0, .int 1, .ref q7, .int 0, .ref q8, .null, .ref q9, .null, .ref q10, .ref q11, .ref q12, .ref q13, .ref q14, .int 0, .ref q15, .ref q16, .ref q17, .ref q18, .ref q19, .int 0, .int 0]))]) [0] rfl
  have hDc := hD.sub (ws' := [(q0, .inr (15, [.ref q1, .ref q2, .ref q3, .ref q4, .ref q5, .ref q6, .int 0, .int 1, .ref q7, .int 0, .ref q8, .null, .ref q9, .null, .ref q10, .ref q11, .ref q12, .ref q13, .ref q14, .int 0, .ref q15, .ref q16, .ref q17, .ref q18, .ref q19, .int 0, .int 0]))]) [0] (by decide) rfl
  have hKc := hK.sub (tys' := []) [] rfl
  have hFc := va_free (wc := [(q0, .inr (15, [.ref q1, .ref q2, .ref q3, .ref q4, .ref q5, .ref q6, .int 0, .int 1, .ref q7, .int 0, .ref q8, .null, .ref q9, .null, .ref q10, .ref q11, .ref q12, .ref q13, .ref q14, .int 0, .ref q15, .ref q16, .ref q17, .ref q18, .ref q19, .int 0, .int 0]))]) hD hS hA [0] rfl
  refine va_calli (va_runV (As := [.int p1]) (rest := [.ref q0]) ⟨hx, hb, hml, hown, hts⟩ (c_X13_isText l dC dI q0 q1 q2 q3 q4 q5 q6 q7 q8 q9 q10 q11 q12 q13 q14 q15 q16 q17 q18 q19 s.heap.size p1 hc0) (cwV 1 hts gX13_drop_X13_isText rfl rfl rfl (by decide +kernel) ⟨Nat.le_of_ble_eq_true rfl, Nat.le_of_ble_eq_true rfl⟩) ⟨zB_blind, va_recv hK hP (ci := 15) (q0 := 0) rfl rfl, (zPre hPc hDc hKc hS hFc hZ hN)⟩ rfl rfl hl.1 rfl (lv_room (Nat.le_of_ble_eq_true rfl)) dX13_drop_3 ⟨Nat.le_of_ble_eq_true rfl, Nat.le_of_ble_eq_true rfl⟩) hS (fun q _ h => hFc q h) hFc (fun r u t H1 locs ht hvm hw hB hz1 hk1 hS => ?_)
  subst hw
  obtain ⟨hP1, hK1, hD1⟩ := hB
  rw [ht] at hP1
  have hK1 := va_K.moved hvm.symm hK1
  obtain ⟨hP, hD⟩ := va_join (wr := []) (w1 := [(q0, .inr (15, [.ref q1, .ref q2, .ref q3, .ref q4, .ref q5, .ref q6, .int 0, .int 1, .ref q7, .int 0, .ref q8, .null, .ref q9, .null, .ref q10, .ref q11, .ref q12, .ref q13, .ref q14, .int 0, .ref q15, .ref q16, .ref q17, .ref q18, .ref q19, .int 0, .int 0]))]) hP hD [0] [] rfl rfl (by decide) (by decide) hk1 hFc hP1 hD1
  have hK := (hK.sub (tys' := []) [] rfl).app hK1
  generalize H1 = H at hP hS ⊢
  have hP : va_P (dC, dI) vwCl [(q0, .inr (15, [.ref q1, .ref q2, .ref q3, .ref q4, .ref q5, .ref q6, .int 0, .int 1, .ref q7, .int 0, .ref q8, .null, .ref q9, .null, .ref q10, .ref q11, .ref q12, .ref q13, .ref q14, .int 0, .ref q15, .ref q16, .ref q17, .ref q18, .ref q19, .int 0, .int 0]))] H := hP
  have hD : va_D A [(q0, .inr (15, [.ref q1, .ref q2, .ref q3, .ref q4, .ref q5, .ref q6, .int 0, .int 1, .ref q7, .int 0, .ref q8, .null, .ref q9, .null, .ref q10, .ref q11, .ref q12, .ref q13, .ref q14, .int 0, .ref q15, .ref q16, .ref q17, .ref q18, .ref q19, .int 0, .int 0]))] := hD
  have hK : va_K (dC, dI) vwCl [] s := hK
  refine W.widen (k := 0) (n := 0) (Nat.le_of_ble_eq_true rfl) (Nat.le_of_ble_eq_true rfl) ?_
  refine lv_iconst (v := 1) hx hb dX13_drop_6 (by decide +kernel) ?_
  have hPc := hP.sub (ws' := [(q0, .inr (15, [.ref q1, .ref q2, .ref q3, .ref q4, .ref q5, .ref q6, .int 0, .int 1, .ref q7, .int 0, .ref q8, .null, .ref q9, .null, .ref q10, .ref q11, .ref q12, .ref q13, .ref q14, .int 0, .ref q15, .ref q16, .ref q17, .ref q18, .ref q19, .int 0, .int 0]))]) [0] rfl
  have hDc := hD.sub (ws' := [(q0, .inr (15, [.ref q1, .ref q2, .ref q3, .ref q4, .ref q5, .ref q6, .int 0, .int 1, .ref q7, .int 0, .ref q8, .null, .ref q9, .null, .ref q10, .ref q11, .ref q12, .ref q13, .ref q14, .int 0, .ref q15, .ref q16, .ref q17, .ref q18, .ref q19, .int 0, .int 0]))]) [0] (by decide) rfl
  have hKc := hK.sub (tys' := []) [] rfl
  have hFc := va_free (wc := [(q0, .inr (15, [.ref q1, .ref q2, .ref q3, .ref q4, .ref q5, .ref q6, .int 0, .int 1, .ref q7, .int 0, .ref q8, .null, .ref q9, .null, .ref q10, .ref q11, .ref q12, .ref q13, .ref q14, .int 0, .ref q15, .ref q16, .ref q17, .ref q18, .ref q19, .int 0, .int 0]))]) hD hS hA [0] rfl
  refine va_calli (va_runV (As := [.int 0, .int 1]) (rest := []) ⟨hx, hb, hml, hown, hts⟩ (c_X13_no l dC dI q0 q1 q2 q3 q4 q5 q6 q7 q8 q9 q10 q11 q12 q13 q14 q15 q16 q17 q18 q19 H.size  ) (cwV 2 hts gX13_drop_X13_no rfl rfl rfl (by decide +kernel) ⟨Nat.le_of_ble_eq_true rfl, Nat.le_of_ble_eq_true rfl⟩) ⟨zB_blind, va_recv hK hP (ci := 15) (q0 := 0) rfl rfl, (zPre hPc hDc hKc hS hFc hZ hN)⟩ rfl rfl hl.1 rfl (lv_room (Nat.le_of_ble_eq_true rfl)) dX13_drop_7 ⟨Nat.le_of_ble_eq_true rfl, Nat.le_of_ble_eq_true rfl⟩) hS (fun q _ h => hFc q h) hFc (fun r u t H1 locs ht hvm hw hB hz1 hk1 hS => ?_)
  subst hw
  obtain ⟨hP1, hK1, hD1⟩ := hB
  rw [ht] at hP1
  have hK1 := va_K.moved hvm.symm hK1
  obtain ⟨hP, hD⟩ := va_join (wr := []) (w1 := [(q0, .inr (15, [.ref q1, .ref q2, .ref q3, .ref q4, .ref q5, .ref q6, .int 0, .int 1, .ref q7, .int 0, .ref q8, .null, .ref q9, .null, .ref q10, .ref q11, .ref q12, .ref q13, .ref q14, .int 1, .ref q15, .ref q16, .ref q17, .ref q18, .ref q19, .int 0, .int 0]))]) hP hD [0] [] rfl rfl (by decide) (by decide) hk1 hFc hP1 hD1
  have hK := (hK.sub (tys' := []) [] rfl).app hK1
  generalize H1 = H at hP hS ⊢
  have hP : va_P (dC, dI) vwCl [(q0, .inr (15, [.ref q1, .ref q2, .ref q3, .ref q4, .ref q5, .ref q6, .int 0, .int 1, .ref q7, .int 0, .ref q8, .null, .ref q9, .null, .ref q10, .ref q11, .ref q12, .ref q13, .ref q14, .int 1, .ref q15, .ref q16, .ref q17, .ref q18, .ref q19, .int 0, .int 0]))] H := hP
  have hD : va_D A [(q0, .inr (15, [.ref q1, .ref q2, .ref q3, .ref q4, .ref q5, .ref q6, .int 0, .int 1, .ref q7, .int 0, .ref q8, .null, .ref q9, .null, .ref q10, .ref q11, .ref q12, .ref q13, .ref q14, .int 1, .ref q15, .ref q16, .ref q17, .ref q18, .ref q19, .int 0, .int 0]))] := hD
  have hK : va_K (dC, dI) vwCl [] s := hK
  refine W.widen (k := 0) (n := 0) (Nat.le_of_ble_eq_true rfl) (Nat.le_of_ble_eq_true rfl) ?_
  refine lv_if_eq (tgt := 15) hx hb dX13_drop_10 (by decide) (fun h9 => absurd h9 (show ¬ (1 : Int32) = (0 : Int32) by decide +kernel)) (fun _ => ?_)
  refine lv_iconst (v := 0) hx hb dX13_drop_13 (by decide +kernel) ?_
  have hP9 := hP.sub (ws' := [(q0, .inr (15, [.ref q1, .ref q2, .ref q3, .ref q4, .ref q5, .ref q6, .int 0, .int 1, .ref q7, .int 0, .ref q8, .null, .ref q9, .null, .ref q10, .ref q11, .ref q12, .ref q13, .ref q14, .int 1, .ref q15, .ref q16, .ref q17, .ref q18, .ref q19, .int 0, .int 0]))]) [0] rfl
  have hD9 := hD.sub (ws' := [(q0, .inr (15, [.ref q1, .ref q2, .ref q3, .ref q4, .ref q5, .ref q6, .int 0, .int 1, .ref q7, .int 0, .ref q8, .null, .ref q9, .null, .ref q10, .ref q11, .ref q12, .ref q13, .ref q14, .int 1, .ref q15, .ref q16, .ref q17, .ref q18, .ref q19, .int 0, .int 0]))]) [0] (by decide) rfl
  have hK9 := hK.sub (tys' := []) [] rfl
  exact W.iret (v := 0) hx hb hr (fun t ht hW => ⟨⟨0, (), rfl, rfl, ⟨by rw [ht]; exact hP9, va_K.moved hW.alike hK9, hD9⟩⟩, hS.F ht⟩) hS.2.2 dX13_drop_14
set_option maxHeartbeats 4000000 in
set_option maxRecDepth 100000 in
theorem c_X11_drop_2 (l : Launch) (hfl : l.stackTraces = false) (dC : Nat → ClassId) (dI : Nat → Nat → Nat) (q0 q1 q2 q3 q4 q5 q6 q7 q8 q9 q10 q11 q12 q13 q14 : Nat) (sz : Nat) (p1 : Int32) (hc0 : ¬ p1 < 0) (hc1 : (0 : Int32) ≤ p1) : vx_Met l yX11_drop wsX11_drop ({ frames := 7, cells := 1, slots := 6, locals := 112 }) (va_Pc [.ref q0, .int p1] (zB (dC, dI) [] [(q0, .inr (13, [.ref q1, .ref q2, .ref q3, .ref q4, .ref q5, .ref q6, .ref q7, .ref q8, .int 0, .ref q9, .ref q10, .ref q11, .ref q12, .ref q13])), (q2, .inr (11, [.ref q14, .int 0, .int 1]))] sz)) (va_Qi (fun (_ : Int32) (_ : Unit) => False) (fun _ _ => True) (va_A [(q0, .inr (13, [.ref q1, .ref q2, .ref q3, .ref q4, .ref q5, .ref q6, .ref q7, .ref q8, .int 0, .ref q9, .ref q10, .ref q11, .ref q12, .ref q13])), (q2, .inr (11, [.ref q14, .int 0, .int 1]))] sz)) (vx_X (fun (_ : Unit) => True) (fun E _ _ => "java/util/NoSuchElementException" = E) (va_A [(q0, .inr (13, [.ref q1, .ref q2, .ref q3, .ref q4, .ref q5, .ref q6, .ref q7, .ref q8, .int 0, .ref q9, .ref q10, .ref q11, .ref q12, .ref q13])), (q2, .inr (11, [.ref q14, .int 0, .int 1]))] sz)) 1 6 (va_A [(q0, .inr (13, [.ref q1, .ref q2, .ref q3, .ref q4, .ref q5, .ref q6, .ref q7, .ref q8, .int 0, .ref q9, .ref q10, .ref q11, .ref q12, .ref q13])), (q2, .inr (11, [.ref q14, .int 0, .int 1]))] sz) := by
  refine vx_ofW (cc := cX11_drop) (maxL := 2) (ret := (some .int)) (by decide) rfl ?_
  intro p e s m args below meth c s₁ B hml hnoex hv
  obtain ⟨rfl, hsz, hP, hK, hD0, hZ, hN⟩ := hv
  have hx := B.exec
  have hb := B.bytes
  have hr := B.returns
  have hts := atoms_spec (ws := wsX11_drop) B.pre
  have hown : s.vm.findClass RX11 = some m.cls := findClass_of_methodNamed B.named
  have hlocks := B.notSynchronized
  subst hsz
  have hD := hD0.self (sz := s.heap.size)
  generalize hAe : va_A [(q0, .inr (13, [.ref q1, .ref q2, .ref q3, .ref q4, .ref q5, .ref q6, .ref q7, .ref q8, .int 0, .ref q9, .ref q10, .ref q11, .ref q12, .ref q13])), (q2, .inr (11, [.ref q14, .int 0, .int 1]))] s.heap.size = A at hD hZ ⊢
  have hA : ∀ q : Nat, s.heap.size ≤ q → A q := fun q h => by rw [← hAe]; exact Or.inr h
  have hS : va_S A s.heap s.heap [] := va_S.rf
  have hP : va_P (dC, dI) vwCl [(q0, .inr (13, [.ref q1, .ref q2, .ref q3, .ref q4, .ref q5, .ref q6, .ref q7, .ref q8, .int 0, .ref q9, .ref q10, .ref q11, .ref q12, .ref q13])), (q2, .inr (11, [.ref q14, .int 0, .int 1]))] s.heap := hP
  have hl := lv_entry ([.ref q0, .int p1]) (n := 2) (Nat.le_of_ble_eq_true rfl)
  rw [lg_entry_eq]
  generalize (lg_sl ([.ref q0, .int p1]) ++ List.replicate (2 - (lg_sl ([.ref q0, .int p1])).length) Slot.unset).toArray = ls at hl ⊢
  have hl : lv_has ls 2 [(0, .ref q0), (1, .int p1)] := hl
  refine lv_aload_n hx hb dX11_drop_0 rfl (lv_at hl 0 rfl) ?_
  refine lv_iload_n hx hb dX11_drop_1 rfl (lv_at hl 1 rfl) ?_
  have hPc := hP.sub (ws' := [(q0, .inr (13, [.ref q1, .ref q2, .ref q3, .ref q4, .ref q5, .ref q6, .ref q7, .ref q8, .int 0, .ref q9, .ref q10, .ref q11, .ref q12, .ref q13])), (q2, .inr (11, [.ref q14, .int 0, .int 1]))]) [0, 1] rfl
  have hDc := hD.sub (ws' := [(q0, .inr (13, [.ref q1, .ref q2, .ref q3, .ref q4, .ref q5, .ref q6, .ref q7, .ref q8, .int 0, .ref q9, .ref q10, .ref q11, .ref q12, .ref q13])), (q2, .inr (11, [.ref q14, .int 0, .int 1]))]) [0, 1] (by decide) rfl
  have hKc := hK.sub (tys' := []) [] rfl
  have hFc := va_free (wc := [(q0, .inr (13, [.ref q1, .ref q2, .ref q3, .ref q4, .ref q5, .ref q6, .ref q7, .ref q8, .int 0, .ref q9, .ref q10, .ref q11, .ref q12, .ref q13])), (q2, .inr (11, [.ref q14, .int 0, .int 1]))]) hD hS hA [0, 1] rfl
  refine vx_callq (vx_runV (As := [.int p1]) (rest := []) ⟨hx, hb, hml, hown, hts⟩ (c_X11_textOf_2 l hfl dC dI q0 q1 q2 q3 q4 q5 q6 q7 q8 q9 q10 q11 q12 q13 q14 s.heap.size p1 hc0 hc1) (cwV 1 hts gX11_drop_X11_textOf rfl rfl rfl (by decide +kernel) ⟨Nat.le_of_ble_eq_true rfl, Nat.le_of_ble_eq_true rfl⟩) ⟨zB_blind, va_recv hK hP (ci := 13) (q0 := 0) rfl rfl, (zPre hPc hDc hKc hS hFc hZ hN)⟩ rfl rfl hl.1 rfl (lv_room (Nat.le_of_ble_eq_true rfl)) dX11_drop_2 ⟨Nat.le_of_ble_eq_true rfl, Nat.le_of_ble_eq_true rfl⟩) hS (fun q _ h => hFc q h) hFc (fun q _ h => hFc q h) (fun E ce qx u t H1 locs1 ht hvm hpx hBX hz1 hk1 hS hq9 hv9 hcl9 => ?_) (fun r u t H1 locs1 _ _ hw => hw.elim)
  subst hBX
  exact vx_out (fun x h => ((hnoex x h).elim)) hlocks hq9 hv9 hcl9 (fun t h1 _ => ⟨(), trivial, rfl, hS.F h1⟩) hS.2.2 (Nat.le_refl _) (Nat.le_refl _)
set_option maxHeartbeats 4000000 in
set_option maxRecDepth 100000 in
theorem c_L_drop_2 (l : Launch) (hfl : l.stackTraces = false) (dC : Nat → ClassId) (dI : Nat → Nat → Nat) (q0 q1 q2 q3 q4 q5 q6 q7 q8 q9 q10 q11 q12 q13 q14 q15 : Nat) (sz : Nat) (p1 : Int32) (hc0 : ¬ p1 < 0) (hc1 : (0 : Int32) ≤ p1) : Met l yL_drop wsL_drop ({ frames := 8, cells := 1, slots := 6, locals := 133 }) (va_Pc [.ref q0, .int p1, .ref q1] (zB (dC, dI) [] [(q0, .inr (13, [.ref q2, .ref q3, .ref q4, .ref q5, .ref q6, .ref q7, .ref q8, .ref q9, .int 0, .ref q10, .ref q11, .ref q12, .ref q13, .ref q14])), (q3, .inr (11, [.ref q15, .int 0, .int 1]))] sz)) (va_Qi (fun (r : Int32) (_ : Unit) => 1 = r) (fun _ t => zE (dC, dI) [] [] (va_A [(q0, .inr (13, [.ref q2, .ref q3, .ref q4, .ref q5, .ref q6, .ref q7, .ref q8, .ref q9, .int 0, .ref q10, .ref q11, .ref q12, .ref q13, .ref q14])), (q3, .inr (11, [.ref q15, .int 0, .int 1]))] sz) t) (va_A [(q0, .inr (13, [.ref q2, .ref q3, .ref q4, .ref q5, .ref q6, .ref q7, .ref q8, .ref q9, .int 0, .ref q10, .ref q11, .ref q12, .ref q13, .ref q14])), (q3, .inr (11, [.ref q15, .int 0, .int 1]))] sz)) 1 6 (va_A [(q0, .inr (13, [.ref q2, .ref q3, .ref q4, .ref q5, .ref q6, .ref q7, .ref q8, .ref q9, .int 0, .ref q10, .ref q11, .ref q12, .ref q13, .ref q14])), (q3, .inr (11, [.ref q15, .int 0, .int 1]))] sz) := by
  refine va_MetW (cc := cL_drop) (maxL := 4) (ret := (some .int)) (by decide) rfl ?_
  intro p e s m args below meth c s₁ B hml hv
  obtain ⟨rfl, hsz, hP, hK, hD0, hZ, hN⟩ := hv
  have hx := B.exec
  have hb := B.bytes
  have hr := B.returns
  have hts := atoms_spec (ws := wsL_drop) B.pre
  have hown : s.vm.findClass RL = some m.cls := findClass_of_methodNamed B.named
  have hlocks := B.notSynchronized
  have htab := vx_table (x := yL_drop) B (hts (.codeWith yL_drop cL_drop 4 (some .int) [(0, 9, 12, 31)]) List.mem_cons_self)
  subst hsz
  have hD := hD0.self (sz := s.heap.size)
  generalize hAe : va_A [(q0, .inr (13, [.ref q2, .ref q3, .ref q4, .ref q5, .ref q6, .ref q7, .ref q8, .ref q9, .int 0, .ref q10, .ref q11, .ref q12, .ref q13, .ref q14])), (q3, .inr (11, [.ref q15, .int 0, .int 1]))] s.heap.size = A at hD hZ ⊢
  have hA : ∀ q : Nat, s.heap.size ≤ q → A q := fun q h => by rw [← hAe]; exact Or.inr h
  have hS : va_S A s.heap s.heap [] := va_S.rf
  have hP : va_P (dC, dI) vwCl [(q0, .inr (13, [.ref q2, .ref q3, .ref q4, .ref q5, .ref q6, .ref q7, .ref q8, .ref q9, .int 0, .ref q10, .ref q11, .ref q12, .ref q13, .ref q14])), (q3, .inr (11, [.ref q15, .int 0, .int 1]))] s.heap := hP
  have hl := lv_entry ([.ref q0, .int p1, .ref q1]) (n := 4) (Nat.le_of_ble_eq_true rfl)
  rw [lg_entry_eq]
  generalize (lg_sl ([.ref q0, .int p1, .ref q1]) ++ List.replicate (4 - (lg_sl ([.ref q0, .int p1, .ref q1])).length) Slot.unset).toArray = ls at hl ⊢
  have hl : lv_has ls 4 [(0, .ref q0), (1, .int p1), (2, .ref q1)] := hl
  refine lv_aload_n hx hb dL_drop_0 rfl (lv_at hl 2 rfl) ?_
  refine lv_iconst (v := 0) hx hb dL_drop_1 (by decide +kernel) ?_
  refine lv_aload_n hx hb dL_drop_2 rfl (lv_at hl 0 rfl) ?_
  refine lv_iload_n hx hb dL_drop_3 rfl (lv_at hl 1 rfl) ?_
  have hPc := hP.sub (ws' := [(q0, .inr (13, [.ref q2, .ref q3, .ref q4, .ref q5, .ref q6, .ref q7, .ref q8, .ref q9, .int 0, .ref q10, .ref q11, .ref q12, .ref q13, .ref q14])), (q3, .inr (11, [.ref q15, .int 0, .int 1]))]) [0, 1] rfl
  have hDc := hD.sub (ws' := [(q0, .inr (13, [.ref q2, .ref q3, .ref q4, .ref q5, .ref q6, .ref q7, .ref q8, .ref q9, .int 0, .ref q10, .ref q11, .ref q12, .ref q13, .ref q14])), (q3, .inr (11, [.ref q15, .int 0, .int 1]))]) [0, 1] (by decide) rfl
  have hKc := hK.sub (tys' := []) [] rfl
  have hFc := va_free (wc := [(q0, .inr (13, [.ref q2, .ref q3, .ref q4, .ref q5, .ref q6, .ref q7, .ref q8, .ref q9, .int 0, .ref q10, .ref q11, .ref q12, .ref q13, .ref q14])), (q3, .inr (11, [.ref q15, .int 0, .int 1]))]) hD hS hA [0, 1] rfl
  refine vx_calli (vx_runV (As := [.int p1]) (rest := [.int 0, .ref q1]) ⟨hx, hb, hml, hown, hts⟩ (c_X11_drop_2 l hfl dC dI q0 q2 q3 q4 q5 q6 q7 q8 q9 q10 q11 q12 q13 q14 q15 s.heap.size p1 hc0 hc1) (cwV 1 hts gL_drop_X11_drop rfl rfl rfl (by decide +kernel) ⟨Nat.le_of_ble_eq_true rfl, Nat.le_of_ble_eq_true rfl⟩) ⟨zB_blind, va_recv hK hP (ci := 13) (q0 := 0) rfl rfl, (zPre hPc hDc hKc hS hFc hZ hN)⟩ rfl rfl hl.1 rfl (lv_room (Nat.le_of_ble_eq_true rfl)) dL_drop_4 ⟨Nat.le_of_ble_eq_true rfl, Nat.le_of_ble_eq_true rfl⟩) hS (fun q _ h => hFc q h) hFc (fun q _ h => hFc q h) (fun E ce qx u t H1 locs1 ht hvm hpx hBX hz1 hk1 hS hq9 hv9 hcl9 => ?_) (fun r u t H1 locs1 _ _ hw => hw.elim)
  subst hBX
  refine vx_catch (name := "java/util/NoSuchElementException") hown [] ⟨0, 9, 12, 31⟩ [] (by rw [htab]; rfl) (fun z h => absurd h List.not_mem_nil) rfl (by decide) (hts (.classLink RL 31 "java/util/NoSuchElementException") (by decide +kernel)) (va_Nw.use rfl (hN.2.1 "java/util/NoSuchElementException" (by decide +kernel))) hq9 hv9 hcl9 ?_
  generalize H1 = H at hS ⊢
  refine W.widen (k := 1) (n := 6) (Nat.le_of_ble_eq_true rfl) (Nat.le_of_ble_eq_true rfl) ?_
  have hP : va_P (dC, dI) vwCl [] H := zP_nil
  have hD : va_D A [] := zD_nil
  have hK := hK.sub (tys' := []) [] rfl
  refine lv_astore_n (lv' := [(3, .ref qx), (0, .ref q0), (1, .int p1), (2, .ref q1)]) hx hb dL_drop_12 rfl hl (by decide) rfl (fun ls hl => ?_)
  refine lv_iconst (v := 1) hx hb dL_drop_13 (by decide +kernel) ?_
  have hP9 := hP.sub (ws' := []) [] rfl
  have hD9 := hD.sub (ws' := []) [] (by decide) rfl
  have hK9 := hK.sub (tys' := []) [] rfl
  exact W.iret (v := 1) hx hb hr (fun t ht hW => ⟨⟨1, (), rfl, rfl, ⟨by rw [ht]; exact hP9, va_K.moved hW.alike hK9, hD9⟩⟩, hS.F ht⟩) hS.2.2 dL_drop_14
set_option maxHeartbeats 4000000 in
set_option maxRecDepth 100000 in
theorem c_X13_drop_2 (l : Launch) (dC : Nat → ClassId) (dI : Nat → Nat → Nat) (q0 q1 q2 q3 q4 q5 q6 q7 q8 q9 q10 q11 q12 q13 q14 q15 q16 q17 q18 q19 : Nat) (sz : Nat) (p1 : Int32) (hc0 : ¬ p1 < 0) (hc1 : ((-1) : Int32) < p1) : Met l yX13_drop wsX13_drop ({ frames := 2, cells := 0, slots := 0, locals := 43 }) (va_Pc [.ref q0, .int p1] (zB (dC, dI) [] [(q0, .inr (15, [.ref q1, .ref q2, .ref q3, .ref q4, .ref q5, .ref q6, .int 0, .int 1, .ref q7, .int 0, .ref q8, .null, .ref q9, .null, .ref q10, .ref q11, .ref q12, .ref q13, .ref q14, .int 0, .ref q15, .ref q16, .ref q17, .ref q18, .ref q19, .int 0, .int 0]))] sz)) (va_Qi (fun (r : Int32) (_ : Unit) => 0 = r) (fun _ t => zE (dC, dI) [] [(q0, .inr (15, [.ref q1, .ref q2, .ref q3, .ref q4, .ref q5, .ref q6, .int 0, .int 1, .ref q7, .int 0, .ref q8, .null, .ref q9, .null, .ref q10, .ref q11, .ref q12, .ref q13, .ref q14, .int 1, .ref q15, .ref q16, .ref q17, .ref q18, .ref q19, .int 0, .int 0]))] (va_A [(q0, .inr (15, [.ref q1, .ref q2, .ref q3, .ref q4, .ref q5, .ref q6, .int 0, .int 1, .ref q7, .int 0, .ref q8, .null, .ref q9, .null, .ref q10, .ref q11, .ref q12, .ref q13, .ref q14, .int 0, .ref q15, .ref q16, .ref q17, .ref q18, .ref q19, .int 0, .int 0]))] sz) t) (va_A [(q0, .inr (15, [.ref q1, .ref q2, .ref q3, .ref q4, .ref q5, .ref q6, .int 0, .int 1, .ref q7, .int 0, .ref q8, .null, .ref q9, .null, .ref q10, .ref q11, .ref q12, .ref q13, .ref q14, .int 0, .ref q15, .ref q16, .ref q17, .ref q18, .ref q19, .int 0, .int 0]))] sz)) 0 0 (va_A [(q0, .inr (15, [.ref q1, .ref q2, .ref q3, .ref q4, .ref q5, .ref q6, .int 0, .int 1, .ref q7, .int 0, .ref q8, .null, .ref q9, .null, .ref q10, .ref q11, .ref q12, .ref q13, .ref q14, .int 0, .ref q15, .ref q16, .ref q17, .ref q18, .ref q19, .int 0, .int 0]))] sz) := by
  refine Met.ofW (cc := cX13_drop) (maxL := 2) (ret := (some .int)) (by decide) rfl ?_
  intro p e s m args below meth c s₁ B hml hv
  obtain ⟨rfl, hsz, hP, hK, hD0, hZ, hN⟩ := hv
  have hx := B.exec
  have hb := B.bytes
  have hr := B.returns
  have hts := atoms_spec (ws := wsX13_drop) B.pre
  have hown : s.vm.findClass RX13 = some m.cls := findClass_of_methodNamed B.named
  have hlocks := B.notSynchronized
  subst hsz
  have hD := hD0.self (sz := s.heap.size)
  generalize hAe : va_A [(q0, .inr (15, [.ref q1, .ref q2, .ref q3, .ref q4, .ref q5, .ref q6, .int 0, .int 1, .ref q7, .int 0, .ref q8, .null, .ref q9, .null, .ref q10, .ref q11, .ref q12, .ref q13, .ref q14, .int 0, .ref q15, .ref q16, .ref q17, .ref q18, .ref q19, .int 0, .int 0]))] s.heap.size = A at hD hZ ⊢
  have hA : ∀ q : Nat, s.heap.size ≤ q → A q := fun q h => by rw [← hAe]; exact Or.inr h
  have hS : va_S A s.heap s.heap [] := va_S.rf
  have hP : va_P (dC, dI) vwCl [(q0, .inr (15, [.ref q1, .ref q2, .ref q3, .ref q4, .ref q5, .ref q6, .int 0, .int 1, .ref q7, .int 0, .ref q8, .null, .ref q9, .null, .ref q10, .ref q11, .ref q12, .ref q13, .ref q14, .int 0, .ref q15, .ref q16, .ref q17, .ref q18, .ref q19, .int 0, .int 0]))] s.heap := hP
  have hl := lv_entry ([.ref q0, .int p1]) (n := 2) (Nat.le_of_ble_eq_true rfl)
  rw [lg_entry_eq]
  generalize (lg_sl ([.ref q0, .int p1]) ++ List.replicate (2 - (lg_sl ([.ref q0, .int p1])).length) Slot.unset).toArray = ls at hl ⊢
  have hl : lv_has ls 2 [(0, .ref q0), (1, .int p1)] := hl
  refine lv_aload_n hx hb dX13_drop_0 rfl (lv_at hl 0 rfl) ?_
  refine lv_aload_n hx hb dX13_drop_1 rfl (lv_at hl 0 rfl) ?_
  refine lv_iload_n hx hb dX13_drop_2 rfl (lv_at hl 1 rfl) ?_
  have hPc := hP.sub (ws' := [(q0, .inr (15, [.ref q1, .ref q2, .ref q3, .ref q4, .ref q5, .ref q6, .int 0, .int 1, .ref q7, .int 0, .ref q8, .null, .ref q9, .null, .ref q10, .ref q11, .ref q12, .ref q13, .ref q14, .int 0, .ref q15, .ref q16, .ref q17, .ref q18, .ref q19, .int 0, .int 0]))]) [0] rfl
  have hDc := hD.sub (ws' := [(q0, .inr (15, [.ref q1, .ref q2, .ref q3, .ref q4, .ref q5, .ref q6, .int 0, .int 1, .ref q7, .int 0, .ref q8, .null, .ref q9, .null, .ref q10, .ref q11, .ref q12, .ref q13, .ref q14, .int 0, .ref q15, .ref q16, .ref q17, .ref q18, .ref q19, .int 0, .int 0]))]) [0] (by decide) rfl
  have hKc := hK.sub (tys' := []) [] rfl
  have hFc := va_free (wc := [(q0, .inr (15, [.ref q1, .ref q2, .ref q3, .ref q4, .ref q5, .ref q6, .int 0, .int 1, .ref q7, .int 0, .ref q8, .null, .ref q9, .null, .ref q10, .ref q11, .ref q12, .ref q13, .ref q14, .int 0, .ref q15, .ref q16, .ref q17, .ref q18, .ref q19, .int 0, .int 0]))]) hD hS hA [0] rfl
  refine va_calli (va_runV (As := [.int p1]) (rest := [.ref q0]) ⟨hx, hb, hml, hown, hts⟩ (c_X13_isText_2 l dC dI q0 q1 q2 q3 q4 q5 q6 q7 q8 q9 q10 q11 q12 q13 q14 q15 q16 q17 q18 q19 s.heap.size p1 hc0 hc1) (cwV 1 hts gX13_drop_X13_isText rfl rfl rfl (by decide +kernel) ⟨Nat.le_of_ble_eq_true rfl, Nat.le_of_ble_eq_true rfl⟩) ⟨zB_blind, va_recv hK hP (ci := 15) (q0 := 0) rfl rfl, (zPre hPc hDc hKc hS hFc hZ hN)⟩ rfl rfl hl.1 rfl (lv_room (Nat.le_of_ble_eq_true rfl)) dX13_drop_3 ⟨Nat.le_of_ble_eq_true rfl, Nat.le_of_ble_eq_true rfl⟩) hS (fun q _ h => hFc q h) hFc (fun r u t H1 locs ht hvm hw hB hz1 hk1 hS => ?_)
  subst hw
  obtain ⟨hP1, hK1, hD1⟩ := hB
  rw [ht] at hP1
  have hK1 := va_K.moved hvm.symm hK1
  obtain ⟨hP, hD⟩ := va_join (wr := []) (w1 := [(q0, .inr (15, [.ref q1, .ref q2, .ref q3, .ref q4, .ref q5, .ref q6, .int 0, .int 1, .ref q7, .int 0, .ref q8, .null, .ref q9, .null, .ref q10, .ref q11, .ref q12, .ref q13, .ref q14, .int 0, .ref q15, .ref q16, .ref q17, .ref q18, .ref q19, .int 0, .int 0]))]) hP hD [0] [] rfl rfl (by decide) (by decide) hk1 hFc hP1 hD1
  have hK := (hK.sub (tys' := []) [] rfl).app hK1
  generalize H1 = H at hP hS ⊢
  have hP : va_P (dC, dI) vwCl [(q0, .inr (15, [.ref q1, .ref q2, .ref q3, .ref q4, .ref q5, .ref q6, .int 0, .int 1, .ref q7, .int 0, .ref q8, .null, .ref q9, .null, .ref q10, .ref q11, .ref q12, .ref q13, .ref q14, .int 0, .ref q15, .ref q16, .ref q17, .ref q18, .ref q19, .int 0, .int 0]))] H := hP
  have hD : va_D A [(q0, .inr (15, [.ref q1, .ref q2, .ref q3, .ref q4, .ref q5, .ref q6, .int 0, .int 1, .ref q7, .int 0, .ref q8, .null, .ref q9, .null, .ref q10, .ref q11, .ref q12, .ref q13, .ref q14, .int 0, .ref q15, .ref q16, .ref q17, .ref q18, .ref q19, .int 0, .int 0]))] := hD
  have hK : va_K (dC, dI) vwCl [] s := hK
  refine W.widen (k := 0) (n := 0) (Nat.le_of_ble_eq_true rfl) (Nat.le_of_ble_eq_true rfl) ?_
  refine lv_iconst (v := 1) hx hb dX13_drop_6 (by decide +kernel) ?_
  have hPc := hP.sub (ws' := [(q0, .inr (15, [.ref q1, .ref q2, .ref q3, .ref q4, .ref q5, .ref q6, .int 0, .int 1, .ref q7, .int 0, .ref q8, .null, .ref q9, .null, .ref q10, .ref q11, .ref q12, .ref q13, .ref q14, .int 0, .ref q15, .ref q16, .ref q17, .ref q18, .ref q19, .int 0, .int 0]))]) [0] rfl
  have hDc := hD.sub (ws' := [(q0, .inr (15, [.ref q1, .ref q2, .ref q3, .ref q4, .ref q5, .ref q6, .int 0, .int 1, .ref q7, .int 0, .ref q8, .null, .ref q9, .null, .ref q10, .ref q11, .ref q12, .ref q13, .ref q14, .int 0, .ref q15, .ref q16, .ref q17, .ref q18, .ref q19, .int 0, .int 0]))]) [0] (by decide) rfl
  have hKc := hK.sub (tys' := []) [] rfl
  have hFc := va_free (wc := [(q0, .inr (15, [.ref q1, .ref q2, .ref q3, .ref q4, .ref q5, .ref q6, .int 0, .int 1, .ref q7, .int 0, .ref q8, .null, .ref q9, .null, .ref q10, .ref q11, .ref q12, .ref q13, .ref q14, .int 0, .ref q15, .ref q16, .ref q17, .ref q18, .ref q19, .int 0, .int 0]))]) hD hS hA [0] rfl
  refine va_calli (va_runV (As := [.int 0, .int 1]) (rest := []) ⟨hx, hb, hml, hown, hts⟩ (c_X13_no l dC dI q0 q1 q2 q3 q4 q5 q6 q7 q8 q9 q10 q11 q12 q13 q14 q15 q16 q17 q18 q19 H.size  ) (cwV 2 hts gX13_drop_X13_no rfl rfl rfl (by decide +kernel) ⟨Nat.le_of_ble_eq_true rfl, Nat.le_of_ble_eq_true rfl⟩) ⟨zB_blind, va_recv hK hP (ci := 15) (q0 := 0) rfl rfl, (zPre hPc hDc hKc hS hFc hZ hN)⟩ rfl rfl hl.1 rfl (lv_room (Nat.le_of_ble_eq_true rfl)) dX13_drop_7 ⟨Nat.le_of_ble_eq_true rfl, Nat.le_of_ble_eq_true rfl⟩) hS (fun q _ h => hFc q h) hFc (fun r u t H1 locs ht hvm hw hB hz1 hk1 hS => ?_)
  subst hw
  obtain ⟨hP1, hK1, hD1⟩ := hB
  rw [ht] at hP1
  have hK1 := va_K.moved hvm.symm hK1
  obtain ⟨hP, hD⟩ := va_join (wr := []) (w1 := [(q0, .inr (15, [.ref q1, .ref q2, .ref q3, .ref q4, .ref q5, .ref q6, .int 0, .int 1, .ref q7, .int 0, .ref q8, .null, .ref q9, .null, .ref q10, .ref q11, .ref q12, .ref q13, .ref q14, .int 1, .ref q15, .ref q16, .ref q17, .ref q18, .ref q19, .int 0, .int 0]))]) hP hD [0] [] rfl rfl (by decide) (by decide) hk1 hFc hP1 hD1
  have hK := (hK.sub (tys' := []) [] rfl).app hK1
  generalize H1 = H at hP hS ⊢
  have hP : va_P (dC, dI) vwCl [(q0, .inr (15, [.ref q1, .ref q2, .ref q3, .ref q4, .ref q5, .ref q6, .int 0, .int 1, .ref q7, .int 0, .ref q8, .null, .ref q9, .null, .ref q10, .ref q11, .ref q12, .ref q13, .ref q14, .int 1, .ref q15, .ref q16, .ref q17, .ref q18, .ref q19, .int 0, .int 0]))] H := hP
  have hD : va_D A [(q0, .inr (15, [.ref q1, .ref q2, .ref q3, .ref q4, .ref q5, .ref q6, .int 0, .int 1, .ref q7, .int 0, .ref q8, .null, .ref q9, .null, .ref q10, .ref q11, .ref q12, .ref q13, .ref q14, .int 1, .ref q15, .ref q16, .ref q17, .ref q18, .ref q19, .int 0, .int 0]))] := hD
  have hK : va_K (dC, dI) vwCl [] s := hK
  refine W.widen (k := 0) (n := 0) (Nat.le_of_ble_eq_true rfl) (Nat.le_of_ble_eq_true rfl) ?_
  refine lv_if_eq (tgt := 15) hx hb dX13_drop_10 (by decide) (fun h9 => absurd h9 (show ¬ (1 : Int32) = (0 : Int32) by decide +kernel)) (fun _ => ?_)
  refine lv_iconst (v := 0) hx hb dX13_drop_13 (by decide +kernel) ?_
  have hP9 := hP.sub (ws' := [(q0, .inr (15, [.ref q1, .ref q2, .ref q3, .ref q4, .ref q5, .ref q6, .int 0, .int 1, .ref q7, .int 0, .ref q8, .null, .ref q9, .null, .ref q10, .ref q11, .ref q12, .ref q13, .ref q14, .int 1, .ref q15, .ref q16, .ref q17, .ref q18, .ref q19, .int 0, .int 0]))]) [0] rfl
  have hD9 := hD.sub (ws' := [(q0, .inr (15, [.ref q1, .ref q2, .ref q3, .ref q4, .ref q5, .ref q6, .int 0, .int 1, .ref q7, .int 0, .ref q8, .null, .ref q9, .null, .ref q10, .ref q11, .ref q12, .ref q13, .ref q14, .int 1, .ref q15, .ref q16, .ref q17, .ref q18, .ref q19, .int 0, .int 0]))]) [0] (by decide) rfl
  have hK9 := hK.sub (tys' := []) [] rfl
  exact W.iret (v := 0) hx hb hr (fun t ht hW => ⟨⟨0, (), rfl, rfl, ⟨by rw [ht]; exact hP9, va_K.moved hW.alike hK9, hD9⟩⟩, hS.F ht⟩) hS.2.2 dX13_drop_14
set_option maxHeartbeats 4000000 in
set_option maxRecDepth 100000 in
theorem c_X8_count (l : Launch) (dC : Nat → ClassId) (dI : Nat → Nat → Nat) (q0 q1 : Nat) (sz : Nat) : Met l yX8_count wsX8_count ({ frames := 0, cells := 0, slots := 0, locals := 0 }) (va_Pc [.ref q0] (zB (dC, dI) [] [(q0, .inr (11, [.ref q1, .int 0, .int 1]))] sz)) (va_Qi (fun (r : Int32) (_ : Unit) => 0 = r) (fun _ t => zE (dC, dI) [] [] (va_A [(q0, .inr (11, [.ref q1, .int 0, .int 1]))] sz) t) (va_A [(q0, .inr (11, [.ref q1, .int 0, .int 1]))] sz)) 0 0 (va_A [(q0, .inr (11, [.ref q1, .int 0, .int 1]))] sz) := by
  refine Met.ofW (cc := cX8_count) (maxL := 3) (ret := (some .int)) (by decide) rfl ?_
  intro p e s m args below meth c s₁ B hml hv
  obtain ⟨rfl, hsz, hP, hK, hD0, hZ, hN⟩ := hv
  have hx := B.exec
  have hb := B.bytes
  have hr := B.returns
  have hts := atoms_spec (ws := wsX8_count) B.pre
  have hown : s.vm.findClass RX8 = some m.cls := findClass_of_methodNamed B.named
  have hlocks := B.notSynchronized
  subst hsz
  have hD := hD0.self (sz := s.heap.size)
  generalize hAe : va_A [(q0, .inr (11, [.ref q1, .int 0, .int 1]))] s.heap.size = A at hD hZ ⊢
  have hA : ∀ q : Nat, s.heap.size ≤ q → A q := fun q h => by rw [← hAe]; exact Or.inr h
  have hS : va_S A s.heap s.heap [] := va_S.rf
  have hP : va_P (dC, dI) vwCl [(q0, .inr (11, [.ref q1, .int 0, .int 1]))] s.heap := hP
  have hl := lv_entry ([.ref q0]) (n := 3) (Nat.le_of_ble_eq_true rfl)
  rw [lg_entry_eq]
  generalize (lg_sl ([.ref q0]) ++ List.replicate (3 - (lg_sl ([.ref q0])).length) Slot.unset).toArray = ls at hl ⊢
  have hl : lv_has ls 3 [(0, .ref q0)] := hl
  refine lv_iconst (v := 0) hx hb dX8_count_0 (by decide +kernel) ?_
  refine lv_istore_n (lv' := [(1, .int 0), (0, .ref q0)]) hx hb dX8_count_1 rfl hl (by decide) rfl (fun ls hl => ?_)
  refine lv_iconst (v := 0) hx hb dX8_count_2 (by decide +kernel) ?_
  refine lv_istore_n (lv' := [(2, .int 0), (1, .int 0), (0, .ref q0)]) hx hb dX8_count_3 rfl hl (by decide) rfl (fun ls hl => ?_)
  refine lv_iload_n hx hb dX8_count_4 rfl (lv_at hl 0 rfl) ?_
  refine lv_aload_n hx hb dX8_count_5 rfl (lv_at hl 2 rfl) ?_
  refine va_get (D := (dC, dI)) (ci := 11) (v := .int 0) (C := RX8) (T := TX8) (N := 3) hx hb hts (fun _ h => List.mem_cons_of_mem _ (List.mem_append_left _ (List.mem_append_right _ h))) hown hK hP 0 rfl rfl 1 (by decide) (hts (.fieldLink RX8 17 "Seekwell$Shelf" "came" "I") (by decide +kernel)) (fun _ h9 => h9) rfl dX8_count_6 ?_
  refine lv_icmp_ge (tgt := 29) hx hb dX8_count_9 (by decide) (fun _ => ?_) (fun h9 => absurd (show (0 : Int32) ≤ (0 : Int32) by decide +kernel) h9)
  refine lv_iload_n hx hb dX8_count_29 rfl (lv_at hl 1 rfl) ?_
  have hP9 := hP.sub (ws' := []) [] rfl
  have hD9 := hD.sub (ws' := []) [] (by decide) rfl
  have hK9 := hK.sub (tys' := []) [] rfl
  exact W.iret (v := 0) hx hb hr (fun t ht hW => ⟨⟨0, (), rfl, rfl, ⟨by rw [ht]; exact hP9, va_K.moved hW.alike hK9, hD9⟩⟩, hS.F ht⟩) hS.2.2 dX8_count_30
set_option maxHeartbeats 4000000 in
set_option maxRecDepth 100000 in
theorem c_X11_texts (l : Launch) (dC : Nat → ClassId) (dI : Nat → Nat → Nat) (q0 q1 q2 q3 q4 q5 q6 q7 q8 q9 q10 q11 q12 q13 q14 : Nat) (sz : Nat) : Met l yX11_texts wsX11_texts ({ frames := 1, cells := 0, slots := 0, locals := 22 }) (va_Pc [.ref q0] (zB (dC, dI) [] [(q0, .inr (13, [.ref q1, .ref q2, .ref q3, .ref q4, .ref q5, .ref q6, .ref q7, .ref q8, .int 0, .ref q9, .ref q10, .ref q11, .ref q12, .ref q13])), (q2, .inr (11, [.ref q14, .int 0, .int 1]))] sz)) (va_Qi (fun (r : Int32) (_ : Unit) => 0 = r) (fun _ t => zE (dC, dI) [] [] (va_A [(q0, .inr (13, [.ref q1, .ref q2, .ref q3, .ref q4, .ref q5, .ref q6, .ref q7, .ref q8, .int 0, .ref q9, .ref q10, .ref q11, .ref q12, .ref q13])), (q2, .inr (11, [.ref q14, .int 0, .int 1]))] sz) t) (va_A [(q0, .inr (13, [.ref q1, .ref q2, .ref q3, .ref q4, .ref q5, .ref q6, .ref q7, .ref q8, .int 0, .ref q9, .ref q10, .ref q11, .ref q12, .ref q13])), (q2, .inr (11, [.ref q14, .int 0, .int 1]))] sz)) 0 0 (va_A [(q0, .inr (13, [.ref q1, .ref q2, .ref q3, .ref q4, .ref q5, .ref q6, .ref q7, .ref q8, .int 0, .ref q9, .ref q10, .ref q11, .ref q12, .ref q13])), (q2, .inr (11, [.ref q14, .int 0, .int 1]))] sz) := by
  refine Met.ofW (cc := cX11_texts) (maxL := 1) (ret := (some .int)) (by decide) rfl ?_
  intro p e s m args below meth c s₁ B hml hv
  obtain ⟨rfl, hsz, hP, hK, hD0, hZ, hN⟩ := hv
  have hx := B.exec
  have hb := B.bytes
  have hr := B.returns
  have hts := atoms_spec (ws := wsX11_texts) B.pre
  have hown : s.vm.findClass RX11 = some m.cls := findClass_of_methodNamed B.named
  have hlocks := B.notSynchronized
  subst hsz
  have hD := hD0.self (sz := s.heap.size)
  generalize hAe : va_A [(q0, .inr (13, [.ref q1, .ref q2, .ref q3, .ref q4, .ref q5, .ref q6, .ref q7, .ref q8, .int 0, .ref q9, .ref q10, .ref q11, .ref q12, .ref q13])), (q2, .inr (11, [.ref q14, .int 0, .int 1]))] s.heap.size = A at hD hZ ⊢
  have hA : ∀ q : Nat, s.heap.size ≤ q → A q := fun q h => by rw [← hAe]; exact Or.inr h
  have hS : va_S A s.heap s.heap [] := va_S.rf
  have hP : va_P (dC, dI) vwCl [(q0, .inr (13, [.ref q1, .ref q2, .ref q3, .ref q4, .ref q5, .ref q6, .ref q7, .ref q8, .int 0, .ref q9, .ref q10, .ref q11, .ref q12, .ref q13])), (q2, .inr (11, [.ref q14, .int 0, .int 1]))] s.heap := hP
  have hl := lv_entry ([.ref q0]) (n := 1) (Nat.le_of_ble_eq_true rfl)
  rw [lg_entry_eq]
  generalize (lg_sl ([.ref q0]) ++ List.replicate (1 - (lg_sl ([.ref q0])).length) Slot.unset).toArray = ls at hl ⊢
  have hl : lv_has ls 1 [(0, .ref q0)] := hl
  refine lv_aload_n hx hb dX11_texts_0 rfl (lv_at hl 0 rfl) ?_
  refine va_get (D := (dC, dI)) (ci := 13) (v := .ref q2) (C := RX11) (T := TX11) (N := 14) hx hb hts (fun _ h => List.mem_cons_of_mem _ (List.mem_append_left _ (List.mem_append_left _ (List.mem_append_right _ h)))) hown hK hP 0 rfl rfl 1 (by decide) (hts (.fieldLink RX11 19 "Seekwell" "shelf" "LSeekwell$Shelf;") (by decide +kernel)) (fun _ h9 => h9) rfl dX11_texts_1 ?_
  have hPc := hP.sub (ws' := [(q2, .inr (11, [.ref q14, .int 0, .int 1]))]) [1] rfl
  have hDc := hD.sub (ws' := [(q2, .inr (11, [.ref q14, .int 0, .int 1]))]) [1] (by decide) rfl
  have hKc := hK.sub (tys' := []) [] rfl
  have hFc := va_free (wc := [(q2, .inr (11, [.ref q14, .int 0, .int 1]))]) hD hS hA [1] rfl
  refine va_calli (va_runV (As := []) (rest := []) ⟨hx, hb, hml, hown, hts⟩ (c_X8_count l dC dI q2 q14 s.heap.size  ) (cwV 0 hts gX11_texts_X8_count rfl rfl rfl (by decide +kernel) ⟨Nat.le_of_ble_eq_true rfl, Nat.le_of_ble_eq_true rfl⟩) ⟨zB_blind, va_recv hK hP (ci := 11) (q0 := 1) rfl rfl, (zPre hPc hDc hKc hS hFc hZ hN)⟩ rfl rfl hl.1 rfl (lv_room (Nat.le_of_ble_eq_true rfl)) dX11_texts_4 ⟨Nat.le_of_ble_eq_true rfl, Nat.le_of_ble_eq_true rfl⟩) hS (fun q _ h => hFc q h) hFc (fun r u t H1 locs ht hvm hw hB hz1 hk1 hS => ?_)
  subst hw
  obtain ⟨hP1, hK1, hD1⟩ := hB
  rw [ht] at hP1
  have hK1 := va_K.moved hvm.symm hK1
  obtain ⟨hP, hD⟩ := va_join (wr := []) (w1 := []) hP hD [1] [] rfl rfl (by decide) (by decide) hk1 hFc hP1 hD1
  have hK := (hK.sub (tys' := []) [] rfl).app hK1
  generalize H1 = H at hP hS ⊢
  have hP : va_P (dC, dI) vwCl [] H := hP
  have hD : va_D A [] := hD
  have hK : va_K (dC, dI) vwCl [] s := hK
  refine W.widen (k := 0) (n := 0) (Nat.le_of_ble_eq_true rfl) (Nat.le_of_ble_eq_true rfl) ?_
  have hP9 := hP.sub (ws' := []) [] rfl
  have hD9 := hD.sub (ws' := []) [] (by decide) rfl
  have hK9 := hK.sub (tys' := []) [] rfl
  exact W.iret (v := 0) hx hb hr (fun t ht hW => ⟨⟨0, (), rfl, rfl, ⟨by rw [ht]; exact hP9, va_K.moved hW.alike hK9, hD9⟩⟩, hS.F ht⟩) hS.2.2 dX11_texts_7
set_option maxHeartbeats 4000000 in
set_option maxRecDepth 100000 in
theorem c_X13_many (l : Launch) (dC : Nat → ClassId) (dI : Nat → Nat → Nat) (q0 q1 q2 q3 q4 q5 q6 q7 q8 q9 q10 q11 q12 q13 q14 q15 q16 q17 q18 q19 : Nat) (k0 : ClassId) (sz : Nat) : Met l yX13_many wsX13_many ({ frames := 0, cells := 0, slots := 0, locals := 0 }) (va_Pc [.ref q0] (zB (dC, dI) [(k0, .boolean)] [(q0, .inr (15, [.ref q1, .ref q2, .ref q3, .ref q4, .ref q5, .ref q6, .int 0, .int 1, .ref q7, .int 0, .ref q8, .null, .ref q9, .null, .ref q10, .ref q11, .ref q12, .ref q13, .ref q14, .int 0, .ref q15, .ref q16, .ref q17, .ref q18, .ref q19, .int 0, .int 0])), (q1, .inl (k0, 24, .inl (fun _ => 0)))] sz)) (va_Qi (fun (r : Int32) (_ : Unit) => 0 = r) (fun _ t => zE (dC, dI) [] [] (va_A [(q0, .inr (15, [.ref q1, .ref q2, .ref q3, .ref q4, .ref q5, .ref q6, .int 0, .int 1, .ref q7, .int 0, .ref q8, .null, .ref q9, .null, .ref q10, .ref q11, .ref q12, .ref q13, .ref q14, .int 0, .ref q15, .ref q16, .ref q17, .ref q18, .ref q19, .int 0, .int 0])), (q1, .inl (k0, 24, .inl (fun _ => 0)))] sz) t) (va_A [(q0, .inr (15, [.ref q1, .ref q2, .ref q3, .ref q4, .ref q5, .ref q6, .int 0, .int 1, .ref q7, .int 0, .ref q8, .null, .ref q9, .null, .ref q10, .ref q11, .ref q12, .ref q13, .ref q14, .int 0, .ref q15, .ref q16, .ref q17, .ref q18, .ref q19, .int 0, .int 0])), (q1, .inl (k0, 24, .inl (fun _ => 0)))] sz)) 0 0 (va_A [(q0, .inr (15, [.ref q1, .ref q2, .ref q3, .ref q4, .ref q5, .ref q6, .int 0, .int 1, .ref q7, .int 0, .ref q8, .null, .ref q9, .null, .ref q10, .ref q11, .ref q12, .ref q13, .ref q14, .int 0, .ref q15, .ref q16, .ref q17, .ref q18, .ref q19, .int 0, .int 0])), (q1, .inl (k0, 24, .inl (fun _ => 0)))] sz) := by
  refine Met.ofW (cc := cX13_many) (maxL := 6) (ret := (some .int)) (by decide) rfl ?_
  intro p e s m args below meth c s₁ B hml hv
  obtain ⟨rfl, hsz, hP, hK, hD0, hZ, hN⟩ := hv
  have hx := B.exec
  have hb := B.bytes
  have hr := B.returns
  have hts := atoms_spec (ws := wsX13_many) B.pre
  have hown : s.vm.findClass RX13 = some m.cls := findClass_of_methodNamed B.named
  have hlocks := B.notSynchronized
  subst hsz
  have hD := hD0.self (sz := s.heap.size)
  generalize hAe : va_A [(q0, .inr (15, [.ref q1, .ref q2, .ref q3, .ref q4, .ref q5, .ref q6, .int 0, .int 1, .ref q7, .int 0, .ref q8, .null, .ref q9, .null, .ref q10, .ref q11, .ref q12, .ref q13, .ref q14, .int 0, .ref q15, .ref q16, .ref q17, .ref q18, .ref q19, .int 0, .int 0])), (q1, .inl (k0, 24, .inl (fun _ => 0)))] s.heap.size = A at hD hZ ⊢
  have hA : ∀ q : Nat, s.heap.size ≤ q → A q := fun q h => by rw [← hAe]; exact Or.inr h
  have hS : va_S A s.heap s.heap [] := va_S.rf
  have hP : va_P (dC, dI) vwCl [(q0, .inr (15, [.ref q1, .ref q2, .ref q3, .ref q4, .ref q5, .ref q6, .int 0, .int 1, .ref q7, .int 0, .ref q8, .null, .ref q9, .null, .ref q10, .ref q11, .ref q12, .ref q13, .ref q14, .int 0, .ref q15, .ref q16, .ref q17, .ref q18, .ref q19, .int 0, .int 0])), (q1, .inl (k0, 24, .inl (fun _ => 0)))] s.heap := hP
  have hl := lv_entry ([.ref q0]) (n := 6) (Nat.le_of_ble_eq_true rfl)
  rw [lg_entry_eq]
  generalize (lg_sl ([.ref q0]) ++ List.replicate (6 - (lg_sl ([.ref q0])).length) Slot.unset).toArray = ls at hl ⊢
  have hl : lv_has ls 6 [(0, .ref q0)] := hl
  refine lv_iconst (v := 0) hx hb dX13_many_0 (by decide +kernel) ?_
  refine lv_istore_n (lv' := [(1, .int 0), (0, .ref q0)]) hx hb dX13_many_1 rfl hl (by decide) rfl (fun ls hl => ?_)
  refine lv_aload_n hx hb dX13_many_2 rfl (lv_at hl 1 rfl) ?_
  refine va_get (D := (dC, dI)) (ci := 15) (v := .ref q1) (C := RX13) (T := TX13) (N := 27) hx hb hts (fun _ h => List.mem_cons_of_mem _ (List.mem_append_left _ (List.mem_append_right _ h))) hown hK hP 0 rfl rfl 0 (by decide) (hts (.fieldLink RX13 9 "SeekwellModel" "isThere" "[Z") (by decide +kernel)) (fun _ h9 => h9) rfl dX13_many_3 ?_
  refine lv_astore_n (lv' := [(2, .ref q1), (1, .int 0), (0, .ref q0)]) hx hb dX13_many_6 rfl hl (by decide) rfl (fun ls hl => ?_)
  refine lv_aload_n hx hb dX13_many_7 rfl (lv_at hl 0 rfl) ?_
  refine va_alen (D := (dC, dI)) (v := 24) hx hb hK hP 1 0 rfl rfl (show Int32.ofNat 24 = 24 by decide +kernel) dX13_many_8 ?_
  refine lv_istore_n (lv' := [(3, .int 24), (2, .ref q1), (1, .int 0), (0, .ref q0)]) hx hb dX13_many_9 rfl hl (by decide) rfl (fun ls hl => ?_)
  refine lv_iconst (v := 0) hx hb dX13_many_10 (by decide +kernel) ?_
  refine lv_istore (lv' := [(4, .int 0), (3, .int 24), (2, .ref q1), (1, .int 0), (0, .ref q0)]) hx hb dX13_many_11 hl (by decide) rfl (fun ls hl => ?_)
  refine lv_iload hx hb dX13_many_13 (lv_at hl 0 rfl) ?_
  refine lv_iload_n hx hb dX13_many_15 rfl (lv_at hl 1 rfl) ?_
  refine lv_icmp_ge (tgt := 44) hx hb dX13_many_16 (by decide) (fun h9 => absurd h9 (show ¬ (24 : Int32) ≤ (0 : Int32) by decide +kernel)) (fun _ => ?_)
  refine lv_aload_n hx hb dX13_many_19 rfl (lv_at hl 2 rfl) ?_
  refine lv_iload hx hb dX13_many_20 (lv_at hl 0 rfl) ?_
  refine va_zald (D := (dC, dI)) hx hb hK hP 1 0 rfl rfl (i := 0) (zin (by decide +kernel)) dX13_many_22 ?_
  refine zt_v (w := .int 0) rfl ?_
  refine lv_istore (lv' := [(5, .int 0), (4, .int 0), (3, .int 24), (2, .ref q1), (1, .int 0), (0, .ref q0)]) hx hb dX13_many_23 hl (by decide) rfl (fun ls hl => ?_)
  refine lv_iload_n hx hb dX13_many_25 rfl (lv_at hl 4 rfl) ?_
  refine lv_iload hx hb dX13_many_26 (lv_at hl 0 rfl) ?_
  refine lv_if_eq (tgt := 35) hx hb dX13_many_28 (by decide) (fun _ => ?_) (fun h9 => absurd (show (0 : Int32) = (0 : Int32) by decide +kernel) h9)
  refine lv_iconst (v := 0) hx hb dX13_many_35 (by decide +kernel) ?_
  refine lv_iadd hx hb dX13_many_36 ?_
  refine zt_i (v := 0) (by decide +kernel) ?_
  refine lv_istore_n (lv' := [(1, .int 0), (5, .int 0), (4, .int 0), (3, .int 24), (2, .ref q1), (0, .ref q0)]) hx hb dX13_many_37 rfl hl (by decide) rfl (fun ls hl => ?_)
  refine lv_iinc (v := 1) (lv' := [(4, .int 1), (1, .int 0), (5, .int 0), (3, .int 24), (2, .ref q1), (0, .ref q0)]) hx hb dX13_many_38 hl (k := 2) rfl (by decide +kernel) (by decide) rfl (fun ls hl => ?_)
  refine lv_goto (tgt := 13) hx hb dX13_many_41 (by decide) ?_
  refine lv_iload hx hb dX13_many_13 (lv_at hl 0 rfl) ?_
  refine lv_iload_n hx hb dX13_many_15 rfl (lv_at hl 3 rfl) ?_
  refine lv_icmp_ge (tgt := 44) hx hb dX13_many_16 (by decide) (fun h9 => absurd h9 (show ¬ (24 : Int32) ≤ (1 : Int32) by decide +kernel)) (fun _ => ?_)
  refine lv_aload_n hx hb dX13_many_19 rfl (lv_at hl 4 rfl) ?_
  refine lv_iload hx hb dX13_many_20 (lv_at hl 0 rfl) ?_
  refine va_zald (D := (dC, dI)) hx hb hK hP 1 0 rfl rfl (i := 1) (zin (by decide +kernel)) dX13_many_22 ?_
  refine zt_v (w := .int 0) rfl ?_
  refine lv_istore (lv' := [(5, .int 0), (4, .int 1), (1, .int 0), (3, .int 24), (2, .ref q1), (0, .ref q0)]) hx hb dX13_many_23 hl (by decide) rfl (fun ls hl => ?_)
  refine lv_iload_n hx hb dX13_many_25 rfl (lv_at hl 2 rfl) ?_
  refine lv_iload hx hb dX13_many_26 (lv_at hl 0 rfl) ?_
  refine lv_if_eq (tgt := 35) hx hb dX13_many_28 (by decide) (fun _ => ?_) (fun h9 => absurd (show (0 : Int32) = (0 : Int32) by decide +kernel) h9)
  refine lv_iconst (v := 0) hx hb dX13_many_35 (by decide +kernel) ?_
  refine lv_iadd hx hb dX13_many_36 ?_
  refine zt_i (v := 0) (by decide +kernel) ?_
  refine lv_istore_n (lv' := [(1, .int 0), (5, .int 0), (4, .int 1), (3, .int 24), (2, .ref q1), (0, .ref q0)]) hx hb dX13_many_37 rfl hl (by decide) rfl (fun ls hl => ?_)
  refine lv_iinc (v := 2) (lv' := [(4, .int 2), (1, .int 0), (5, .int 0), (3, .int 24), (2, .ref q1), (0, .ref q0)]) hx hb dX13_many_38 hl (k := 2) rfl (by decide +kernel) (by decide) rfl (fun ls hl => ?_)
  refine lv_goto (tgt := 13) hx hb dX13_many_41 (by decide) ?_
  refine lv_iload hx hb dX13_many_13 (lv_at hl 0 rfl) ?_
  refine lv_iload_n hx hb dX13_many_15 rfl (lv_at hl 3 rfl) ?_
  refine lv_icmp_ge (tgt := 44) hx hb dX13_many_16 (by decide) (fun h9 => absurd h9 (show ¬ (24 : Int32) ≤ (2 : Int32) by decide +kernel)) (fun _ => ?_)
  refine lv_aload_n hx hb dX13_many_19 rfl (lv_at hl 4 rfl) ?_
  refine lv_iload hx hb dX13_many_20 (lv_at hl 0 rfl) ?_
  refine va_zald (D := (dC, dI)) hx hb hK hP 1 0 rfl rfl (i := 2) (zin (by decide +kernel)) dX13_many_22 ?_
  refine zt_v (w := .int 0) rfl ?_
  refine lv_istore (lv' := [(5, .int 0), (4, .int 2), (1, .int 0), (3, .int 24), (2, .ref q1), (0, .ref q0)]) hx hb dX13_many_23 hl (by decide) rfl (fun ls hl => ?_)
  refine lv_iload_n hx hb dX13_many_25 rfl (lv_at hl 2 rfl) ?_
  refine lv_iload hx hb dX13_many_26 (lv_at hl 0 rfl) ?_
  refine lv_if_eq (tgt := 35) hx hb dX13_many_28 (by decide) (fun _ => ?_) (fun h9 => absurd (show (0 : Int32) = (0 : Int32) by decide +kernel) h9)
  refine lv_iconst (v := 0) hx hb dX13_many_35 (by decide +kernel) ?_
  refine lv_iadd hx hb dX13_many_36 ?_
  refine zt_i (v := 0) (by decide +kernel) ?_
  refine lv_istore_n (lv' := [(1, .int 0), (5, .int 0), (4, .int 2), (3, .int 24), (2, .ref q1), (0, .ref q0)]) hx hb dX13_many_37 rfl hl (by decide) rfl (fun ls hl => ?_)
  refine lv_iinc (v := 3) (lv' := [(4, .int 3), (1, .int 0), (5, .int 0), (3, .int 24), (2, .ref q1), (0, .ref q0)]) hx hb dX13_many_38 hl (k := 2) rfl (by decide +kernel) (by decide) rfl (fun ls hl => ?_)
  refine lv_goto (tgt := 13) hx hb dX13_many_41 (by decide) ?_
  refine lv_iload hx hb dX13_many_13 (lv_at hl 0 rfl) ?_
  refine lv_iload_n hx hb dX13_many_15 rfl (lv_at hl 3 rfl) ?_
  refine lv_icmp_ge (tgt := 44) hx hb dX13_many_16 (by decide) (fun h9 => absurd h9 (show ¬ (24 : Int32) ≤ (3 : Int32) by decide +kernel)) (fun _ => ?_)
  refine lv_aload_n hx hb dX13_many_19 rfl (lv_at hl 4 rfl) ?_
  refine lv_iload hx hb dX13_many_20 (lv_at hl 0 rfl) ?_
  refine va_zald (D := (dC, dI)) hx hb hK hP 1 0 rfl rfl (i := 3) (zin (by decide +kernel)) dX13_many_22 ?_
  refine zt_v (w := .int 0) rfl ?_
  refine lv_istore (lv' := [(5, .int 0), (4, .int 3), (1, .int 0), (3, .int 24), (2, .ref q1), (0, .ref q0)]) hx hb dX13_many_23 hl (by decide) rfl (fun ls hl => ?_)
  refine lv_iload_n hx hb dX13_many_25 rfl (lv_at hl 2 rfl) ?_
  refine lv_iload hx hb dX13_many_26 (lv_at hl 0 rfl) ?_
  refine lv_if_eq (tgt := 35) hx hb dX13_many_28 (by decide) (fun _ => ?_) (fun h9 => absurd (show (0 : Int32) = (0 : Int32) by decide +kernel) h9)
  refine lv_iconst (v := 0) hx hb dX13_many_35 (by decide +kernel) ?_
  refine lv_iadd hx hb dX13_many_36 ?_
  refine zt_i (v := 0) (by decide +kernel) ?_
  refine lv_istore_n (lv' := [(1, .int 0), (5, .int 0), (4, .int 3), (3, .int 24), (2, .ref q1), (0, .ref q0)]) hx hb dX13_many_37 rfl hl (by decide) rfl (fun ls hl => ?_)
  refine lv_iinc (v := 4) (lv' := [(4, .int 4), (1, .int 0), (5, .int 0), (3, .int 24), (2, .ref q1), (0, .ref q0)]) hx hb dX13_many_38 hl (k := 2) rfl (by decide +kernel) (by decide) rfl (fun ls hl => ?_)
  refine lv_goto (tgt := 13) hx hb dX13_many_41 (by decide) ?_
  refine lv_iload hx hb dX13_many_13 (lv_at hl 0 rfl) ?_
  refine lv_iload_n hx hb dX13_many_15 rfl (lv_at hl 3 rfl) ?_
  refine lv_icmp_ge (tgt := 44) hx hb dX13_many_16 (by decide) (fun h9 => absurd h9 (show ¬ (24 : Int32) ≤ (4 : Int32) by decide +kernel)) (fun _ => ?_)
  refine lv_aload_n hx hb dX13_many_19 rfl (lv_at hl 4 rfl) ?_
  refine lv_iload hx hb dX13_many_20 (lv_at hl 0 rfl) ?_
  refine va_zald (D := (dC, dI)) hx hb hK hP 1 0 rfl rfl (i := 4) (zin (by decide +kernel)) dX13_many_22 ?_
  refine zt_v (w := .int 0) rfl ?_
  refine lv_istore (lv' := [(5, .int 0), (4, .int 4), (1, .int 0), (3, .int 24), (2, .ref q1), (0, .ref q0)]) hx hb dX13_many_23 hl (by decide) rfl (fun ls hl => ?_)
  refine lv_iload_n hx hb dX13_many_25 rfl (lv_at hl 2 rfl) ?_
  refine lv_iload hx hb dX13_many_26 (lv_at hl 0 rfl) ?_
  refine lv_if_eq (tgt := 35) hx hb dX13_many_28 (by decide) (fun _ => ?_) (fun h9 => absurd (show (0 : Int32) = (0 : Int32) by decide +kernel) h9)
  refine lv_iconst (v := 0) hx hb dX13_many_35 (by decide +kernel) ?_
  refine lv_iadd hx hb dX13_many_36 ?_
  refine zt_i (v := 0) (by decide +kernel) ?_
  refine lv_istore_n (lv' := [(1, .int 0), (5, .int 0), (4, .int 4), (3, .int 24), (2, .ref q1), (0, .ref q0)]) hx hb dX13_many_37 rfl hl (by decide) rfl (fun ls hl => ?_)
  refine lv_iinc (v := 5) (lv' := [(4, .int 5), (1, .int 0), (5, .int 0), (3, .int 24), (2, .ref q1), (0, .ref q0)]) hx hb dX13_many_38 hl (k := 2) rfl (by decide +kernel) (by decide) rfl (fun ls hl => ?_)
  refine lv_goto (tgt := 13) hx hb dX13_many_41 (by decide) ?_
  refine lv_iload hx hb dX13_many_13 (lv_at hl 0 rfl) ?_
  refine lv_iload_n hx hb dX13_many_15 rfl (lv_at hl 3 rfl) ?_
  refine lv_icmp_ge (tgt := 44) hx hb dX13_many_16 (by decide) (fun h9 => absurd h9 (show ¬ (24 : Int32) ≤ (5 : Int32) by decide +kernel)) (fun _ => ?_)
  refine lv_aload_n hx hb dX13_many_19 rfl (lv_at hl 4 rfl) ?_
  refine lv_iload hx hb dX13_many_20 (lv_at hl 0 rfl) ?_
  refine va_zald (D := (dC, dI)) hx hb hK hP 1 0 rfl rfl (i := 5) (zin (by decide +kernel)) dX13_many_22 ?_
  refine zt_v (w := .int 0) rfl ?_
  refine lv_istore (lv' := [(5, .int 0), (4, .int 5), (1, .int 0), (3, .int 24), (2, .ref q1), (0, .ref q0)]) hx hb dX13_many_23 hl (by decide) rfl (fun ls hl => ?_)
  refine lv_iload_n hx hb dX13_many_25 rfl (lv_at hl 2 rfl) ?_
  refine lv_iload hx hb dX13_many_26 (lv_at hl 0 rfl) ?_
  refine lv_if_eq (tgt := 35) hx hb dX13_many_28 (by decide) (fun _ => ?_) (fun h9 => absurd (show (0 : Int32) = (0 : Int32) by decide +kernel) h9)
  refine lv_iconst (v := 0) hx hb dX13_many_35 (by decide +kernel) ?_
  refine lv_iadd hx hb dX13_many_36 ?_
  refine zt_i (v := 0) (by decide +kernel) ?_
  refine lv_istore_n (lv' := [(1, .int 0), (5, .int 0), (4, .int 5), (3, .int 24), (2, .ref q1), (0, .ref q0)]) hx hb dX13_many_37 rfl hl (by decide) rfl (fun ls hl => ?_)
  refine lv_iinc (v := 6) (lv' := [(4, .int 6), (1, .int 0), (5, .int 0), (3, .int 24), (2, .ref q1), (0, .ref q0)]) hx hb dX13_many_38 hl (k := 2) rfl (by decide +kernel) (by decide) rfl (fun ls hl => ?_)
  refine lv_goto (tgt := 13) hx hb dX13_many_41 (by decide) ?_
  refine lv_iload hx hb dX13_many_13 (lv_at hl 0 rfl) ?_
  refine lv_iload_n hx hb dX13_many_15 rfl (lv_at hl 3 rfl) ?_
  refine lv_icmp_ge (tgt := 44) hx hb dX13_many_16 (by decide) (fun h9 => absurd h9 (show ¬ (24 : Int32) ≤ (6 : Int32) by decide +kernel)) (fun _ => ?_)
  refine lv_aload_n hx hb dX13_many_19 rfl (lv_at hl 4 rfl) ?_
  refine lv_iload hx hb dX13_many_20 (lv_at hl 0 rfl) ?_
  refine va_zald (D := (dC, dI)) hx hb hK hP 1 0 rfl rfl (i := 6) (zin (by decide +kernel)) dX13_many_22 ?_
  refine zt_v (w := .int 0) rfl ?_
  refine lv_istore (lv' := [(5, .int 0), (4, .int 6), (1, .int 0), (3, .int 24), (2, .ref q1), (0, .ref q0)]) hx hb dX13_many_23 hl (by decide) rfl (fun ls hl => ?_)
  refine lv_iload_n hx hb dX13_many_25 rfl (lv_at hl 2 rfl) ?_
  refine lv_iload hx hb dX13_many_26 (lv_at hl 0 rfl) ?_
  refine lv_if_eq (tgt := 35) hx hb dX13_many_28 (by decide) (fun _ => ?_) (fun h9 => absurd (show (0 : Int32) = (0 : Int32) by decide +kernel) h9)
  refine lv_iconst (v := 0) hx hb dX13_many_35 (by decide +kernel) ?_
  refine lv_iadd hx hb dX13_many_36 ?_
  refine zt_i (v := 0) (by decide +kernel) ?_
  refine lv_istore_n (lv' := [(1, .int 0), (5, .int 0), (4, .int 6), (3, .int 24), (2, .ref q1), (0, .ref q0)]) hx hb dX13_many_37 rfl hl (by decide) rfl (fun ls hl => ?_)
  refine lv_iinc (v := 7) (lv' := [(4, .int 7), (1, .int 0), (5, .int 0), (3, .int 24), (2, .ref q1), (0, .ref q0)]) hx hb dX13_many_38 hl (k := 2) rfl (by decide +kernel) (by decide) rfl (fun ls hl => ?_)
  refine lv_goto (tgt := 13) hx hb dX13_many_41 (by decide) ?_
  refine lv_iload hx hb dX13_many_13 (lv_at hl 0 rfl) ?_
  refine lv_iload_n hx hb dX13_many_15 rfl (lv_at hl 3 rfl) ?_
  refine lv_icmp_ge (tgt := 44) hx hb dX13_many_16 (by decide) (fun h9 => absurd h9 (show ¬ (24 : Int32) ≤ (7 : Int32) by decide +kernel)) (fun _ => ?_)
  refine lv_aload_n hx hb dX13_many_19 rfl (lv_at hl 4 rfl) ?_
  refine lv_iload hx hb dX13_many_20 (lv_at hl 0 rfl) ?_
  refine va_zald (D := (dC, dI)) hx hb hK hP 1 0 rfl rfl (i := 7) (zin (by decide +kernel)) dX13_many_22 ?_
  refine zt_v (w := .int 0) rfl ?_
  refine lv_istore (lv' := [(5, .int 0), (4, .int 7), (1, .int 0), (3, .int 24), (2, .ref q1), (0, .ref q0)]) hx hb dX13_many_23 hl (by decide) rfl (fun ls hl => ?_)
  refine lv_iload_n hx hb dX13_many_25 rfl (lv_at hl 2 rfl) ?_
  refine lv_iload hx hb dX13_many_26 (lv_at hl 0 rfl) ?_
  refine lv_if_eq (tgt := 35) hx hb dX13_many_28 (by decide) (fun _ => ?_) (fun h9 => absurd (show (0 : Int32) = (0 : Int32) by decide +kernel) h9)
  refine lv_iconst (v := 0) hx hb dX13_many_35 (by decide +kernel) ?_
  refine lv_iadd hx hb dX13_many_36 ?_
  refine zt_i (v := 0) (by decide +kernel) ?_
  refine lv_istore_n (lv' := [(1, .int 0), (5, .int 0), (4, .int 7), (3, .int 24), (2, .ref q1), (0, .ref q0)]) hx hb dX13_many_37 rfl hl (by decide) rfl (fun ls hl => ?_)
  refine lv_iinc (v := 8) (lv' := [(4, .int 8), (1, .int 0), (5, .int 0), (3, .int 24), (2, .ref q1), (0, .ref q0)]) hx hb dX13_many_38 hl (k := 2) rfl (by decide +kernel) (by decide) rfl (fun ls hl => ?_)
  refine lv_goto (tgt := 13) hx hb dX13_many_41 (by decide) ?_
  refine lv_iload hx hb dX13_many_13 (lv_at hl 0 rfl) ?_
  refine lv_iload_n hx hb dX13_many_15 rfl (lv_at hl 3 rfl) ?_
  refine lv_icmp_ge (tgt := 44) hx hb dX13_many_16 (by decide) (fun h9 => absurd h9 (show ¬ (24 : Int32) ≤ (8 : Int32) by decide +kernel)) (fun _ => ?_)
  refine lv_aload_n hx hb dX13_many_19 rfl (lv_at hl 4 rfl) ?_
  refine lv_iload hx hb dX13_many_20 (lv_at hl 0 rfl) ?_
  refine va_zald (D := (dC, dI)) hx hb hK hP 1 0 rfl rfl (i := 8) (zin (by decide +kernel)) dX13_many_22 ?_
  refine zt_v (w := .int 0) rfl ?_
  refine lv_istore (lv' := [(5, .int 0), (4, .int 8), (1, .int 0), (3, .int 24), (2, .ref q1), (0, .ref q0)]) hx hb dX13_many_23 hl (by decide) rfl (fun ls hl => ?_)
  refine lv_iload_n hx hb dX13_many_25 rfl (lv_at hl 2 rfl) ?_
  refine lv_iload hx hb dX13_many_26 (lv_at hl 0 rfl) ?_
  refine lv_if_eq (tgt := 35) hx hb dX13_many_28 (by decide) (fun _ => ?_) (fun h9 => absurd (show (0 : Int32) = (0 : Int32) by decide +kernel) h9)
  refine lv_iconst (v := 0) hx hb dX13_many_35 (by decide +kernel) ?_
  refine lv_iadd hx hb dX13_many_36 ?_
  refine zt_i (v := 0) (by decide +kernel) ?_
  refine lv_istore_n (lv' := [(1, .int 0), (5, .int 0), (4, .int 8), (3, .int 24), (2, .ref q1), (0, .ref q0)]) hx hb dX13_many_37 rfl hl (by decide) rfl (fun ls hl => ?_)
  refine lv_iinc (v := 9) (lv' := [(4, .int 9), (1, .int 0), (5, .int 0), (3, .int 24), (2, .ref q1), (0, .ref q0)]) hx hb dX13_many_38 hl (k := 2) rfl (by decide +kernel) (by decide) rfl (fun ls hl => ?_)
  refine lv_goto (tgt := 13) hx hb dX13_many_41 (by decide) ?_
  refine lv_iload hx hb dX13_many_13 (lv_at hl 0 rfl) ?_
  refine lv_iload_n hx hb dX13_many_15 rfl (lv_at hl 3 rfl) ?_
  refine lv_icmp_ge (tgt := 44) hx hb dX13_many_16 (by decide) (fun h9 => absurd h9 (show ¬ (24 : Int32) ≤ (9 : Int32) by decide +kernel)) (fun _ => ?_)
  refine lv_aload_n hx hb dX13_many_19 rfl (lv_at hl 4 rfl) ?_
  refine lv_iload hx hb dX13_many_20 (lv_at hl 0 rfl) ?_
  refine va_zald (D := (dC, dI)) hx hb hK hP 1 0 rfl rfl (i := 9) (zin (by decide +kernel)) dX13_many_22 ?_
  refine zt_v (w := .int 0) rfl ?_
  refine lv_istore (lv' := [(5, .int 0), (4, .int 9), (1, .int 0), (3, .int 24), (2, .ref q1), (0, .ref q0)]) hx hb dX13_many_23 hl (by decide) rfl (fun ls hl => ?_)
  refine lv_iload_n hx hb dX13_many_25 rfl (lv_at hl 2 rfl) ?_
  refine lv_iload hx hb dX13_many_26 (lv_at hl 0 rfl) ?_
  refine lv_if_eq (tgt := 35) hx hb dX13_many_28 (by decide) (fun _ => ?_) (fun h9 => absurd (show (0 : Int32) = (0 : Int32) by decide +kernel) h9)
  refine lv_iconst (v := 0) hx hb dX13_many_35 (by decide +kernel) ?_
  refine lv_iadd hx hb dX13_many_36 ?_
  refine zt_i (v := 0) (by decide +kernel) ?_
  refine lv_istore_n (lv' := [(1, .int 0), (5, .int 0), (4, .int 9), (3, .int 24), (2, .ref q1), (0, .ref q0)]) hx hb dX13_many_37 rfl hl (by decide) rfl (fun ls hl => ?_)
  refine lv_iinc (v := 10) (lv' := [(4, .int 10), (1, .int 0), (5, .int 0), (3, .int 24), (2, .ref q1), (0, .ref q0)]) hx hb dX13_many_38 hl (k := 2) rfl (by decide +kernel) (by decide) rfl (fun ls hl => ?_)
  refine lv_goto (tgt := 13) hx hb dX13_many_41 (by decide) ?_
  refine lv_iload hx hb dX13_many_13 (lv_at hl 0 rfl) ?_
  refine lv_iload_n hx hb dX13_many_15 rfl (lv_at hl 3 rfl) ?_
  refine lv_icmp_ge (tgt := 44) hx hb dX13_many_16 (by decide) (fun h9 => absurd h9 (show ¬ (24 : Int32) ≤ (10 : Int32) by decide +kernel)) (fun _ => ?_)
  refine lv_aload_n hx hb dX13_many_19 rfl (lv_at hl 4 rfl) ?_
  refine lv_iload hx hb dX13_many_20 (lv_at hl 0 rfl) ?_
  refine va_zald (D := (dC, dI)) hx hb hK hP 1 0 rfl rfl (i := 10) (zin (by decide +kernel)) dX13_many_22 ?_
  refine zt_v (w := .int 0) rfl ?_
  refine lv_istore (lv' := [(5, .int 0), (4, .int 10), (1, .int 0), (3, .int 24), (2, .ref q1), (0, .ref q0)]) hx hb dX13_many_23 hl (by decide) rfl (fun ls hl => ?_)
  refine lv_iload_n hx hb dX13_many_25 rfl (lv_at hl 2 rfl) ?_
  refine lv_iload hx hb dX13_many_26 (lv_at hl 0 rfl) ?_
  refine lv_if_eq (tgt := 35) hx hb dX13_many_28 (by decide) (fun _ => ?_) (fun h9 => absurd (show (0 : Int32) = (0 : Int32) by decide +kernel) h9)
  refine lv_iconst (v := 0) hx hb dX13_many_35 (by decide +kernel) ?_
  refine lv_iadd hx hb dX13_many_36 ?_
  refine zt_i (v := 0) (by decide +kernel) ?_
  refine lv_istore_n (lv' := [(1, .int 0), (5, .int 0), (4, .int 10), (3, .int 24), (2, .ref q1), (0, .ref q0)]) hx hb dX13_many_37 rfl hl (by decide) rfl (fun ls hl => ?_)
  refine lv_iinc (v := 11) (lv' := [(4, .int 11), (1, .int 0), (5, .int 0), (3, .int 24), (2, .ref q1), (0, .ref q0)]) hx hb dX13_many_38 hl (k := 2) rfl (by decide +kernel) (by decide) rfl (fun ls hl => ?_)
  refine lv_goto (tgt := 13) hx hb dX13_many_41 (by decide) ?_
  refine lv_iload hx hb dX13_many_13 (lv_at hl 0 rfl) ?_
  refine lv_iload_n hx hb dX13_many_15 rfl (lv_at hl 3 rfl) ?_
  refine lv_icmp_ge (tgt := 44) hx hb dX13_many_16 (by decide) (fun h9 => absurd h9 (show ¬ (24 : Int32) ≤ (11 : Int32) by decide +kernel)) (fun _ => ?_)
  refine lv_aload_n hx hb dX13_many_19 rfl (lv_at hl 4 rfl) ?_
  refine lv_iload hx hb dX13_many_20 (lv_at hl 0 rfl) ?_
  refine va_zald (D := (dC, dI)) hx hb hK hP 1 0 rfl rfl (i := 11) (zin (by decide +kernel)) dX13_many_22 ?_
  refine zt_v (w := .int 0) rfl ?_
  refine lv_istore (lv' := [(5, .int 0), (4, .int 11), (1, .int 0), (3, .int 24), (2, .ref q1), (0, .ref q0)]) hx hb dX13_many_23 hl (by decide) rfl (fun ls hl => ?_)
  refine lv_iload_n hx hb dX13_many_25 rfl (lv_at hl 2 rfl) ?_
  refine lv_iload hx hb dX13_many_26 (lv_at hl 0 rfl) ?_
  refine lv_if_eq (tgt := 35) hx hb dX13_many_28 (by decide) (fun _ => ?_) (fun h9 => absurd (show (0 : Int32) = (0 : Int32) by decide +kernel) h9)
  refine lv_iconst (v := 0) hx hb dX13_many_35 (by decide +kernel) ?_
  refine lv_iadd hx hb dX13_many_36 ?_
  refine zt_i (v := 0) (by decide +kernel) ?_
  refine lv_istore_n (lv' := [(1, .int 0), (5, .int 0), (4, .int 11), (3, .int 24), (2, .ref q1), (0, .ref q0)]) hx hb dX13_many_37 rfl hl (by decide) rfl (fun ls hl => ?_)
  refine lv_iinc (v := 12) (lv' := [(4, .int 12), (1, .int 0), (5, .int 0), (3, .int 24), (2, .ref q1), (0, .ref q0)]) hx hb dX13_many_38 hl (k := 2) rfl (by decide +kernel) (by decide) rfl (fun ls hl => ?_)
  refine lv_goto (tgt := 13) hx hb dX13_many_41 (by decide) ?_
  refine lv_iload hx hb dX13_many_13 (lv_at hl 0 rfl) ?_
  refine lv_iload_n hx hb dX13_many_15 rfl (lv_at hl 3 rfl) ?_
  refine lv_icmp_ge (tgt := 44) hx hb dX13_many_16 (by decide) (fun h9 => absurd h9 (show ¬ (24 : Int32) ≤ (12 : Int32) by decide +kernel)) (fun _ => ?_)
  refine lv_aload_n hx hb dX13_many_19 rfl (lv_at hl 4 rfl) ?_
  refine lv_iload hx hb dX13_many_20 (lv_at hl 0 rfl) ?_
  refine va_zald (D := (dC, dI)) hx hb hK hP 1 0 rfl rfl (i := 12) (zin (by decide +kernel)) dX13_many_22 ?_
  refine zt_v (w := .int 0) rfl ?_
  refine lv_istore (lv' := [(5, .int 0), (4, .int 12), (1, .int 0), (3, .int 24), (2, .ref q1), (0, .ref q0)]) hx hb dX13_many_23 hl (by decide) rfl (fun ls hl => ?_)
  refine lv_iload_n hx hb dX13_many_25 rfl (lv_at hl 2 rfl) ?_
  refine lv_iload hx hb dX13_many_26 (lv_at hl 0 rfl) ?_
  refine lv_if_eq (tgt := 35) hx hb dX13_many_28 (by decide) (fun _ => ?_) (fun h9 => absurd (show (0 : Int32) = (0 : Int32) by decide +kernel) h9)
  refine lv_iconst (v := 0) hx hb dX13_many_35 (by decide +kernel) ?_
  refine lv_iadd hx hb dX13_many_36 ?_
  refine zt_i (v := 0) (by decide +kernel) ?_
  refine lv_istore_n (lv' := [(1, .int 0), (5, .int 0), (4, .int 12), (3, .int 24), (2, .ref q1), (0, .ref q0)]) hx hb dX13_many_37 rfl hl (by decide) rfl (fun ls hl => ?_)
  refine lv_iinc (v := 13) (lv' := [(4, .int 13), (1, .int 0), (5, .int 0), (3, .int 24), (2, .ref q1), (0, .ref q0)]) hx hb dX13_many_38 hl (k := 2) rfl (by decide +kernel) (by decide) rfl (fun ls hl => ?_)
  refine lv_goto (tgt := 13) hx hb dX13_many_41 (by decide) ?_
  refine lv_iload hx hb dX13_many_13 (lv_at hl 0 rfl) ?_
  refine lv_iload_n hx hb dX13_many_15 rfl (lv_at hl 3 rfl) ?_
  refine lv_icmp_ge (tgt := 44) hx hb dX13_many_16 (by decide) (fun h9 => absurd h9 (show ¬ (24 : Int32) ≤ (13 : Int32) by decide +kernel)) (fun _ => ?_)
  refine lv_aload_n hx hb dX13_many_19 rfl (lv_at hl 4 rfl) ?_
  refine lv_iload hx hb dX13_many_20 (lv_at hl 0 rfl) ?_
  refine va_zald (D := (dC, dI)) hx hb hK hP 1 0 rfl rfl (i := 13) (zin (by decide +kernel)) dX13_many_22 ?_
  refine zt_v (w := .int 0) rfl ?_
  refine lv_istore (lv' := [(5, .int 0), (4, .int 13), (1, .int 0), (3, .int 24), (2, .ref q1), (0, .ref q0)]) hx hb dX13_many_23 hl (by decide) rfl (fun ls hl => ?_)
  refine lv_iload_n hx hb dX13_many_25 rfl (lv_at hl 2 rfl) ?_
  refine lv_iload hx hb dX13_many_26 (lv_at hl 0 rfl) ?_
  refine lv_if_eq (tgt := 35) hx hb dX13_many_28 (by decide) (fun _ => ?_) (fun h9 => absurd (show (0 : Int32) = (0 : Int32) by decide +kernel) h9)
  refine lv_iconst (v := 0) hx hb dX13_many_35 (by decide +kernel) ?_
  refine lv_iadd hx hb dX13_many_36 ?_
  refine zt_i (v := 0) (by decide +kernel) ?_
  refine lv_istore_n (lv' := [(1, .int 0), (5, .int 0), (4, .int 13), (3, .int 24), (2, .ref q1), (0, .ref q0)]) hx hb dX13_many_37 rfl hl (by decide) rfl (fun ls hl => ?_)
  refine lv_iinc (v := 14) (lv' := [(4, .int 14), (1, .int 0), (5, .int 0), (3, .int 24), (2, .ref q1), (0, .ref q0)]) hx hb dX13_many_38 hl (k := 2) rfl (by decide +kernel) (by decide) rfl (fun ls hl => ?_)
  refine lv_goto (tgt := 13) hx hb dX13_many_41 (by decide) ?_
  refine lv_iload hx hb dX13_many_13 (lv_at hl 0 rfl) ?_
  refine lv_iload_n hx hb dX13_many_15 rfl (lv_at hl 3 rfl) ?_
  refine lv_icmp_ge (tgt := 44) hx hb dX13_many_16 (by decide) (fun h9 => absurd h9 (show ¬ (24 : Int32) ≤ (14 : Int32) by decide +kernel)) (fun _ => ?_)
  refine lv_aload_n hx hb dX13_many_19 rfl (lv_at hl 4 rfl) ?_
  refine lv_iload hx hb dX13_many_20 (lv_at hl 0 rfl) ?_
  refine va_zald (D := (dC, dI)) hx hb hK hP 1 0 rfl rfl (i := 14) (zin (by decide +kernel)) dX13_many_22 ?_
  refine zt_v (w := .int 0) rfl ?_
  refine lv_istore (lv' := [(5, .int 0), (4, .int 14), (1, .int 0), (3, .int 24), (2, .ref q1), (0, .ref q0)]) hx hb dX13_many_23 hl (by decide) rfl (fun ls hl => ?_)
  refine lv_iload_n hx hb dX13_many_25 rfl (lv_at hl 2 rfl) ?_
  refine lv_iload hx hb dX13_many_26 (lv_at hl 0 rfl) ?_
  refine lv_if_eq (tgt := 35) hx hb dX13_many_28 (by decide) (fun _ => ?_) (fun h9 => absurd (show (0 : Int32) = (0 : Int32) by decide +kernel) h9)
  refine lv_iconst (v := 0) hx hb dX13_many_35 (by decide +kernel) ?_
  refine lv_iadd hx hb dX13_many_36 ?_
  refine zt_i (v := 0) (by decide +kernel) ?_
  refine lv_istore_n (lv' := [(1, .int 0), (5, .int 0), (4, .int 14), (3, .int 24), (2, .ref q1), (0, .ref q0)]) hx hb dX13_many_37 rfl hl (by decide) rfl (fun ls hl => ?_)
  refine lv_iinc (v := 15) (lv' := [(4, .int 15), (1, .int 0), (5, .int 0), (3, .int 24), (2, .ref q1), (0, .ref q0)]) hx hb dX13_many_38 hl (k := 2) rfl (by decide +kernel) (by decide) rfl (fun ls hl => ?_)
  refine lv_goto (tgt := 13) hx hb dX13_many_41 (by decide) ?_
  refine lv_iload hx hb dX13_many_13 (lv_at hl 0 rfl) ?_
  refine lv_iload_n hx hb dX13_many_15 rfl (lv_at hl 3 rfl) ?_
  refine lv_icmp_ge (tgt := 44) hx hb dX13_many_16 (by decide) (fun h9 => absurd h9 (show ¬ (24 : Int32) ≤ (15 : Int32) by decide +kernel)) (fun _ => ?_)
  refine lv_aload_n hx hb dX13_many_19 rfl (lv_at hl 4 rfl) ?_
  refine lv_iload hx hb dX13_many_20 (lv_at hl 0 rfl) ?_
  refine va_zald (D := (dC, dI)) hx hb hK hP 1 0 rfl rfl (i := 15) (zin (by decide +kernel)) dX13_many_22 ?_
  refine zt_v (w := .int 0) rfl ?_
  refine lv_istore (lv' := [(5, .int 0), (4, .int 15), (1, .int 0), (3, .int 24), (2, .ref q1), (0, .ref q0)]) hx hb dX13_many_23 hl (by decide) rfl (fun ls hl => ?_)
  refine lv_iload_n hx hb dX13_many_25 rfl (lv_at hl 2 rfl) ?_
  refine lv_iload hx hb dX13_many_26 (lv_at hl 0 rfl) ?_
  refine lv_if_eq (tgt := 35) hx hb dX13_many_28 (by decide) (fun _ => ?_) (fun h9 => absurd (show (0 : Int32) = (0 : Int32) by decide +kernel) h9)
  refine lv_iconst (v := 0) hx hb dX13_many_35 (by decide +kernel) ?_
  refine lv_iadd hx hb dX13_many_36 ?_
  refine zt_i (v := 0) (by decide +kernel) ?_
  refine lv_istore_n (lv' := [(1, .int 0), (5, .int 0), (4, .int 15), (3, .int 24), (2, .ref q1), (0, .ref q0)]) hx hb dX13_many_37 rfl hl (by decide) rfl (fun ls hl => ?_)
  refine lv_iinc (v := 16) (lv' := [(4, .int 16), (1, .int 0), (5, .int 0), (3, .int 24), (2, .ref q1), (0, .ref q0)]) hx hb dX13_many_38 hl (k := 2) rfl (by decide +kernel) (by decide) rfl (fun ls hl => ?_)
  refine lv_goto (tgt := 13) hx hb dX13_many_41 (by decide) ?_
  refine lv_iload hx hb dX13_many_13 (lv_at hl 0 rfl) ?_
  refine lv_iload_n hx hb dX13_many_15 rfl (lv_at hl 3 rfl) ?_
  refine lv_icmp_ge (tgt := 44) hx hb dX13_many_16 (by decide) (fun h9 => absurd h9 (show ¬ (24 : Int32) ≤ (16 : Int32) by decide +kernel)) (fun _ => ?_)
  refine lv_aload_n hx hb dX13_many_19 rfl (lv_at hl 4 rfl) ?_
  refine lv_iload hx hb dX13_many_20 (lv_at hl 0 rfl) ?_
  refine va_zald (D := (dC, dI)) hx hb hK hP 1 0 rfl rfl (i := 16) (zin (by decide +kernel)) dX13_many_22 ?_
  refine zt_v (w := .int 0) rfl ?_
  refine lv_istore (lv' := [(5, .int 0), (4, .int 16), (1, .int 0), (3, .int 24), (2, .ref q1), (0, .ref q0)]) hx hb dX13_many_23 hl (by decide) rfl (fun ls hl => ?_)
  refine lv_iload_n hx hb dX13_many_25 rfl (lv_at hl 2 rfl) ?_
  refine lv_iload hx hb dX13_many_26 (lv_at hl 0 rfl) ?_
  refine lv_if_eq (tgt := 35) hx hb dX13_many_28 (by decide) (fun _ => ?_) (fun h9 => absurd (show (0 : Int32) = (0 : Int32) by decide +kernel) h9)
  refine lv_iconst (v := 0) hx hb dX13_many_35 (by decide +kernel) ?_
  refine lv_iadd hx hb dX13_many_36 ?_
  refine zt_i (v := 0) (by decide +kernel) ?_
  refine lv_istore_n (lv' := [(1, .int 0), (5, .int 0), (4, .int 16), (3, .int 24), (2, .ref q1), (0, .ref q0)]) hx hb dX13_many_37 rfl hl (by decide) rfl (fun ls hl => ?_)
  refine lv_iinc (v := 17) (lv' := [(4, .int 17), (1, .int 0), (5, .int 0), (3, .int 24), (2, .ref q1), (0, .ref q0)]) hx hb dX13_many_38 hl (k := 2) rfl (by decide +kernel) (by decide) rfl (fun ls hl => ?_)
  refine lv_goto (tgt := 13) hx hb dX13_many_41 (by decide) ?_
  refine lv_iload hx hb dX13_many_13 (lv_at hl 0 rfl) ?_
  refine lv_iload_n hx hb dX13_many_15 rfl (lv_at hl 3 rfl) ?_
  refine lv_icmp_ge (tgt := 44) hx hb dX13_many_16 (by decide) (fun h9 => absurd h9 (show ¬ (24 : Int32) ≤ (17 : Int32) by decide +kernel)) (fun _ => ?_)
  refine lv_aload_n hx hb dX13_many_19 rfl (lv_at hl 4 rfl) ?_
  refine lv_iload hx hb dX13_many_20 (lv_at hl 0 rfl) ?_
  refine va_zald (D := (dC, dI)) hx hb hK hP 1 0 rfl rfl (i := 17) (zin (by decide +kernel)) dX13_many_22 ?_
  refine zt_v (w := .int 0) rfl ?_
  refine lv_istore (lv' := [(5, .int 0), (4, .int 17), (1, .int 0), (3, .int 24), (2, .ref q1), (0, .ref q0)]) hx hb dX13_many_23 hl (by decide) rfl (fun ls hl => ?_)
  refine lv_iload_n hx hb dX13_many_25 rfl (lv_at hl 2 rfl) ?_
  refine lv_iload hx hb dX13_many_26 (lv_at hl 0 rfl) ?_
  refine lv_if_eq (tgt := 35) hx hb dX13_many_28 (by decide) (fun _ => ?_) (fun h9 => absurd (show (0 : Int32) = (0 : Int32) by decide +kernel) h9)
  refine lv_iconst (v := 0) hx hb dX13_many_35 (by decide +kernel) ?_
  refine lv_iadd hx hb dX13_many_36 ?_
  refine zt_i (v := 0) (by decide +kernel) ?_
  refine lv_istore_n (lv' := [(1, .int 0), (5, .int 0), (4, .int 17), (3, .int 24), (2, .ref q1), (0, .ref q0)]) hx hb dX13_many_37 rfl hl (by decide) rfl (fun ls hl => ?_)
  refine lv_iinc (v := 18) (lv' := [(4, .int 18), (1, .int 0), (5, .int 0), (3, .int 24), (2, .ref q1), (0, .ref q0)]) hx hb dX13_many_38 hl (k := 2) rfl (by decide +kernel) (by decide) rfl (fun ls hl => ?_)
  refine lv_goto (tgt := 13) hx hb dX13_many_41 (by decide) ?_
  refine lv_iload hx hb dX13_many_13 (lv_at hl 0 rfl) ?_
  refine lv_iload_n hx hb dX13_many_15 rfl (lv_at hl 3 rfl) ?_
  refine lv_icmp_ge (tgt := 44) hx hb dX13_many_16 (by decide) (fun h9 => absurd h9 (show ¬ (24 : Int32) ≤ (18 : Int32) by decide +kernel)) (fun _ => ?_)
  refine lv_aload_n hx hb dX13_many_19 rfl (lv_at hl 4 rfl) ?_
  refine lv_iload hx hb dX13_many_20 (lv_at hl 0 rfl) ?_
  refine va_zald (D := (dC, dI)) hx hb hK hP 1 0 rfl rfl (i := 18) (zin (by decide +kernel)) dX13_many_22 ?_
  refine zt_v (w := .int 0) rfl ?_
  refine lv_istore (lv' := [(5, .int 0), (4, .int 18), (1, .int 0), (3, .int 24), (2, .ref q1), (0, .ref q0)]) hx hb dX13_many_23 hl (by decide) rfl (fun ls hl => ?_)
  refine lv_iload_n hx hb dX13_many_25 rfl (lv_at hl 2 rfl) ?_
  refine lv_iload hx hb dX13_many_26 (lv_at hl 0 rfl) ?_
  refine lv_if_eq (tgt := 35) hx hb dX13_many_28 (by decide) (fun _ => ?_) (fun h9 => absurd (show (0 : Int32) = (0 : Int32) by decide +kernel) h9)
  refine lv_iconst (v := 0) hx hb dX13_many_35 (by decide +kernel) ?_
  refine lv_iadd hx hb dX13_many_36 ?_
  refine zt_i (v := 0) (by decide +kernel) ?_
  refine lv_istore_n (lv' := [(1, .int 0), (5, .int 0), (4, .int 18), (3, .int 24), (2, .ref q1), (0, .ref q0)]) hx hb dX13_many_37 rfl hl (by decide) rfl (fun ls hl => ?_)
  refine lv_iinc (v := 19) (lv' := [(4, .int 19), (1, .int 0), (5, .int 0), (3, .int 24), (2, .ref q1), (0, .ref q0)]) hx hb dX13_many_38 hl (k := 2) rfl (by decide +kernel) (by decide) rfl (fun ls hl => ?_)
  refine lv_goto (tgt := 13) hx hb dX13_many_41 (by decide) ?_
  refine lv_iload hx hb dX13_many_13 (lv_at hl 0 rfl) ?_
  refine lv_iload_n hx hb dX13_many_15 rfl (lv_at hl 3 rfl) ?_
  refine lv_icmp_ge (tgt := 44) hx hb dX13_many_16 (by decide) (fun h9 => absurd h9 (show ¬ (24 : Int32) ≤ (19 : Int32) by decide +kernel)) (fun _ => ?_)
  refine lv_aload_n hx hb dX13_many_19 rfl (lv_at hl 4 rfl) ?_
  refine lv_iload hx hb dX13_many_20 (lv_at hl 0 rfl) ?_
  refine va_zald (D := (dC, dI)) hx hb hK hP 1 0 rfl rfl (i := 19) (zin (by decide +kernel)) dX13_many_22 ?_
  refine zt_v (w := .int 0) rfl ?_
  refine lv_istore (lv' := [(5, .int 0), (4, .int 19), (1, .int 0), (3, .int 24), (2, .ref q1), (0, .ref q0)]) hx hb dX13_many_23 hl (by decide) rfl (fun ls hl => ?_)
  refine lv_iload_n hx hb dX13_many_25 rfl (lv_at hl 2 rfl) ?_
  refine lv_iload hx hb dX13_many_26 (lv_at hl 0 rfl) ?_
  refine lv_if_eq (tgt := 35) hx hb dX13_many_28 (by decide) (fun _ => ?_) (fun h9 => absurd (show (0 : Int32) = (0 : Int32) by decide +kernel) h9)
  refine lv_iconst (v := 0) hx hb dX13_many_35 (by decide +kernel) ?_
  refine lv_iadd hx hb dX13_many_36 ?_
  refine zt_i (v := 0) (by decide +kernel) ?_
  refine lv_istore_n (lv' := [(1, .int 0), (5, .int 0), (4, .int 19), (3, .int 24), (2, .ref q1), (0, .ref q0)]) hx hb dX13_many_37 rfl hl (by decide) rfl (fun ls hl => ?_)
  refine lv_iinc (v := 20) (lv' := [(4, .int 20), (1, .int 0), (5, .int 0), (3, .int 24), (2, .ref q1), (0, .ref q0)]) hx hb dX13_many_38 hl (k := 2) rfl (by decide +kernel) (by decide) rfl (fun ls hl => ?_)
  refine lv_goto (tgt := 13) hx hb dX13_many_41 (by decide) ?_
  refine lv_iload hx hb dX13_many_13 (lv_at hl 0 rfl) ?_
  refine lv_iload_n hx hb dX13_many_15 rfl (lv_at hl 3 rfl) ?_
  refine lv_icmp_ge (tgt := 44) hx hb dX13_many_16 (by decide) (fun h9 => absurd h9 (show ¬ (24 : Int32) ≤ (20 : Int32) by decide +kernel)) (fun _ => ?_)
  refine lv_aload_n hx hb dX13_many_19 rfl (lv_at hl 4 rfl) ?_
  refine lv_iload hx hb dX13_many_20 (lv_at hl 0 rfl) ?_
  refine va_zald (D := (dC, dI)) hx hb hK hP 1 0 rfl rfl (i := 20) (zin (by decide +kernel)) dX13_many_22 ?_
  refine zt_v (w := .int 0) rfl ?_
  refine lv_istore (lv' := [(5, .int 0), (4, .int 20), (1, .int 0), (3, .int 24), (2, .ref q1), (0, .ref q0)]) hx hb dX13_many_23 hl (by decide) rfl (fun ls hl => ?_)
  refine lv_iload_n hx hb dX13_many_25 rfl (lv_at hl 2 rfl) ?_
  refine lv_iload hx hb dX13_many_26 (lv_at hl 0 rfl) ?_
  refine lv_if_eq (tgt := 35) hx hb dX13_many_28 (by decide) (fun _ => ?_) (fun h9 => absurd (show (0 : Int32) = (0 : Int32) by decide +kernel) h9)
  refine lv_iconst (v := 0) hx hb dX13_many_35 (by decide +kernel) ?_
  refine lv_iadd hx hb dX13_many_36 ?_
  refine zt_i (v := 0) (by decide +kernel) ?_
  refine lv_istore_n (lv' := [(1, .int 0), (5, .int 0), (4, .int 20), (3, .int 24), (2, .ref q1), (0, .ref q0)]) hx hb dX13_many_37 rfl hl (by decide) rfl (fun ls hl => ?_)
  refine lv_iinc (v := 21) (lv' := [(4, .int 21), (1, .int 0), (5, .int 0), (3, .int 24), (2, .ref q1), (0, .ref q0)]) hx hb dX13_many_38 hl (k := 2) rfl (by decide +kernel) (by decide) rfl (fun ls hl => ?_)
  refine lv_goto (tgt := 13) hx hb dX13_many_41 (by decide) ?_
  refine lv_iload hx hb dX13_many_13 (lv_at hl 0 rfl) ?_
  refine lv_iload_n hx hb dX13_many_15 rfl (lv_at hl 3 rfl) ?_
  refine lv_icmp_ge (tgt := 44) hx hb dX13_many_16 (by decide) (fun h9 => absurd h9 (show ¬ (24 : Int32) ≤ (21 : Int32) by decide +kernel)) (fun _ => ?_)
  refine lv_aload_n hx hb dX13_many_19 rfl (lv_at hl 4 rfl) ?_
  refine lv_iload hx hb dX13_many_20 (lv_at hl 0 rfl) ?_
  refine va_zald (D := (dC, dI)) hx hb hK hP 1 0 rfl rfl (i := 21) (zin (by decide +kernel)) dX13_many_22 ?_
  refine zt_v (w := .int 0) rfl ?_
  refine lv_istore (lv' := [(5, .int 0), (4, .int 21), (1, .int 0), (3, .int 24), (2, .ref q1), (0, .ref q0)]) hx hb dX13_many_23 hl (by decide) rfl (fun ls hl => ?_)
  refine lv_iload_n hx hb dX13_many_25 rfl (lv_at hl 2 rfl) ?_
  refine lv_iload hx hb dX13_many_26 (lv_at hl 0 rfl) ?_
  refine lv_if_eq (tgt := 35) hx hb dX13_many_28 (by decide) (fun _ => ?_) (fun h9 => absurd (show (0 : Int32) = (0 : Int32) by decide +kernel) h9)
  refine lv_iconst (v := 0) hx hb dX13_many_35 (by decide +kernel) ?_
  refine lv_iadd hx hb dX13_many_36 ?_
  refine zt_i (v := 0) (by decide +kernel) ?_
  refine lv_istore_n (lv' := [(1, .int 0), (5, .int 0), (4, .int 21), (3, .int 24), (2, .ref q1), (0, .ref q0)]) hx hb dX13_many_37 rfl hl (by decide) rfl (fun ls hl => ?_)
  refine lv_iinc (v := 22) (lv' := [(4, .int 22), (1, .int 0), (5, .int 0), (3, .int 24), (2, .ref q1), (0, .ref q0)]) hx hb dX13_many_38 hl (k := 2) rfl (by decide +kernel) (by decide) rfl (fun ls hl => ?_)
  refine lv_goto (tgt := 13) hx hb dX13_many_41 (by decide) ?_
  refine lv_iload hx hb dX13_many_13 (lv_at hl 0 rfl) ?_
  refine lv_iload_n hx hb dX13_many_15 rfl (lv_at hl 3 rfl) ?_
  refine lv_icmp_ge (tgt := 44) hx hb dX13_many_16 (by decide) (fun h9 => absurd h9 (show ¬ (24 : Int32) ≤ (22 : Int32) by decide +kernel)) (fun _ => ?_)
  refine lv_aload_n hx hb dX13_many_19 rfl (lv_at hl 4 rfl) ?_
  refine lv_iload hx hb dX13_many_20 (lv_at hl 0 rfl) ?_
  refine va_zald (D := (dC, dI)) hx hb hK hP 1 0 rfl rfl (i := 22) (zin (by decide +kernel)) dX13_many_22 ?_
  refine zt_v (w := .int 0) rfl ?_
  refine lv_istore (lv' := [(5, .int 0), (4, .int 22), (1, .int 0), (3, .int 24), (2, .ref q1), (0, .ref q0)]) hx hb dX13_many_23 hl (by decide) rfl (fun ls hl => ?_)
  refine lv_iload_n hx hb dX13_many_25 rfl (lv_at hl 2 rfl) ?_
  refine lv_iload hx hb dX13_many_26 (lv_at hl 0 rfl) ?_
  refine lv_if_eq (tgt := 35) hx hb dX13_many_28 (by decide) (fun _ => ?_) (fun h9 => absurd (show (0 : Int32) = (0 : Int32) by decide +kernel) h9)
  refine lv_iconst (v := 0) hx hb dX13_many_35 (by decide +kernel) ?_
  refine lv_iadd hx hb dX13_many_36 ?_
  refine zt_i (v := 0) (by decide +kernel) ?_
  refine lv_istore_n (lv' := [(1, .int 0), (5, .int 0), (4, .int 22), (3, .int 24), (2, .ref q1), (0, .ref q0)]) hx hb dX13_many_37 rfl hl (by decide) rfl (fun ls hl => ?_)
  refine lv_iinc (v := 23) (lv' := [(4, .int 23), (1, .int 0), (5, .int 0), (3, .int 24), (2, .ref q1), (0, .ref q0)]) hx hb dX13_many_38 hl (k := 2) rfl (by decide +kernel) (by decide) rfl (fun ls hl => ?_)
  refine lv_goto (tgt := 13) hx hb dX13_many_41 (by decide) ?_
  refine lv_iload hx hb dX13_many_13 (lv_at hl 0 rfl) ?_
  refine lv_iload_n hx hb dX13_many_15 rfl (lv_at hl 3 rfl) ?_
  refine lv_icmp_ge (tgt := 44) hx hb dX13_many_16 (by decide) (fun h9 => absurd h9 (show ¬ (24 : Int32) ≤ (23 : Int32) by decide +kernel)) (fun _ => ?_)
  refine lv_aload_n hx hb dX13_many_19 rfl (lv_at hl 4 rfl) ?_
  refine lv_iload hx hb dX13_many_20 (lv_at hl 0 rfl) ?_
  refine va_zald (D := (dC, dI)) hx hb hK hP 1 0 rfl rfl (i := 23) (zin (by decide +kernel)) dX13_many_22 ?_
  refine zt_v (w := .int 0) rfl ?_
  refine lv_istore (lv' := [(5, .int 0), (4, .int 23), (1, .int 0), (3, .int 24), (2, .ref q1), (0, .ref q0)]) hx hb dX13_many_23 hl (by decide) rfl (fun ls hl => ?_)
  refine lv_iload_n hx hb dX13_many_25 rfl (lv_at hl 2 rfl) ?_
  refine lv_iload hx hb dX13_many_26 (lv_at hl 0 rfl) ?_
  refine lv_if_eq (tgt := 35) hx hb dX13_many_28 (by decide) (fun _ => ?_) (fun h9 => absurd (show (0 : Int32) = (0 : Int32) by decide +kernel) h9)
  refine lv_iconst (v := 0) hx hb dX13_many_35 (by decide +kernel) ?_
  refine lv_iadd hx hb dX13_many_36 ?_
  refine zt_i (v := 0) (by decide +kernel) ?_
  refine lv_istore_n (lv' := [(1, .int 0), (5, .int 0), (4, .int 23), (3, .int 24), (2, .ref q1), (0, .ref q0)]) hx hb dX13_many_37 rfl hl (by decide) rfl (fun ls hl => ?_)
  refine lv_iinc (v := 24) (lv' := [(4, .int 24), (1, .int 0), (5, .int 0), (3, .int 24), (2, .ref q1), (0, .ref q0)]) hx hb dX13_many_38 hl (k := 2) rfl (by decide +kernel) (by decide) rfl (fun ls hl => ?_)
  refine lv_goto (tgt := 13) hx hb dX13_many_41 (by decide) ?_
  refine lv_iload hx hb dX13_many_13 (lv_at hl 0 rfl) ?_
  refine lv_iload_n hx hb dX13_many_15 rfl (lv_at hl 3 rfl) ?_
  refine lv_icmp_ge (tgt := 44) hx hb dX13_many_16 (by decide) (fun _ => ?_) (fun h9 => absurd (show (24 : Int32) ≤ (24 : Int32) by decide +kernel) h9)
  refine lv_iload_n hx hb dX13_many_44 rfl (lv_at hl 1 rfl) ?_
  have hP9 := hP.sub (ws' := []) [] rfl
  have hD9 := hD.sub (ws' := []) [] (by decide) rfl
  have hK9 := hK.sub (tys' := []) [] rfl
  exact W.iret (v := 0) hx hb hr (fun t ht hW => ⟨⟨0, (), rfl, rfl, ⟨by rw [ht]; exact hP9, va_K.moved hW.alike hK9, hD9⟩⟩, hS.F ht⟩) hS.2.2 dX13_many_45
