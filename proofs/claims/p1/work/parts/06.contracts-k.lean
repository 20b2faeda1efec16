/-! contracts, written by program -/
set_option maxHeartbeats 4000000 in
set_option maxRecDepth 100000 in
theorem c_L_news_2 (l : Launch) (hfl : l.stackTraces = false) (dC : Nat → ClassId) (dI : Nat → Nat → Nat) (q0 q1 q2 q3 q4 q5 q6 q7 q8 q9 q10 q11 q12 q13 q14 q15 : Nat) (sz : Nat) (p1 : Int32) (hc0 : ¬ p1 < 0) (hc1 : (0 : Int32) ≤ p1) : Met l yL_news wsL_news ({ frames := 8, cells := 1, slots := 6, locals := 137 }) (va_Pc [.ref q0, .int p1, .ref q1] (zB (dC, dI) [] [(q0, .inr (13, [.ref q2, .ref q3, .ref q4, .ref q5, .ref q6, .ref q7, .ref q8, .ref q9, .int 0, .ref q10, .ref q11, .ref q12, .ref q13, .ref q14])), (q3, .inr (11, [.ref q15, .int 0, .int 1]))] sz)) (va_Qi (fun (r : Int32) (_ : Unit) => 1 = r) (fun _ t => zE (dC, dI) [] [] (va_A [(q0, .inr (13, [.ref q2, .ref q3, .ref q4, .ref q5, .ref q6, .ref q7, .ref q8, .ref q9, .int 0, .ref q10, .ref q11, .ref q12, .ref q13, .ref q14])), (q3, .inr (11, [.ref q15, .int 0, .int 1]))] sz) t) (va_A [(q0, .inr (13, [.ref q2, .ref q3, .ref q4, .ref q5, .ref q6, .ref q7, .ref q8, .ref q9, .int 0, .ref q10, .ref q11, .ref q12, .ref q13, .ref q14])), (q3, .inr (11, [.ref q15, .int 0, .int 1]))] sz)) 1 6 (va_A [(q0, .inr (13, [.ref q2, .ref q3, .ref q4, .ref q5, .ref q6, .ref q7, .ref q8, .ref q9, .int 0, .ref q10, .ref q11, .ref q12, .ref q13, .ref q14])), (q3, .inr (11, [.ref q15, .int 0, .int 1]))] sz) := by
  refine va_MetW (cc := cL_news) (maxL := 4) (ret := (some .int)) (by decide) rfl ?_
  intro p e s m args below meth c s₁ B hml hv
  obtain ⟨rfl, hsz, hP, hK, hD0, hZ, hN⟩ := hv
  have hx := B.exec
  have hb := B.bytes
  have hr := B.returns
  have hts := atoms_spec (ws := wsL_news) B.pre
  have hown : s.vm.findClass RL = some m.cls := findClass_of_methodNamed B.named
  have hlocks := B.notSynchronized
  have htab := vx_table (x := yL_news) B (hts (.codeWith yL_news cL_news 4 (some .int) [(0, 9, 12, 31)]) List.mem_cons_self)
  subst hsz
  have hD := hD0.self (sz := s.heap.size)
  generalize hAe : va_A [(q0, .inr (13, [.ref q2, .ref q3, .ref q4, .ref q5, .ref q6, .ref q7, .ref q8, .ref q9, .int 0, .ref q10, .ref q11, .ref q12, .ref q13, .ref q14])), (q3, .inr (11, [.ref q15, .int 0, .int 1]))] s.heap.size = A at hD hZ ⊢
  have hA : ∀ q : Nat, s.heap.size ≤ q → A q := fun q h => by rw [← hAe]; exact Or.inr h
  have hS : va_S A s.heap s.heap [] := va_S.rf
  have hP : va_P (dC, dI) vwCl [(q0, .inr (13, [.ref q2, .ref q3, .ref q4, .ref q5, .ref q6, .ref q7, .ref q8, .ref q9, .int 0, .ref q10, .ref q11, .ref q12, .ref q13, .ref q14])), (q3, .inr (11, [.ref q15, .int 0, .int 1]))] s.heap := hP
  have hl := lv_entry ([.ref q0, .int p1, .ref q1]) (n := 4) (Nat.le_of_ble_eq_true rfl)
  rw [lg_entry_eq]
  generalize (lg_sl ([.ref q0, .int p1, .ref q1]) ++ List.replicate (4 - (lg_sl ([.ref q0, .int p1, .ref q1])).length) Slot.unset).toArray = ls at hl ⊢
  have hl : lv_has ls 4 [(0, .ref q0), (1, .int p1), (2, .ref q1)] := hl
  refine lv_aload_n hx hb dL_news_0 rfl (lv_at hl 2 rfl) ?_
  refine lv_iconst (v := 0) hx hb dL_news_1 (by decide +kernel) ?_
  refine lv_aload_n hx hb dL_news_2 rfl (lv_at hl 0 rfl) ?_
  refine lv_iload_n hx hb dL_news_3 rfl (lv_at hl 1 rfl) ?_
  have hPc := hP.sub (ws' := [(q0, .inr (13, [.ref q2, .ref q3, .ref q4, .ref q5, .ref q6, .ref q7, .ref q8, .ref q9, .int 0, .ref q10, .ref q11, .ref q12, .ref q13, .ref q14])), (q3, .inr (11, [.ref q15, .int 0, .int 1]))]) [0, 1] rfl
  have hDc := hD.sub (ws' := [(q0, .inr (13, [.ref q2, .ref q3, .ref q4, .ref q5, .ref q6, .ref q7, .ref q8, .ref q9, .int 0, .ref q10, .ref q11, .ref q12, .ref q13, .ref q14])), (q3, .inr (11, [.ref q15, .int 0, .int 1]))]) [0, 1] (by decide) rfl
  have hKc := hK.sub (tys' := []) [] rfl
  have hFc := va_free (wc := [(q0, .inr (13, [.ref q2, .ref q3, .ref q4, .ref q5, .ref q6, .ref q7, .ref q8, .ref q9, .int 0, .ref q10, .ref q11, .ref q12, .ref q13, .ref q14])), (q3, .inr (11, [.ref q15, .int 0, .int 1]))]) hD hS hA [0, 1] rfl
  refine vx_calli (vx_runV (As := [.int p1]) (rest := [.int 0, .ref q1]) ⟨hx, hb, hml, hown, hts⟩ (c_X11_news_2 l hfl dC dI q0 q2 q3 q4 q5 q6 q7 q8 q9 q10 q11 q12 q13 q14 q15 s.heap.size p1 hc0 hc1) (cwV 1 hts gL_news_X11_news rfl rfl rfl (by decide +kernel) ⟨Nat.le_of_ble_eq_true rfl, Nat.le_of_ble_eq_true rfl⟩) ⟨zB_blind, va_recv hK hP (ci := 13) (q0 := 0) rfl rfl, (zPre hPc hDc hKc hS hFc hZ hN)⟩ rfl rfl hl.1 rfl (lv_room (Nat.le_of_ble_eq_true rfl)) dL_news_4 ⟨Nat.le_of_ble_eq_true rfl, Nat.le_of_ble_eq_true rfl⟩) hS (fun q _ h => hFc q h) hFc (fun q _ h => hFc q h) (fun E ce qx u t H1 locs1 ht hvm hpx hBX hz1 hk1 hS hq9 hv9 hcl9 => ?_) (fun r u t H1 locs1 _ _ hw => hw.elim)
  subst hBX
  refine vx_catch (name := "java/util/NoSuchElementException") hown [] ⟨0, 9, 12, 31⟩ [] (by rw [htab]; rfl) (fun z h => absurd h List.not_mem_nil) rfl (by decide) (hts (.classLink RL 31 "java/util/NoSuchElementException") (by decide +kernel)) (va_Nw.use rfl (hN.2.1 "java/util/NoSuchElementException" (by decide +kernel))) hq9 hv9 hcl9 ?_
  generalize H1 = H at hS ⊢
  refine W.widen (k := 1) (n := 6) (Nat.le_of_ble_eq_true rfl) (Nat.le_of_ble_eq_true rfl) ?_
  have hP : va_P (dC, dI) vwCl [] H := zP_nil
  have hD : va_D A [] := zD_nil
  have hK := hK.sub (tys' := []) [] rfl
  refine lv_astore_n (lv' := [(3, .ref qx), (0, .ref q0), (1, .int p1), (2, .ref q1)]) hx hb dL_news_12 rfl hl (by decide) rfl (fun ls hl => ?_)
  refine lv_iconst (v := 1) hx hb dL_news_13 (by decide +kernel) ?_
  have hP9 := hP.sub (ws' := []) [] rfl
  have hD9 := hD.sub (ws' := []) [] (by decide) rfl
  have hK9 := hK.sub (tys' := []) [] rfl
  exact W.iret (v := 1) hx hb hr (fun t ht hW => ⟨⟨1, (), rfl, rfl, ⟨by rw [ht]; exact hP9, va_K.moved hW.alike hK9, hD9⟩⟩, hS.F ht⟩) hS.2.2 dL_news_14
set_option maxHeartbeats 4000000 in
set_option maxRecDepth 100000 in
theorem c_X13_news_2 (l : Launch) (dC : Nat → ClassId) (dI : Nat → Nat → Nat) (q0 q1 q2 q3 q4 q5 q6 q7 q8 q9 q10 q11 q12 q13 q14 q15 q16 q17 q18 q19 : Nat) (sz : Nat) (p1 : Int32) (hc0 : ¬ p1 < 0) (hc1 : ((-1) : Int32) < p1) : Met l yX13_news wsX13_news ({ frames := 2, cells := 0, slots := 0, locals := 43 }) (va_Pc [.ref q0, .int p1] (zB (dC, dI) [] [(q0, .inr (15, [.ref q1, .ref q2, .ref q3, .ref q4, .ref q5, .ref q6, .int 0, .int 1, .ref q7, .int 0, .ref q8, .null, .ref q9, .null, .ref q10, .ref q11, .ref q12, .ref q13, .ref q14, .int 0, .ref q15, .ref q16, .ref q17, .ref q18, .ref q19, .int 0, .int 0]))] sz)) (va_Qi (fun (r : Int32) (_ : Unit) => 0 = r) (fun _ t => zE (dC, dI) [] [(q0, .inr (15, [.ref q1, .ref q2, .ref q3, .ref q4, .ref q5, .ref q6, .int 0, .int 1, .ref q7, .int 0, .ref q8, .null, .ref q9, .null, .ref q10, .ref q11, .ref q12, .ref q13, .ref q14, .int 1, .ref q15, .ref q16, .ref q17, .ref q18, .ref q19, .int 0, .int 0]))] (va_A [(q0, .inr (15, [.ref q1, .ref q2, .ref q3, .ref q4, .ref q5, .ref q6, .int 0, .int 1, .ref q7, .int 0, .ref q8, .null, .ref q9, .null, .ref q10, .ref q11, .ref q12, .ref q13, .ref q14, .int 0, .ref q15, .ref q16, .ref q17, .ref q18, .ref q19, .int 0, .int 0]))] sz) t) (va_A [(q0, .inr (15, [.ref q1, .ref q2, .ref q3, .ref q4, .ref q5, .ref q6, .int 0, .int 1, .ref q7, .int 0, .ref q8, .null, .ref q9, .null, .ref q10, .ref q11, .ref q12, .ref q13, .ref q14, .int 0, .ref q15, .ref q16, .ref q17, .ref q18, .ref q19, .int 0, .int 0]))] sz)) 0 0 (va_A [(q0, .inr (15, [.ref q1, .ref q2, .ref q3, .ref q4, .ref q5, .ref q6, .int 0, .int 1, .ref q7, .int 0, .ref q8, .null, .ref q9, .null, .ref q10, .ref q11, .ref q12, .ref q13, .ref q14, .int 0, .ref q15, .ref q16, .ref q17, .ref q18, .ref q19, .int 0, .int 0]))] sz) := by
  refine Met.ofW (cc := cX13_news) (maxL := 4) (ret := (some .int)) (by decide) rfl ?_
  intro p e s m args below meth c s₁ B hml hv
  obtain ⟨rfl, hsz, hP, hK, hD0, hZ, hN⟩ := hv
  have hx := B.exec
  have hb := B.bytes
  have hr := B.returns
  have hts := atoms_spec (ws := wsX13_news) B.pre
  have hown : s.vm.findClass RX13 = some m.cls := findClass_of_methodNamed B.named
  have hlocks := B.notSynchronized
  subst hsz
  have hD := hD0.self (sz := s.heap.size)
  generalize hAe : va_A [(q0, .inr (15, [.ref q1, .ref q2, .ref q3, .ref q4, .ref q5, .ref q6, .int 0, .int 1, .ref q7, .int 0, .ref q8, .null, .ref q9, .null, .ref q10, .ref q11, .ref q12, .ref q13, .ref q14, .int 0, .ref q15, .ref q16, .ref q17, .ref q18, .ref q19, .int 0, .int 0]))] s.heap.size = A at hD hZ ⊢
  have hA : ∀ q : Nat, s.heap.size ≤ q → A q := fun q h => by rw [← hAe]; exact Or.inr h
  have hS : va_S A s.heap s.heap [] := va_S.rf
  have hP : va_P (dC, dI) vwCl [(q0, .inr (15, [.ref q1, .ref q2, .ref q3, .ref q4, .ref q5, .ref q6, .int 0, .int 1, .ref q7, .int 0, .ref q8, .null, .ref q9, .null, .ref q10, .ref q11, .ref q12, .ref q13, .ref q14, .int 0, .ref q15, .ref q16, .ref q17, .ref q18, .ref q19, .int 0, .int 0]))] s.heap := hP
  have hl := lv_entry ([.ref q0, .int p1]) (n := 4) (Nat.le_of_ble_eq_true rfl)
  rw [lg_entry_eq]
  generalize (lg_sl ([.ref q0, .int p1]) ++ List.replicate (4 - (lg_sl ([.ref q0, .int p1])).length) Slot.unset).toArray = ls at hl ⊢
  have hl : lv_has ls 4 [(0, .ref q0), (1, .int p1)] := hl
  refine lv_aload_n hx hb dX13_news_0 rfl (lv_at hl 0 rfl) ?_
  refine lv_aload_n hx hb dX13_news_1 rfl (lv_at hl 0 rfl) ?_
  refine lv_iload_n hx hb dX13_news_2 rfl (lv_at hl 1 rfl) ?_
  have hPc := hP.sub (ws' := [(q0, .inr (15, [.ref q1, .ref q2, .ref q3, .ref q4, .ref q5, .ref q6, .int 0, .int 1, .ref q7, .int 0, .ref q8, .null, .ref q9, .null, .ref q10, .ref q11, .ref q12, .ref q13, .ref q14, .int 0, .ref q15, .ref q16, .ref q17, .ref q18, .ref q19, .int 0, .int 0]))]) [0] rfl
  have hDc := hD.sub (ws' := [(q0, .inr (15, [.ref q1, .ref q2, .ref q3, .ref q4, .ref q5, .ref q6, .int 0, .int 1, .ref q7, .int 0, .ref q8, .null, .ref q9, .null, .ref q10, .ref q11, .ref q12, .ref q13, .ref q14, .int 0, .ref q15, .ref q16, .ref q17, .ref q18, .ref q19, .int 0, .int 0]))]) [0] (by decide) rfl
  have hKc := hK.sub (tys' := []) [] rfl
  have hFc := va_free (wc := [(q0, .inr (15, [.ref q1, .ref q2, .ref q3, .ref q4, .ref q5, .ref q6, .int 0, .int 1, .ref q7, .int 0, .ref q8, .null, .ref q9, .null, .ref q10, .ref q11, .ref q12, .ref q13, .ref q14, .int 0, .ref q15, .ref q16, .ref q17, .ref q18, .ref q19, .int 0, .int 0]))]) hD hS hA [0] rfl
  refine va_calli (va_runV (As := [.int p1]) (rest := [.ref q0]) ⟨hx, hb, hml, hown, hts⟩ (c_X13_isText_2 l dC dI q0 q1 q2 q3 q4 q5 q6 q7 q8 q9 q10 q11 q12 q13 q14 q15 q16 q17 q18 q19 s.heap.size p1 hc0 hc1) (cwV 1 hts gX13_news_X13_isText rfl rfl rfl (by decide +kernel) ⟨Nat.le_of_ble_eq_true rfl, Nat.le_of_ble_eq_true rfl⟩) ⟨zB_blind, va_recv hK hP (ci := 15) (q0 := 0) rfl rfl, (zPre hPc hDc hKc hS hFc hZ hN)⟩ rfl rfl hl.1 rfl (lv_room (Nat.le_of_ble_eq_true rfl)) dX13_news_3 ⟨Nat.le_of_ble_eq_true rfl, Nat.le_of_ble_eq_true rfl⟩) hS (fun q _ h => hFc q h) hFc (fun r u t H1 locs ht hvm hw hB hz1 hk1 hS => ?_)
  subst hw
  obtain ⟨hP1, hK1, hD1⟩ := hB
  rw [ht] at hP1
  have hK1 := va_K.moved hvm.symm hK1
  obtain ⟨hP, hD⟩ := va_join (wr := []) (w1 := [(q0, .inr (15, [.ref q1, .ref q2, .ref q3, .ref q4, .ref q5, .ref q6, .int 0, .int 1, .ref q7, .int 0, .ref q8, .null, .ref q9, .null, .ref q10, .ref q11, .ref q12, .ref q13, .ref q14, .int 0, .ref q15, .ref q16, .ref q17, .ref q18, .ref q19, .int 0, .int 0]))]) hP hD [0] [] rfl rfl (by decide) (by decide) hk1 hFc hP1 hD1
  have hK := (hK.sub (tys' := []) [] rfl).app hK1
  generalize H1 = H at hP hS ⊢
  have hP : va_P (dC, dI) vwCl [(q0, .inr (15, [.ref q1, .ref q2, .ref q3, .ref q4, .ref q5, .ref q6, .int 0, .int 1, .ref q7, .int 0, .ref q8, .null, .ref q9, .null, .ref q10, .ref q11, .ref q12, .ref q13, .ref q14, .int 0, .ref q15, .ref q16, .ref q17, .ref q18, .ref q19, .int 0, .int 0]))] H := hP
  have hD : va_D A [(q0, .inr (15, [.ref q1, .ref q2, .ref q3, .ref q4, .ref q5, .ref q6, .int 0, .int 1, .ref q7, .int 0, .ref q8, .null, .ref q9, .null, .ref q10, .ref q11, .ref q12, .ref q13, .ref q14, .int 0, .ref q15, .ref q16, .ref q17, .ref q18, .ref q19, .int 0, .int 0]))] := hD
  have hK : va_K (dC, dI) vwCl [] s := hK
  refine W.widen (k := 0) (n := 0) (Nat.le_of_ble_eq_true rfl) (Nat.le_of_ble_eq_true rfl) ?_
  refine lv_iconst (v := 1) hx hb dX13_news_6 (by decide +kernel) ?_
  have hPc := hP.sub (ws' := [(q0, .inr (15, [.ref q1, .ref q2, .ref q3, .ref q4, .ref q5, .ref q6, .int 0, .int 1, .ref q7, .int 0, .ref q8, .null, .ref q9, .null, .ref q10, .ref q11, .ref q12, .ref q13, .ref q14, .int 0, .ref q15, .ref q16, .ref q17, .ref q18, .ref q19, .int 0, .int 0]))]) [0] rfl
  have hDc := hD.sub (ws' := [(q0, .inr (15, [.ref q1, .ref q2, .ref q3, .ref q4, .ref q5, .ref q6, .int 0, .int 1, .ref q7, .int 0, .ref q8, .null, .ref q9, .null, .ref q10, .ref q11, .ref q12, .ref q13, .ref q14, .int 0, .ref q15, .ref q16, .ref q17, .ref q18, .ref q19, .int 0, .int 0]))]) [0] (by decide) rfl
  have hKc := hK.sub (tys' := []) [] rfl
  have hFc := va_free (wc := [(q0, .inr (15, [.ref q1, .ref q2, .ref q3, .ref q4, .ref q5, .ref q6, .int 0, .int 1, .ref q7, .int 0, .ref q8, .null, .ref q9, .null, .ref q10, .ref q11, .ref q12, .ref q13, .ref q14, .int 0, .ref q15, .ref q16, .ref q17, .ref q18, .ref q19, .int 0, .int 0]))]) hD hS hA [0] rfl
  refine va_calli (va_runV (As := [.int 0, .int 1]) (rest := []) ⟨hx, hb, hml, hown, hts⟩ (c_X13_no l dC dI q0 q1 q2 q3 q4 q5 q6 q7 q8 q9 q10 q11 q12 q13 q14 q15 q16 q17 q18 q19 H.size  ) (cwV 2 hts gX13_news_X13_no rfl rfl rfl (by decide +kernel) ⟨Nat.le_of_ble_eq_true rfl, Nat.le_of_ble_eq_true rfl⟩) ⟨zB_blind, va_recv hK hP (ci := 15) (q0 := 0) rfl rfl, (zPre hPc hDc hKc hS hFc hZ hN)⟩ rfl rfl hl.1 rfl (lv_room (Nat.le_of_ble_eq_true rfl)) dX13_news_7 ⟨Nat.le_of_ble_eq_true rfl, Nat.le_of_ble_eq_true rfl⟩) hS (fun q _ h => hFc q h) hFc (fun r u t H1 locs ht hvm hw hB hz1 hk1 hS => ?_)
  subst hw
  obtain ⟨hP1, hK1, hD1⟩ := hB
  rw [ht] at hP1
  have hK1 := va_K.moved hvm.symm hK1
  obtain ⟨hP, hD⟩ := va_join (wr := []) (w1 := [(q0, .inr (15, [.ref q1, .ref q2, .ref q3, .ref q4, .ref q5, .ref q6, .int 0, .int 1, .ref q7, .int 0, .ref q8, .null, .ref q9, .null, .ref q10, .ref q11, .ref q12, .ref q13, .ref q14, .int 1, .ref q15, .ref q16, .ref q17, .ref q18, .ref q19, .int 0, .int 0]))]) hP hD [0] [] rfl rfl (by decide) (by decide) hk1 hFc hP1 hD1
  have hK := (hK.sub (tys' := []) [] rfl).app hK1
  generalize H1 = H at hP hS ⊢
  have hP : va_P (dC, dI) vwCl [(q0, .inr (15, [.ref q1, .ref q2, .ref q3, .ref q4, .ref q5, .ref q6, .int 0, .int 1, .ref q7, .int 0, .ref q8, .null, .ref q9, .null, .ref q10, .ref q11, .ref q12, .ref q13, .ref q14, .int 1, .ref q15, .ref q16, .ref q17, .ref q18, .ref q19, .int 0, .int 0]))] H := hP
  have hD : va_D A [(q0, .inr (15, [.ref q1, .ref q2, .ref q3, .ref q4, .ref q5, .ref q6, .int 0, .int 1, .ref q7, .int 0, .ref q8, .null, .ref q9, .null, .ref q10, .ref q11, .ref q12, .ref q13, .ref q14, .int 1, .ref q15, .ref q16, .ref q17, .ref q18, .ref q19, .int 0, .int 0]))] := hD
  have hK : va_K (dC, dI) vwCl [] s := hK
  refine W.widen (k := 0) (n := 0) (Nat.le_of_ble_eq_true rfl) (Nat.le_of_ble_eq_true rfl) ?_
  refine lv_if_eq (tgt := 15) hx hb dX13_news_10 (by decide) (fun h9 => absurd h9 (show ¬ (1 : Int32) = (0 : Int32) by decide +kernel)) (fun _ => ?_)
  refine lv_iconst (v := 0) hx hb dX13_news_13 (by decide +kernel) ?_
  have hP9 := hP.sub (ws' := [(q0, .inr (15, [.ref q1, .ref q2, .ref q3, .ref q4, .ref q5, .ref q6, .int 0, .int 1, .ref q7, .int 0, .ref q8, .null, .ref q9, .null, .ref q10, .ref q11, .ref q12, .ref q13, .ref q14, .int 1, .ref q15, .ref q16, .ref q17, .ref q18, .ref q19, .int 0, .int 0]))]) [0] rfl
  have hD9 := hD.sub (ws' := [(q0, .inr (15, [.ref q1, .ref q2, .ref q3, .ref q4, .ref q5, .ref q6, .int 0, .int 1, .ref q7, .int 0, .ref q8, .null, .ref q9, .null, .ref q10, .ref q11, .ref q12, .ref q13, .ref q14, .int 1, .ref q15, .ref q16, .ref q17, .ref q18, .ref q19, .int 0, .int 0]))]) [0] (by decide) rfl
  have hK9 := hK.sub (tys' := []) [] rfl
  exact W.iret (v := 0) hx hb hr (fun t ht hW => ⟨⟨0, (), rfl, rfl, ⟨by rw [ht]; exact hP9, va_K.moved hW.alike hK9, hD9⟩⟩, hS.F ht⟩) hS.2.2 dX13_news_14
set_option maxHeartbeats 4000000 in
set_option maxRecDepth 100000 in
theorem c_X11_likeness (l : Launch) (hfl : l.stackTraces = false) (dC : Nat → ClassId) (dI : Nat → Nat → Nat) (q0 q1 q2 q3 q4 q5 q6 q7 q8 q9 q10 q11 q12 q13 q14 : Nat) (sz : Nat) (p1 : Int32) (p2 : Int32) (hc0 : p1 < 0) : vx_Met l yX11_likeness wsX11_likeness ({ frames := 7, cells := 1, slots := 6, locals := 112 }) (va_Pc [.ref q0, .int p1, .int p2] (zB (dC, dI) [] [(q0, .inr (13, [.ref q1, .ref q2, .ref q3, .ref q4, .ref q5, .ref q6, .ref q7, .ref q8, .int 0, .ref q9, .ref q10, .ref q11, .ref q12, .ref q13])), (q2, .inr (11, [.ref q14, .int 0, .int 1]))] sz)) (va_Qi (fun (_ : Int32) (_ : Unit) => False) (fun _ _ => True) (va_A [(q0, .inr (13, [.ref q1, .ref q2, .ref q3, .ref q4, .ref q5, .ref q6, .ref q7, .ref q8, .int 0, .ref q9, .ref q10, .ref q11, .ref q12, .ref q13])), (q2, .inr (11, [.ref q14, .int 0, .int 1]))] sz)) (vx_X (fun (_ : Unit) => True) (fun E _ _ => "java/util/NoSuchElementException" = E) (va_A [(q0, .inr (13, [.ref q1, .ref q2, .ref q3, .ref q4, .ref q5, .ref q6, .ref q7, .ref q8, .int 0, .ref q9, .ref q10, .ref q11, .ref q12, .ref q13])), (q2, .inr (11, [.ref q14, .int 0, .int 1]))] sz)) 1 6 (va_A [(q0, .inr (13, [.ref q1, .ref q2, .ref q3, .ref q4, .ref q5, .ref q6, .ref q7, .ref q8, .int 0, .ref q9, .ref q10, .ref q11, .ref q12, .ref q13])), (q2, .inr (11, [.ref q14, .int 0, .int 1]))] sz) := by
  refine vx_ofW (cc := cX11_likeness) (maxL := 7) (ret := (some .int)) (by decide) rfl ?_
  intro p e s m args below meth c s₁ B hml hnoex hv
  obtain ⟨rfl, hsz, hP, hK, hD0, hZ, hN⟩ := hv
  have hx := B.exec
  have hb := B.bytes
  have hr := B.returns
  have hts := atoms_spec (ws := wsX11_likeness) B.pre
  have hown : s.vm.findClass RX11 = some m.cls := findClass_of_methodNamed B.named
  have hlocks := B.notSynchronized
  subst hsz
  have hD := hD0.self (sz := s.heap.size)
  generalize hAe : va_A [(q0, .inr (13, [.ref q1, .ref q2, .ref q3, .ref q4, .ref q5, .ref q6, .ref q7, .ref q8, .int 0, .ref q9, .ref q10, .ref q11, .ref q12, .ref q13])), (q2, .inr (11, [.ref q14, .int 0, .int 1]))] s.heap.size = A at hD hZ ⊢
  have hA : ∀ q : Nat, s.heap.size ≤ q → A q := fun q h => by rw [← hAe]; exact Or.inr h
  have hS : va_S A s.heap s.heap [] := va_S.rf
  have hP : va_P (dC, dI) vwCl [(q0, .inr (13, [.ref q1, .ref q2, .ref q3, .ref q4, .ref q5, .ref q6, .ref q7, .ref q8, .int 0, .ref q9, .ref q10, .ref q11, .ref q12, .ref q13])), (q2, .inr (11, [.ref q14, .int 0, .int 1]))] s.heap := hP
  have hl := lv_entry ([.ref q0, .int p1, .int p2]) (n := 7) (Nat.le_of_ble_eq_true rfl)
  rw [lg_entry_eq]
  generalize (lg_sl ([.ref q0, .int p1, .int p2]) ++ List.replicate (7 - (lg_sl ([.ref q0, .int p1, .int p2])).length) Slot.unset).toArray = ls at hl ⊢
  have hl : lv_has ls 7 [(0, .ref q0), (1, .int p1), (2, .int p2)] := hl
  refine lv_aload_n hx hb dX11_likeness_0 rfl (lv_at hl 0 rfl) ?_
  refine lv_iload_n hx hb dX11_likeness_1 rfl (lv_at hl 1 rfl) ?_
  have hPc := hP.sub (ws' := [(q0, .inr (13, [.ref q1, .ref q2, .ref q3, .ref q4, .ref q5, .ref q6, .ref q7, .ref q8, .int 0, .ref q9, .ref q10, .ref q11, .ref q12, .ref q13])), (q2, .inr (11, [.ref q14, .int 0, .int 1]))]) [0, 1] rfl
  have hDc := hD.sub (ws' := [(q0, .inr (13, [.ref q1, .ref q2, .ref q3, .ref q4, .ref q5, .ref q6, .ref q7, .ref q8, .int 0, .ref q9, .ref q10, .ref q11, .ref q12, .ref q13])), (q2, .inr (11, [.ref q14, .int 0, .int 1]))]) [0, 1] (by decide) rfl
  have hKc := hK.sub (tys' := []) [] rfl
  have hFc := va_free (wc := [(q0, .inr (13, [.ref q1, .ref q2, .ref q3, .ref q4, .ref q5, .ref q6, .ref q7, .ref q8, .int 0, .ref q9, .ref q10, .ref q11, .ref q12, .ref q13])), (q2, .inr (11, [.ref q14, .int 0, .int 1]))]) hD hS hA [0, 1] rfl
  refine vx_callq (vx_runV (As := [.int p1]) (rest := []) ⟨hx, hb, hml, hown, hts⟩ (c_X11_textOf l hfl dC dI q0 q1 q2 q3 q4 q5 q6 q7 q8 q9 q10 q11 q12 q13 q14 s.heap.size p1 hc0) (cwV 1 hts gX11_likeness_X11_textOf rfl rfl rfl (by decide +kernel) ⟨Nat.le_of_ble_eq_true rfl, Nat.le_of_ble_eq_true rfl⟩) ⟨zB_blind, va_recv hK hP (ci := 13) (q0 := 0) rfl rfl, (zPre hPc hDc hKc hS hFc hZ hN)⟩ rfl rfl hl.1 rfl (lv_room (Nat.le_of_ble_eq_true rfl)) dX11_likeness_2 ⟨Nat.le_of_ble_eq_true rfl, Nat.le_of_ble_eq_true rfl⟩) hS (fun q _ h => hFc q h) hFc (fun q _ h => hFc q h) (fun E ce qx u t H1 locs1 ht hvm hpx hBX hz1 hk1 hS hq9 hv9 hcl9 => ?_) (fun r u t H1 locs1 _ _ hw => hw.elim)
  subst hBX
  exact vx_out (fun x h => ((hnoex x h).elim)) hlocks hq9 hv9 hcl9 (fun t h1 _ => ⟨(), trivial, rfl, hS.F h1⟩) hS.2.2 (Nat.le_refl _) (Nat.le_refl _)
set_option maxHeartbeats 4000000 in
set_option maxRecDepth 100000 in
theorem c_L_likeness (l : Launch) (hfl : l.stackTraces = false) (dC : Nat → ClassId) (dI : Nat → Nat → Nat) (q0 q1 q2 q3 q4 q5 q6 q7 q8 q9 q10 q11 q12 q13 q14 q15 : Nat) (sz : Nat) (p1 : Int32) (p2 : Int32) (hc0 : p1 < 0) : Met l yL_likeness wsL_likeness ({ frames := 8, cells := 1, slots := 6, locals := 138 }) (va_Pc [.ref q0, .int p1, .int p2, .ref q1] (zB (dC, dI) [] [(q0, .inr (13, [.ref q2, .ref q3, .ref q4, .ref q5, .ref q6, .ref q7, .ref q8, .ref q9, .int 0, .ref q10, .ref q11, .ref q12, .ref q13, .ref q14])), (q3, .inr (11, [.ref q15, .int 0, .int 1]))] sz)) (va_Qi (fun (r : Int32) (_ : Unit) => 1 = r) (fun _ t => zE (dC, dI) [] [] (va_A [(q0, .inr (13, [.ref q2, .ref q3, .ref q4, .ref q5, .ref q6, .ref q7, .ref q8, .ref q9, .int 0, .ref q10, .ref q11, .ref q12, .ref q13, .ref q14])), (q3, .inr (11, [.ref q15, .int 0, .int 1]))] sz) t) (va_A [(q0, .inr (13, [.ref q2, .ref q3, .ref q4, .ref q5, .ref q6, .ref q7, .ref q8, .ref q9, .int 0, .ref q10, .ref q11, .ref q12, .ref q13, .ref q14])), (q3, .inr (11, [.ref q15, .int 0, .int 1]))] sz)) 1 6 (va_A [(q0, .inr (13, [.ref q2, .ref q3, .ref q4, .ref q5, .ref q6, .ref q7, .ref q8, .ref q9, .int 0, .ref q10, .ref q11, .ref q12, .ref q13, .ref q14])), (q3, .inr (11, [.ref q15, .int 0, .int 1]))] sz) := by
  refine va_MetW (cc := cL_likeness) (maxL := 5) (ret := (some .int)) (by decide) rfl ?_
  intro p e s m args below meth c s₁ B hml hv
  obtain ⟨rfl, hsz, hP, hK, hD0, hZ, hN⟩ := hv
  have hx := B.exec
  have hb := B.bytes
  have hr := B.returns
  have hts := atoms_spec (ws := wsL_likeness) B.pre
  have hown : s.vm.findClass RL = some m.cls := findClass_of_methodNamed B.named
  have hlocks := B.notSynchronized
  have htab := vx_table (x := yL_likeness) B (hts (.codeWith yL_likeness cL_likeness 5 (some .int) [(0, 10, 13, 31), (0, 10, 17, 126)]) List.mem_cons_self)
  subst hsz
  have hD := hD0.self (sz := s.heap.size)
  generalize hAe : va_A [(q0, .inr (13, [.ref q2, .ref q3, .ref q4, .ref q5, .ref q6, .ref q7, .ref q8, .ref q9, .int 0, .ref q10, .ref q11, .ref q12, .ref q13, .ref q14])), (q3, .inr (11, [.ref q15, .int 0, .int 1]))] s.heap.size = A at hD hZ ⊢
  have hA : ∀ q : Nat, s.heap.size ≤ q → A q := fun q h => by rw [← hAe]; exact Or.inr h
  have hS : va_S A s.heap s.heap [] := va_S.rf
  have hP : va_P (dC, dI) vwCl [(q0, .inr (13, [.ref q2, .ref q3, .ref q4, .ref q5, .ref q6, .ref q7, .ref q8, .ref q9, .int 0, .ref q10, .ref q11, .ref q12, .ref q13, .ref q14])), (q3, .inr (11, [.ref q15, .int 0, .int 1]))] s.heap := hP
  have hl := lv_entry ([.ref q0, .int p1, .int p2, .ref q1]) (n := 5) (Nat.le_of_ble_eq_true rfl)
  rw [lg_entry_eq]
  generalize (lg_sl ([.ref q0, .int p1, .int p2, .ref q1]) ++ List.replicate (5 - (lg_sl ([.ref q0, .int p1, .int p2, .ref q1])).length) Slot.unset).toArray = ls at hl ⊢
  have hl : lv_has ls 5 [(0, .ref q0), (1, .int p1), (2, .int p2), (3, .ref q1)] := hl
  refine lv_aload_n hx hb dL_likeness_0 rfl (lv_at hl 3 rfl) ?_
  refine lv_iconst (v := 0) hx hb dL_likeness_1 (by decide +kernel) ?_
  refine lv_aload_n hx hb dL_likeness_2 rfl (lv_at hl 0 rfl) ?_
  refine lv_iload_n hx hb dL_likeness_3 rfl (lv_at hl 1 rfl) ?_
  refine lv_iload_n hx hb dL_likeness_4 rfl (lv_at hl 2 rfl) ?_
  have hPc := hP.sub (ws' := [(q0, .inr (13, [.ref q2, .ref q3, .ref q4, .ref q5, .ref q6, .ref q7, .ref q8, .ref q9, .int 0, .ref q10, .ref q11, .ref q12, .ref q13, .ref q14])), (q3, .inr (11, [.ref q15, .int 0, .int 1]))]) [0, 1] rfl
  have hDc := hD.sub (ws' := [(q0, .inr (13, [.ref q2, .ref q3, .ref q4, .ref q5, .ref q6, .ref q7, .ref q8, .ref q9, .int 0, .ref q10, .ref q11, .ref q12, .ref q13, .ref q14])), (q3, .inr (11, [.ref q15, .int 0, .int 1]))]) [0, 1] (by decide) rfl
  have hKc := hK.sub (tys' := []) [] rfl
  have hFc := va_free (wc := [(q0, .inr (13, [.ref q2, .ref q3, .ref q4, .ref q5, .ref q6, .ref q7, .ref q8, .ref q9, .int 0, .ref q10, .ref q11, .ref q12, .ref q13, .ref q14])), (q3, .inr (11, [.ref q15, .int 0, .int 1]))]) hD hS hA [0, 1] rfl
  refine vx_calli (vx_runV (As := [.int p1, .int p2]) (rest := [.int 0, .ref q1]) ⟨hx, hb, hml, hown, hts⟩ (c_X11_likeness l hfl dC dI q0 q2 q3 q4 q5 q6 q7 q8 q9 q10 q11 q12 q13 q14 q15 s.heap.size p1 p2 hc0) (cwV 2 hts gL_likeness_X11_likeness rfl rfl rfl (by decide +kernel) ⟨Nat.le_of_ble_eq_true rfl, Nat.le_of_ble_eq_true rfl⟩) ⟨zB_blind, va_recv hK hP (ci := 13) (q0 := 0) rfl rfl, (zPre hPc hDc hKc hS hFc hZ hN)⟩ rfl rfl hl.1 rfl (lv_room (Nat.le_of_ble_eq_true rfl)) dL_likeness_5 ⟨Nat.le_of_ble_eq_true rfl, Nat.le_of_ble_eq_true rfl⟩) hS (fun q _ h => hFc q h) hFc (fun q _ h => hFc q h) (fun E ce qx u t H1 locs1 ht hvm hpx hBX hz1 hk1 hS hq9 hv9 hcl9 => ?_) (fun r u t H1 locs1 _ _ hw => hw.elim)
  subst hBX
  refine vx_catch (name := "java/util/NoSuchElementException") hown [] ⟨0, 10, 13, 31⟩ [⟨0, 10, 17, 126⟩] (by rw [htab]; rfl) (fun z h => absurd h List.not_mem_nil) rfl (by decide) (hts (.classLink RL 31 "java/util/NoSuchElementException") (by decide +kernel)) (va_Nw.use rfl (hN.2.1 "java/util/NoSuchElementException" (by decide +kernel))) hq9 hv9 hcl9 ?_
  generalize H1 = H at hS ⊢
  refine W.widen (k := 1) (n := 6) (Nat.le_of_ble_eq_true rfl) (Nat.le_of_ble_eq_true rfl) ?_
  have hP : va_P (dC, dI) vwCl [] H := zP_nil
  have hD : va_D A [] := zD_nil
  have hK := hK.sub (tys' := []) [] rfl
  refine lv_astore (lv' := [(4, .ref qx), (0, .ref q0), (1, .int p1), (2, .int p2), (3, .ref q1)]) hx hb dL_likeness_13 hl (by decide) rfl (fun ls hl => ?_)
  refine lv_iconst (v := 1) hx hb dL_likeness_15 (by decide +kernel) ?_
  have hP9 := hP.sub (ws' := []) [] rfl
  have hD9 := hD.sub (ws' := []) [] (by decide) rfl
  have hK9 := hK.sub (tys' := []) [] rfl
  exact W.iret (v := 1) hx hb hr (fun t ht hW => ⟨⟨1, (), rfl, rfl, ⟨by rw [ht]; exact hP9, va_K.moved hW.alike hK9, hD9⟩⟩, hS.F ht⟩) hS.2.2 dL_likeness_16
set_option maxHeartbeats 4000000 in
set_option maxRecDepth 100000 in
theorem c_X13_likeness (l : Launch) (dC : Nat → ClassId) (dI : Nat → Nat → Nat) (q0 q1 q2 q3 q4 q5 q6 q7 q8 q9 q10 q11 q12 q13 q14 q15 q16 q17 q18 q19 : Nat) (sz : Nat) (p1 : Int32) (p2 : Int32) (hc0 : p1 < 0) : Met l yX13_likeness wsX13_likeness ({ frames := 2, cells := 0, slots := 0, locals := 43 }) (va_Pc [.ref q0, .int p1, .int p2] (zB (dC, dI) [] [(q0, .inr (15, [.ref q1, .ref q2, .ref q3, .ref q4, .ref q5, .ref q6, .int 0, .int 1, .ref q7, .int 0, .ref q8, .null, .ref q9, .null, .ref q10, .ref q11, .ref q12, .ref q13, .ref q14, .int 0, .ref q15, .ref q16, .ref q17, .ref q18, .ref q19, .int 0, .int 0]))] sz)) (va_Qi (fun (r : Int32) (_ : Unit) => 0 = r) (fun _ t => zE (dC, dI) [] [(q0, .inr (15, [.ref q1, .ref q2, .ref q3, .ref q4, .ref q5, .ref q6, .int 0, .int 1, .ref q7, .int 0, .ref q8, .null, .ref q9, .null, .ref q10, .ref q11, .ref q12, .ref q13, .ref q14, .int 1, .ref q15, .ref q16, .ref q17, .ref q18, .ref q19, .int 0, .int 0]))] (va_A [(q0, .inr (15, [.ref q1, .ref q2, .ref q3, .ref q4, .ref q5, .ref q6, .int 0, .int 1, .ref q7, .int 0, .ref q8, .null, .ref q9, .null, .ref q10, .ref q11, .ref q12, .ref q13, .ref q14, .int 0, .ref q15, .ref q16, .ref q17, .ref q18, .ref q19, .int 0, .int 0]))] sz) t) (va_A [(q0, .inr (15, [.ref q1, .ref q2, .ref q3, .ref q4, .ref q5, .ref q6, .int 0, .int 1, .ref q7, .int 0, .ref q8, .null, .ref q9, .null, .ref q10, .ref q11, .ref q12, .ref q13, .ref q14, .int 0, .ref q15, .ref q16, .ref q17, .ref q18, .ref q19, .int 0, .int 0]))] sz)) 0 0 (va_A [(q0, .inr (15, [.ref q1, .ref q2, .ref q3, .ref q4, .ref q5, .ref q6, .int 0, .int 1, .ref q7, .int 0, .ref q8, .null, .ref q9, .null, .ref q10, .ref q11, .ref q12, .ref q13, .ref q14, .int 0, .ref q15, .ref q16, .ref q17, .ref q18, .ref q19, .int 0, .int 0]))] sz) := by
  refine Met.ofW (cc := cX13_likeness) (maxL := 9) (ret := (some .int)) (by decide) rfl ?_
  intro p e s m args below meth c s₁ B hml hv
  obtain ⟨rfl, hsz, hP, hK, hD0, hZ, hN⟩ := hv
  have hx := B.exec
  have hb := B.bytes
  have hr := B.returns
  have hts := atoms_spec (ws := wsX13_likeness) B.pre
  have hown : s.vm.findClass RX13 = some m.cls := findClass_of_methodNamed B.named
  have hlocks := B.notSynchronized
  subst hsz
  have hD := hD0.self (sz := s.heap.size)
  generalize hAe : va_A [(q0, .inr (15, [.ref q1, .ref q2, .ref q3, .ref q4, .ref q5, .ref q6, .int 0, .int 1, .ref q7, .int 0, .ref q8, .null, .ref q9, .null, .ref q10, .ref q11, .ref q12, .ref q13, .ref q14, .int 0, .ref q15, .ref q16, .ref q17, .ref q18, .ref q19, .int 0, .int 0]))] s.heap.size = A at hD hZ ⊢
  have hA : ∀ q : Nat, s.heap.size ≤ q → A q := fun q h => by rw [← hAe]; exact Or.inr h
  have hS : va_S A s.heap s.heap [] := va_S.rf
  have hP : va_P (dC, dI) vwCl [(q0, .inr (15, [.ref q1, .ref q2, .ref q3, .ref q4, .ref q5, .ref q6, .int 0, .int 1, .ref q7, .int 0, .ref q8, .null, .ref q9, .null, .ref q10, .ref q11, .ref q12, .ref q13, .ref q14, .int 0, .ref q15, .ref q16, .ref q17, .ref q18, .ref q19, .int 0, .int 0]))] s.heap := hP
  have hl := lv_entry ([.ref q0, .int p1, .int p2]) (n := 9) (Nat.le_of_ble_eq_true rfl)
  rw [lg_entry_eq]
  generalize (lg_sl ([.ref q0, .int p1, .int p2]) ++ List.replicate (9 - (lg_sl ([.ref q0, .int p1, .int p2])).length) Slot.unset).toArray = ls at hl ⊢
  have hl : lv_has ls 9 [(0, .ref q0), (1, .int p1), (2, .int p2)] := hl
  refine lv_aload_n hx hb dX13_likeness_0 rfl (lv_at hl 0 rfl) ?_
  refine lv_aload_n hx hb dX13_likeness_1 rfl (lv_at hl 0 rfl) ?_
  refine lv_iload_n hx hb dX13_likeness_2 rfl (lv_at hl 1 rfl) ?_
  have hPc := hP.sub (ws' := [(q0, .inr (15, [.ref q1, .ref q2, .ref q3, .ref q4, .ref q5, .ref q6, .int 0, .int 1, .ref q7, .int 0, .ref q8, .null, .ref q9, .null, .ref q10, .ref q11, .ref q12, .ref q13, .ref q14, .int 0, .ref q15, .ref q16, .ref q17, .ref q18, .ref q19, .int 0, .int 0]))]) [0] rfl
  have hDc := hD.sub (ws' := [(q0, .inr (15, [.ref q1, .ref q2, .ref q3, .ref q4, .ref q5, .ref q6, .int 0, .int 1, .ref q7, .int 0, .ref q8, .null, .ref q9, .null, .ref q10, .ref q11, .ref q12, .ref q13, .ref q14, .int 0, .ref q15, .ref q16, .ref q17, .ref q18, .ref q19, .int 0, .int 0]))]) [0] (by decide) rfl
  have hKc := hK.sub (tys' := []) [] rfl
  have hFc := va_free (wc := [(q0, .inr (15, [.ref q1, .ref q2, .ref q3, .ref q4, .ref q5, .ref q6, .int 0, .int 1, .ref q7, .int 0, .ref q8, .null, .ref q9, .null, .ref q10, .ref q11, .ref q12, .ref q13, .ref q14, .int 0, .ref q15, .ref q16, .ref q17, .ref q18, .ref q19, .int 0, .int 0]))]) hD hS hA [0] rfl
  refine va_calli (va_runV (As := [.int p1]) (rest := [.ref q0]) ⟨hx, hb, hml, hown, hts⟩ (c_X13_isText l dC dI q0 q1 q2 q3 q4 q5 q6 q7 q8 q9 q10 q11 q12 q13 q14 q15 q16 q17 q18 q19 s.heap.size p1 hc0) (cwV 1 hts gX13_likeness_X13_isText rfl rfl rfl (by decide +kernel) ⟨Nat.le_of_ble_eq_true rfl, Nat.le_of_ble_eq_true rfl⟩) ⟨zB_blind, va_recv hK hP (ci := 15) (q0 := 0) rfl rfl, (zPre hPc hDc hKc hS hFc hZ hN)⟩ rfl rfl hl.1 rfl (lv_room (Nat.le_of_ble_eq_true rfl)) dX13_likeness_3 ⟨Nat.le_of_ble_eq_true rfl, Nat.le_of_ble_eq_true rfl⟩) hS (fun q _ h => hFc q h) hFc (fun r u t H1 locs ht hvm hw hB hz1 hk1 hS => ?_)
  subst hw
  obtain ⟨hP1, hK1, hD1⟩ := hB
  rw [ht] at hP1
  have hK1 := va_K.moved hvm.symm hK1
  obtain ⟨hP, hD⟩ := va_join (wr := []) (w1 := [(q0, .inr (15, [.ref q1, .ref q2, .ref q3, .ref q4, .ref q5, .ref q6, .int 0, .int 1, .ref q7, .int 0, .ref q8, .null, .ref q9, .null, .ref q10, .ref q11, .ref q12, .ref q13, .ref q14, .int 0, .ref q15, .ref q16, .ref q17, .ref q18, .ref q19, .int 0, .int 0]))]) hP hD [0] [] rfl rfl (by decide) (by decide) hk1 hFc hP1 hD1
  have hK := (hK.sub (tys' := []) [] rfl).app hK1
  generalize H1 = H at hP hS ⊢
  have hP : va_P (dC, dI) vwCl [(q0, .inr (15, [.ref q1, .ref q2, .ref q3, .ref q4, .ref q5, .ref q6, .int 0, .int 1, .ref q7, .int 0, .ref q8, .null, .ref q9, .null, .ref q10, .ref q11, .ref q12, .ref q13, .ref q14, .int 0, .ref q15, .ref q16, .ref q17, .ref q18, .ref q19, .int 0, .int 0]))] H := hP
  have hD : va_D A [(q0, .inr (15, [.ref q1, .ref q2, .ref q3, .ref q4, .ref q5, .ref q6, .int 0, .int 1, .ref q7, .int 0, .ref q8, .null, .ref q9, .null, .ref q10, .ref q11, .ref q12, .ref q13, .ref q14, .int 0, .ref q15, .ref q16, .ref q17, .ref q18, .ref q19, .int 0, .int 0]))] := hD
  have hK : va_K (dC, dI) vwCl [] s := hK
  refine W.widen (k := 0) (n := 0) (Nat.le_of_ble_eq_true rfl) (Nat.le_of_ble_eq_true rfl) ?_
  refine lv_if_eq (tgt := 21) hx hb dX13_likeness_6 (by decide) (fun _ => ?_) (fun h9 => absurd (show (0 : Int32) = (0 : Int32) by decide +kernel) h9)
  refine lv_iconst (v := 0) hx hb dX13_likeness_21 (by decide +kernel) ?_
  refine lv_iconst (v := 1) hx hb dX13_likeness_22 (by decide +kernel) ?_
  have hPc := hP.sub (ws' := [(q0, .inr (15, [.ref q1, .ref q2, .ref q3, .ref q4, .ref q5, .ref q6, .int 0, .int 1, .ref q7, .int 0, .ref q8, .null, .ref q9, .null, .ref q10, .ref q11, .ref q12, .ref q13, .ref q14, .int 0, .ref q15, .ref q16, .ref q17, .ref q18, .ref q19, .int 0, .int 0]))]) [0] rfl
  have hDc := hD.sub (ws' := [(q0, .inr (15, [.ref q1, .ref q2, .ref q3, .ref q4, .ref q5, .ref q6, .int 0, .int 1, .ref q7, .int 0, .ref q8, .null, .ref q9, .null, .ref q10, .ref q11, .ref q12, .ref q13, .ref q14, .int 0, .ref q15, .ref q16, .ref q17, .ref q18, .ref q19, .int 0, .int 0]))]) [0] (by decide) rfl
  have hKc := hK.sub (tys' := []) [] rfl
  have hFc := va_free (wc := [(q0, .inr (15, [.ref q1, .ref q2, .ref q3, .ref q4, .ref q5, .ref q6, .int 0, .int 1, .ref q7, .int 0, .ref q8, .null, .ref q9, .null, .ref q10, .ref q11, .ref q12, .ref q13, .ref q14, .int 0, .ref q15, .ref q16, .ref q17, .ref q18, .ref q19, .int 0, .int 0]))]) hD hS hA [0] rfl
  refine va_calli (va_runV (As := [.int 0, .int 1]) (rest := []) ⟨hx, hb, hml, hown, hts⟩ (c_X13_no l dC dI q0 q1 q2 q3 q4 q5 q6 q7 q8 q9 q10 q11 q12 q13 q14 q15 q16 q17 q18 q19 H.size  ) (cwV 2 hts gX13_likeness_X13_no rfl rfl rfl (by decide +kernel) ⟨Nat.le_of_ble_eq_true rfl, Nat.le_of_ble_eq_true rfl⟩) ⟨zB_blind, va_recv hK hP (ci := 15) (q0 := 0) rfl rfl, (zPre hPc hDc hKc hS hFc hZ hN)⟩ rfl rfl hl.1 rfl (lv_room (Nat.le_of_ble_eq_true rfl)) dX13_likeness_23 ⟨Nat.le_of_ble_eq_true rfl, Nat.le_of_ble_eq_true rfl⟩) hS (fun q _ h => hFc q h) hFc (fun r u t H1 locs ht hvm hw hB hz1 hk1 hS => ?_)
  subst hw
  obtain ⟨hP1, hK1, hD1⟩ := hB
  rw [ht] at hP1
  have hK1 := va_K.moved hvm.symm hK1
  obtain ⟨hP, hD⟩ := va_join (wr := []) (w1 := [(q0, .inr (15, [.ref q1, .ref q2, .ref q3, .ref q4, .ref q5, .ref q6, .int 0, .int 1, .ref q7, .int 0, .ref q8, .null, .ref q9, .null, .ref q10, .ref q11, .ref q12, .ref q13, .ref q14, .int 1, .ref q15, .ref q16, .ref q17, .ref q18, .ref q19, .int 0, .int 0]))]) hP hD [0] [] rfl rfl (by decide) (by decide) hk1 hFc hP1 hD1
  have hK := (hK.sub (tys' := []) [] rfl).app hK1
  generalize H1 = H at hP hS ⊢
  have hP : va_P (dC, dI) vwCl [(q0, .inr (15, [.ref q1, .ref q2, .ref q3, .ref q4, .ref q5, .ref q6, .int 0, .int 1, .ref q7, .int 0, .ref q8, .null, .ref q9, .null, .ref q10, .ref q11, .ref q12, .ref q13, .ref q14, .int 1, .ref q15, .ref q16, .ref q17, .ref q18, .ref q19, .int 0, .int 0]))] H := hP
  have hD : va_D A [(q0, .inr (15, [.ref q1, .ref q2, .ref q3, .ref q4, .ref q5, .ref q6, .int 0, .int 1, .ref q7, .int 0, .ref q8, .null, .ref q9, .null, .ref q10, .ref q11, .ref q12, .ref q13, .ref q14, .int 1, .ref q15, .ref q16, .ref q17, .ref q18, .ref q19, .int 0, .int 0]))] := hD
  have hK : va_K (dC, dI) vwCl [] s := hK
  refine W.widen (k := 0) (n := 0) (Nat.le_of_ble_eq_true rfl) (Nat.le_of_ble_eq_true rfl) ?_
  refine lv_if_eq (tgt := 31) hx hb dX13_likeness_26 (by decide) (fun h9 => absurd h9 (show ¬ (1 : Int32) = (0 : Int32) by decide +kernel)) (fun _ => ?_)
  refine lv_iconst (v := 0) hx hb dX13_likeness_29 (by decide +kernel) ?_
  have hP9 := hP.sub (ws' := [(q0, .inr (15, [.ref q1, .ref q2, .ref q3, .ref q4, .ref q5, .ref q6, .int 0, .int 1, .ref q7, .int 0, .ref q8, .null, .ref q9, .null, .ref q10, .ref q11, .ref q12, .ref q13, .ref q14, .int 1, .ref q15, .ref q16, .ref q17, .ref q18, .ref q19, .int 0, .int 0]))]) [0] rfl
  have hD9 := hD.sub (ws' := [(q0, .inr (15, [.ref q1, .ref q2, .ref q3, .ref q4, .ref q5, .ref q6, .int 0, .int 1, .ref q7, .int 0, .ref q8, .null, .ref q9, .null, .ref q10, .ref q11, .ref q12, .ref q13, .ref q14, .int 1, .ref q15, .ref q16, .ref q17, .ref q18, .ref q19, .int 0, .int 0]))]) [0] (by decide) rfl
  have hK9 := hK.sub (tys' := []) [] rfl
  exact W.iret (v := 0) hx hb hr (fun t ht hW => ⟨⟨0, (), rfl, rfl, ⟨by rw [ht]; exact hP9, va_K.moved hW.alike hK9, hD9⟩⟩, hS.F ht⟩) hS.2.2 dX13_likeness_30
set_option maxHeartbeats 4000000 in
set_option maxRecDepth 100000 in
theorem c_X11_likeness_2 (l : Launch) (hfl : l.stackTraces = false) (dC : Nat → ClassId) (dI : Nat → Nat → Nat) (q0 q1 q2 q3 q4 q5 q6 q7 q8 q9 q10 q11 q12 q13 q14 : Nat) (sz : Nat) (p1 : Int32) (p2 : Int32) (hc0 : ¬ p1 < 0) (hc1 : (0 : Int32) ≤ p1) : vx_Met l yX11_likeness wsX11_likeness ({ frames := 7, cells := 1, slots := 6, locals := 112 }) (va_Pc [.ref q0, .int p1, .int p2] (zB (dC, dI) [] [(q0, .inr (13, [.ref q1, .ref q2, .ref q3, .ref q4, .ref q5, .ref q6, .ref q7, .ref q8, .int 0, .ref q9, .ref q10, .ref q11, .ref q12, .ref q13])), (q2, .inr (11, [.ref q14, .int 0, .int 1]))] sz)) (va_Qi (fun (_ : Int32) (_ : Unit) => False) (fun _ _ => True) (va_A [(q0, .inr (13, [.ref q1, .ref q2, .ref q3, .ref q4, .ref q5, .ref q6, .ref q7, .ref q8, .int 0, .ref q9, .ref q10, .ref q11, .ref q12, .ref q13])), (q2, .inr (11, [.ref q14, .int 0, .int 1]))] sz)) (vx_X (fun (_ : Unit) => True) (fun E _ _ => "java/util/NoSuchElementException" = E) (va_A [(q0, .inr (13, [.ref q1, .ref q2, .ref q3, .ref q4, .ref q5, .ref q6, .ref q7, .ref q8, .int 0, .ref q9, .ref q10, .ref q11, .ref q12, .ref q13])), (q2, .inr (11, [.ref q14, .int 0, .int 1]))] sz)) 1 6 (va_A [(q0, .inr (13, [.ref q1, .ref q2, .ref q3, .ref q4, .ref q5, .ref q6, .ref q7, .ref q8, .int 0, .ref q9, .ref q10, .ref q11, .ref q12, .ref q13])), (q2, .inr (11, [.ref q14, .int 0, .int 1]))] sz) := by
  refine vx_ofW (cc := cX11_likeness) (maxL := 7) (ret := (some .int)) (by decide) rfl ?_
  intro p e s m args below meth c s₁ B hml hnoex hv
  obtain ⟨rfl, hsz, hP, hK, hD0, hZ, hN⟩ := hv
  have hx := B.exec
  have hb := B.bytes
  have hr := B.returns
  have hts := atoms_spec (ws := wsX11_likeness) B.pre
  have hown : s.vm.findClass RX11 = some m.cls := findClass_of_methodNamed B.named
  have hlocks := B.notSynchronized
  subst hsz
  have hD := hD0.self (sz := s.heap.size)
  generalize hAe : va_A [(q0, .inr (13, [.ref q1, .ref q2, .ref q3, .ref q4, .ref q5, .ref q6, .ref q7, .ref q8, .int 0, .ref q9, .ref q10, .ref q11, .ref q12, .ref q13])), (q2, .inr (11, [.ref q14, .int 0, .int 1]))] s.heap.size = A at hD hZ ⊢
  have hA : ∀ q : Nat, s.heap.size ≤ q → A q := fun q h => by rw [← hAe]; exact Or.inr h
  have hS : va_S A s.heap s.heap [] := va_S.rf
  have hP : va_P (dC, dI) vwCl [(q0, .inr (13, [.ref q1, .ref q2, .ref q3, .ref q4, .ref q5, .ref q6, .ref q7, .ref q8, .int 0, .ref q9, .ref q10, .ref q11, .ref q12, .ref q13])), (q2, .inr (11, [.ref q14, .int 0, .int 1]))] s.heap := hP
  have hl := lv_entry ([.ref q0, .int p1, .int p2]) (n := 7) (Nat.le_of_ble_eq_true rfl)
  rw [lg_entry_eq]
  generalize (lg_sl ([.ref q0, .int p1, .int p2]) ++ List.replicate (7 - (lg_sl ([.ref q0, .int p1, .int p2])).length) Slot.unset).toArray = ls at hl ⊢
  have hl : lv_has ls 7 [(0, .ref q0), (1, .int p1), (2, .int p2)] := hl
  refine lv_aload_n hx hb dX11_likeness_0 rfl (lv_at hl 0 rfl) ?_
  refine lv_iload_n hx hb dX11_likeness_1 rfl (lv_at hl 1 rfl) ?_
  have hPc := hP.sub (ws' := [(q0, .inr (13, [.ref q1, .ref q2, .ref q3, .ref q4, .ref q5, .ref q6, .ref q7, .ref q8, .int 0, .ref q9, .ref q10, .ref q11, .ref q12, .ref q13])), (q2, .inr (11, [.ref q14, .int 0, .int 1]))]) [0, 1] rfl
  have hDc := hD.sub (ws' := [(q0, .inr (13, [.ref q1, .ref q2, .ref q3, .ref q4, .ref q5, .ref q6, .ref q7, .ref q8, .int 0, .ref q9, .ref q10, .ref q11, .ref q12, .ref q13])), (q2, .inr (11, [.ref q14, .int 0, .int 1]))]) [0, 1] (by decide) rfl
  have hKc := hK.sub (tys' := []) [] rfl
  have hFc := va_free (wc := [(q0, .inr (13, [.ref q1, .ref q2, .ref q3, .ref q4, .ref q5, .ref q6, .ref q7, .ref q8, .int 0, .ref q9, .ref q10, .ref q11, .ref q12, .ref q13])), (q2, .inr (11, [.ref q14, .int 0, .int 1]))]) hD hS hA [0, 1] rfl
  refine vx_callq (vx_runV (As := [.int p1]) (rest := []) ⟨hx, hb, hml, hown, hts⟩ (c_X11_textOf_2 l hfl dC dI q0 q1 q2 q3 q4 q5 q6 q7 q8 q9 q10 q11 q12 q13 q14 s.heap.size p1 hc0 hc1) (cwV 1 hts gX11_likeness_X11_textOf rfl rfl rfl (by decide +kernel) ⟨Nat.le_of_ble_eq_true rfl, Nat.le_of_ble_eq_true rfl⟩) ⟨zB_blind, va_recv hK hP (ci := 13) (q0 := 0) rfl rfl, (zPre hPc hDc hKc hS hFc hZ hN)⟩ rfl rfl hl.1 rfl (lv_room (Nat.le_of_ble_eq_true rfl)) dX11_likeness_2 ⟨Nat.le_of_ble_eq_true rfl, Nat.le_of_ble_eq_true rfl⟩) hS (fun q _ h => hFc q h) hFc (fun q _ h => hFc q h) (fun E ce qx u t H1 locs1 ht hvm hpx hBX hz1 hk1 hS hq9 hv9 hcl9 => ?_) (fun r u t H1 locs1 _ _ hw => hw.elim)
  subst hBX
  exact vx_out (fun x h => ((hnoex x h).elim)) hlocks hq9 hv9 hcl9 (fun t h1 _ => ⟨(), trivial, rfl, hS.F h1⟩) hS.2.2 (Nat.le_refl _) (Nat.le_refl _)
set_option maxHeartbeats 4000000 in
set_option maxRecDepth 100000 in
theorem c_L_likeness_2 (l : Launch) (hfl : l.stackTraces = false) (dC : Nat → ClassId) (dI : Nat → Nat → Nat) (q0 q1 q2 q3 q4 q5 q6 q7 q8 q9 q10 q11 q12 q13 q14 q15 : Nat) (sz : Nat) (p1 : Int32) (p2 : Int32) (hc0 : ¬ p1 < 0) (hc1 : (0 : Int32) ≤ p1) : Met l yL_likeness wsL_likeness ({ frames := 8, cells := 1, slots := 6, locals := 138 }) (va_Pc [.ref q0, .int p1, .int p2, .ref q1] (zB (dC, dI) [] [(q0, .inr (13, [.ref q2, .ref q3, .ref q4, .ref q5, .ref q6, .ref q7, .ref q8, .ref q9, .int 0, .ref q10, .ref q11, .ref q12, .ref q13, .ref q14])), (q3, .inr (11, [.ref q15, .int 0, .int 1]))] sz)) (va_Qi (fun (r : Int32) (_ : Unit) => 1 = r) (fun _ t => zE (dC, dI) [] [] (va_A [(q0, .inr (13, [.ref q2, .ref q3, .ref q4, .ref q5, .ref q6, .ref q7, .ref q8, .ref q9, .int 0, .ref q10, .ref q11, .ref q12, .ref q13, .ref q14])), (q3, .inr (11, [.ref q15, .int 0, .int 1]))] sz) t) (va_A [(q0, .inr (13, [.ref q2, .ref q3, .ref q4, .ref q5, .ref q6, .ref q7, .ref q8, .ref q9, .int 0, .ref q10, .ref q11, .ref q12, .ref q13, .ref q14])), (q3, .inr (11, [.ref q15, .int 0, .int 1]))] sz)) 1 6 (va_A [(q0, .inr (13, [.ref q2, .ref q3, .ref q4, .ref q5, .ref q6, .ref q7, .ref q8, .ref q9, .int 0, .ref q10, .ref q11, .ref q12, .ref q13, .ref q14])), (q3, .inr (11, [.ref q15, .int 0, .int 1]))] sz) := by
  refine va_MetW (cc := cL_likeness) (maxL := 5) (ret := (some .int)) (by decide) rfl ?_
  intro p e s m args below meth c s₁ B hml hv
  obtain ⟨rfl, hsz, hP, hK, hD0, hZ, hN⟩ := hv
  have hx := B.exec
  have hb := B.bytes
  have hr := B.returns
  have hts := atoms_spec (ws := wsL_likeness) B.pre
  have hown : s.vm.findClass RL = some m.cls := findClass_of_methodNamed B.named
  have hlocks := B.notSynchronized
  have htab := vx_table (x := yL_likeness) B (hts (.codeWith yL_likeness cL_likeness 5 (some .int) [(0, 10, 13, 31), (0, 10, 17, 126)]) List.mem_cons_self)
  subst hsz
  have hD := hD0.self (sz := s.heap.size)
  generalize hAe : va_A [(q0, .inr (13, [.ref q2, .ref q3, .ref q4, .ref q5, .ref q6, .ref q7, .ref q8, .ref q9, .int 0, .ref q10, .ref q11, .ref q12, .ref q13, .ref q14])), (q3, .inr (11, [.ref q15, .int 0, .int 1]))] s.heap.size = A at hD hZ ⊢
  have hA : ∀ q : Nat, s.heap.size ≤ q → A q := fun q h => by rw [← hAe]; exact Or.inr h
  have hS : va_S A s.heap s.heap [] := va_S.rf
  have hP : va_P (dC, dI) vwCl [(q0, .inr (13, [.ref q2, .ref q3, .ref q4, .ref q5, .ref q6, .ref q7, .ref q8, .ref q9, .int 0, .ref q10, .ref q11, .ref q12, .ref q13, .ref q14])), (q3, .inr (11, [.ref q15, .int 0, .int 1]))] s.heap := hP
  have hl := lv_entry ([.ref q0, .int p1, .int p2, .ref q1]) (n := 5) (Nat.le_of_ble_eq_true rfl)
  rw [lg_entry_eq]
  generalize (lg_sl ([.ref q0, .int p1, .int p2, .ref q1]) ++ List.replicate (5 - (lg_sl ([.ref q0, .int p1, .int p2, .ref q1])).length) Slot.unset).toArray = ls at hl ⊢
  have hl : lv_has ls 5 [(0, .ref q0), (1, .int p1), (2, .int p2), (3, .ref q1)] := hl
  refine lv_aload_n hx hb dL_likeness_0 rfl (lv_at hl 3 rfl) ?_
  refine lv_iconst (v := 0) hx hb dL_likeness_1 (by decide +kernel) ?_
  refine lv_aload_n hx hb dL_likeness_2 rfl (lv_at hl 0 rfl) ?_
  refine lv_iload_n hx hb dL_likeness_3 rfl (lv_at hl 1 rfl) ?_
  refine lv_iload_n hx hb dL_likeness_4 rfl (lv_at hl 2 rfl) ?_
  have hPc := hP.sub (ws' := [(q0, .inr (13, [.ref q2, .ref q3, .ref q4, .ref q5, .ref q6, .ref q7, .ref q8, .ref q9, .int 0, .ref q10, .ref q11, .ref q12, .ref q13, .ref q14])), (q3, .inr (11, [.ref q15, .int 0, .int 1]))]) [0, 1] rfl
  have hDc := hD.sub (ws' := [(q0, .inr (13, [.ref q2, .ref q3, .ref q4, .ref q5, .ref q6, .ref q7, .ref q8, .ref q9, .int 0, .ref q10, .ref q11, .ref q12, .ref q13, .ref q14])), (q3, .inr (11, [.ref q15, .int 0, .int 1]))]) [0, 1] (by decide) rfl
  have hKc := hK.sub (tys' := []) [] rfl
  have hFc := va_free (wc := [(q0, .inr (13, [.ref q2, .ref q3, .ref q4, .ref q5, .ref q6, .ref q7, .ref q8, .ref q9, .int 0, .ref q10, .ref q11, .ref q12, .ref q13, .ref q14])), (q3, .inr (11, [.ref q15, .int 0, .int 1]))]) hD hS hA [0, 1] rfl
  refine vx_calli (vx_runV (As := [.int p1, .int p2]) (rest := [.int 0, .ref q1]) ⟨hx, hb, hml, hown, hts⟩ (c_X11_likeness_2 l hfl dC dI q0 q2 q3 q4 q5 q6 q7 q8 q9 q10 q11 q12 q13 q14 q15 s.heap.size p1 p2 hc0 hc1) (cwV 2 hts gL_likeness_X11_likeness rfl rfl rfl (by decide +kernel) ⟨Nat.le_of_ble_eq_true rfl, Nat.le_of_ble_eq_true rfl⟩) ⟨zB_blind, va_recv hK hP (ci := 13) (q0 := 0) rfl rfl, (zPre hPc hDc hKc hS hFc hZ hN)⟩ rfl rfl hl.1 rfl (lv_room (Nat.le_of_ble_eq_true rfl)) dL_likeness_5 ⟨Nat.le_of_ble_eq_true rfl, Nat.le_of_ble_eq_true rfl⟩) hS (fun q _ h => hFc q h) hFc (fun q _ h => hFc q h) (fun E ce qx u t H1 locs1 ht hvm hpx hBX hz1 hk1 hS hq9 hv9 hcl9 => ?_) (fun r u t H1 locs1 _ _ hw => hw.elim)
  subst hBX
  refine vx_catch (name := "java/util/NoSuchElementException") hown [] ⟨0, 10, 13, 31⟩ [⟨0, 10, 17, 126⟩] (by rw [htab]; rfl) (fun z h => absurd h List.not_mem_nil) rfl (by decide) (hts (.classLink RL 31 "java/util/NoSuchElementException") (by decide +kernel)) (va_Nw.use rfl (hN.2.1 "java/util/NoSuchElementException" (by decide +kernel))) hq9 hv9 hcl9 ?_
  generalize H1 = H at hS ⊢
  refine W.widen (k := 1) (n := 6) (Nat.le_of_ble_eq_true rfl) (Nat.le_of_ble_eq_true rfl) ?_
  have hP : va_P (dC, dI) vwCl [] H := zP_nil
  have hD : va_D A [] := zD_nil
  have hK := hK.sub (tys' := []) [] rfl
  refine lv_astore (lv' := [(4, .ref qx), (0, .ref q0), (1, .int p1), (2, .int p2), (3, .ref q1)]) hx hb dL_likeness_13 hl (by decide) rfl (fun ls hl => ?_)
  refine lv_iconst (v := 1) hx hb dL_likeness_15 (by decide +kernel) ?_
  have hP9 := hP.sub (ws' := []) [] rfl
  have hD9 := hD.sub (ws' := []) [] (by decide) rfl
  have hK9 := hK.sub (tys' := []) [] rfl
  exact W.iret (v := 1) hx hb hr (fun t ht hW => ⟨⟨1, (), rfl, rfl, ⟨by rw [ht]; exact hP9, va_K.moved hW.alike hK9, hD9⟩⟩, hS.F ht⟩) hS.2.2 dL_likeness_16
set_option maxHeartbeats 4000000 in
set_option maxRecDepth 100000 in
theorem c_X13_likeness_2 (l : Launch) (dC : Nat → ClassId) (dI : Nat → Nat → Nat) (q0 q1 q2 q3 q4 q5 q6 q7 q8 q9 q10 q11 q12 q13 q14 q15 q16 q17 q18 q19 : Nat) (sz : Nat) (p1 : Int32) (p2 : Int32) (hc0 : ¬ p1 < 0) (hc1 : ((-1) : Int32) < p1) : Met l yX13_likeness wsX13_likeness ({ frames := 2, cells := 0, slots := 0, locals := 43 }) (va_Pc [.ref q0, .int p1, .int p2] (zB (dC, dI) [] [(q0, .inr (15, [.ref q1, .ref q2, .ref q3, .ref q4, .ref q5, .ref q6, .int 0, .int 1, .ref q7, .int 0, .ref q8, .null, .ref q9, .null, .ref q10, .ref q11, .ref q12, .ref q13, .ref q14, .int 0, .ref q15, .ref q16, .ref q17, .ref q18, .ref q19, .int 0, .int 0]))] sz)) (va_Qi (fun (r : Int32) (_ : Unit) => 0 = r) (fun _ t => zE (dC, dI) [] [(q0, .inr (15, [.ref q1, .ref q2, .ref q3, .ref q4, .ref q5, .ref q6, .int 0, .int 1, .ref q7, .int 0, .ref q8, .null, .ref q9, .null, .ref q10, .ref q11, .ref q12, .ref q13, .ref q14, .int 1, .ref q15, .ref q16, .ref q17, .ref q18, .ref q19, .int 0, .int 0]))] (va_A [(q0, .inr (15, [.ref q1, .ref q2, .ref q3, .ref q4, .ref q5, .ref q6, .int 0, .int 1, .ref q7, .int 0, .ref q8, .null, .ref q9, .null, .ref q10, .ref q11, .ref q12, .ref q13, .ref q14, .int 0, .ref q15, .ref q16, .ref q17, .ref q18, .ref q19, .int 0, .int 0]))] sz) t) (va_A [(q0, .inr (15, [.ref q1, .ref q2, .ref q3, .ref q4, .ref q5, .ref q6, .int 0, .int 1, .ref q7, .int 0, .ref q8, .null, .ref q9, .null, .ref q10, .ref q11, .ref q12, .ref q13, .ref q14, .int 0, .ref q15, .ref q16, .ref q17, .ref q18, .ref q19, .int 0, .int 0]))] sz)) 0 0 (va_A [(q0, .inr (15, [.ref q1, .ref q2, .ref q3, .ref q4, .ref q5, .ref q6, .int 0, .int 1, .ref q7, .int 0, .ref q8, .null, .ref q9, .null, .ref q10, .ref q11, .ref q12, .ref q13, .ref q14, .int 0, .ref q15, .ref q16, .ref q17, .ref q18, .ref q19, .int 0, .int 0]))] sz) := by
  refine Met.ofW (cc := cX13_likeness) (maxL := 9) (ret := (some .int)) (by decide) rfl ?_
  intro p e s m args below meth c s₁ B hml hv
  obtain ⟨rfl, hsz, hP, hK, hD0, hZ, hN⟩ := hv
  have hx := B.exec
  have hb := B.bytes
  have hr := B.returns
  have hts := atoms_spec (ws := wsX13_likeness) B.pre
  have hown : s.vm.findClass RX13 = some m.cls := findClass_of_methodNamed B.named
  have hlocks := B.notSynchronized
  subst hsz
  have hD := hD0.self (sz := s.heap.size)
  generalize hAe : va_A [(q0, .inr (15, [.ref q1, .ref q2, .ref q3, .ref q4, .ref q5, .ref q6, .int 0, .int 1, .ref q7, .int 0, .ref q8, .null, .ref q9, .null, .ref q10, .ref q11, .ref q12, .ref q13, .ref q14, .int 0, .ref q15, .ref q16, .ref q17, .ref q18, .ref q19, .int 0, .int 0]))] s.heap.size = A at hD hZ ⊢
  have hA : ∀ q : Nat, s.heap.size ≤ q → A q := fun q h => by rw [← hAe]; exact Or.inr h
  have hS : va_S A s.heap s.heap [] := va_S.rf
  have hP : va_P (dC, dI) vwCl [(q0, .inr (15, [.ref q1, .ref q2, .ref q3, .ref q4, .ref q5, .ref q6, .int 0, .int 1, .ref q7, .int 0, .ref q8, .null, .ref q9, .null, .ref q10, .ref q11, .ref q12, .ref q13, .ref q14, .int 0, .ref q15, .ref q16, .ref q17, .ref q18, .ref q19, .int 0, .int 0]))] s.heap := hP
  have hl := lv_entry ([.ref q0, .int p1, .int p2]) (n := 9) (Nat.le_of_ble_eq_true rfl)
  rw [lg_entry_eq]
  generalize (lg_sl ([.ref q0, .int p1, .int p2]) ++ List.replicate (9 - (lg_sl ([.ref q0, .int p1, .int p2])).length) Slot.unset).toArray = ls at hl ⊢
  have hl : lv_has ls 9 [(0, .ref q0), (1, .int p1), (2, .int p2)] := hl
  refine lv_aload_n hx hb dX13_likeness_0 rfl (lv_at hl 0 rfl) ?_
  refine lv_aload_n hx hb dX13_likeness_1 rfl (lv_at hl 0 rfl) ?_
  refine lv_iload_n hx hb dX13_likeness_2 rfl (lv_at hl 1 rfl) ?_
  have hPc := hP.sub (ws' := [(q0, .inr (15, [.ref q1, .ref q2, .ref q3, .ref q4, .ref q5, .ref q6, .int 0, .int 1, .ref q7, .int 0, .ref q8, .null, .ref q9, .null, .ref q10, .ref q11, .ref q12, .ref q13, .ref q14, .int 0, .ref q15, .ref q16, .ref q17, .ref q18, .ref q19, .int 0, .int 0]))]) [0] rfl
  have hDc := hD.sub (ws' := [(q0, .inr (15, [.ref q1, .ref q2, .ref q3, .ref q4, .ref q5, .ref q6, .int 0, .int 1, .ref q7, .int 0, .ref q8, .null, .ref q9, .null, .ref q10, .ref q11, .ref q12, .ref q13, .ref q14, .int 0, .ref q15, .ref q16, .ref q17, .ref q18, .ref q19, .int 0, .int 0]))]) [0] (by decide) rfl
  have hKc := hK.sub (tys' := []) [] rfl
  have hFc := va_free (wc := [(q0, .inr (15, [.ref q1, .ref q2, .ref q3, .ref q4, .ref q5, .ref q6, .int 0, .int 1, .ref q7, .int 0, .ref q8, .null, .ref q9, .null, .ref q10, .ref q11, .ref q12, .ref q13, .ref q14, .int 0, .ref q15, .ref q16, .ref q17, .ref q18, .ref q19, .int 0, .int 0]))]) hD hS hA [0] rfl
  refine va_calli (va_runV (As := [.int p1]) (rest := [.ref q0]) ⟨hx, hb, hml, hown, hts⟩ (c_X13_isText_2 l dC dI q0 q1 q2 q3 q4 q5 q6 q7 q8 q9 q10 q11 q12 q13 q14 q15 q16 q17 q18 q19 s.heap.size p1 hc0 hc1) (cwV 1 hts gX13_likeness_X13_isText rfl rfl rfl (by decide +kernel) ⟨Nat.le_of_ble_eq_true rfl, Nat.le_of_ble_eq_true rfl⟩) ⟨zB_blind, va_recv hK hP (ci := 15) (q0 := 0) rfl rfl, (zPre hPc hDc hKc hS hFc hZ hN)⟩ rfl rfl hl.1 rfl (lv_room (Nat.le_of_ble_eq_true rfl)) dX13_likeness_3 ⟨Nat.le_of_ble_eq_true rfl, Nat.le_of_ble_eq_true rfl⟩) hS (fun q _ h => hFc q h) hFc (fun r u t H1 locs ht hvm hw hB hz1 hk1 hS => ?_)
  subst hw
  obtain ⟨hP1, hK1, hD1⟩ := hB
  rw [ht] at hP1
  have hK1 := va_K.moved hvm.symm hK1
  obtain ⟨hP, hD⟩ := va_join (wr := []) (w1 := [(q0, .inr (15, [.ref q1, .ref q2, .ref q3, .ref q4, .ref q5, .ref q6, .int 0, .int 1, .ref q7, .int 0, .ref q8, .null, .ref q9, .null, .ref q10, .ref q11, .ref q12, .ref q13, .ref q14, .int 0, .ref q15, .ref q16, .ref q17, .ref q18, .ref q19, .int 0, .int 0]))]) hP hD [0] [] rfl rfl (by decide) (by decide) hk1 hFc hP1 hD1
  have hK := (hK.sub (tys' := []) [] rfl).app hK1
  generalize H1 = H at hP hS ⊢
  have hP : va_P (dC, dI) vwCl [(q0, .inr (15, [.ref q1, .ref q2, .ref q3, .ref q4, .ref q5, .ref q6, .int 0, .int 1, .ref q7, .int 0, .ref q8, .null, .ref q9, .null, .ref q10, .ref q11, .ref q12, .ref q13, .ref q14, .int 0, .ref q15, .ref q16, .ref q17, .ref q18, .ref q19, .int 0, .int 0]))] H := hP
  have hD : va_D A [(q0, .inr (15, [.ref q1, .ref q2, .ref q3, .ref q4, .ref q5, .ref q6, .int 0, .int 1, .ref q7, .int 0, .ref q8, .null, .ref q9, .null, .ref q10, .ref q11, .ref q12, .ref q13, .ref q14, .int 0, .ref q15, .ref q16, .ref q17, .ref q18, .ref q19, .int 0, .int 0]))] := hD
  have hK : va_K (dC, dI) vwCl [] s := hK
  refine W.widen (k := 0) (n := 0) (Nat.le_of_ble_eq_true rfl) (Nat.le_of_ble_eq_true rfl) ?_
  refine lv_if_eq (tgt := 21) hx hb dX13_likeness_6 (by decide) (fun _ => ?_) (fun h9 => absurd (show (0 : Int32) = (0 : Int32) by decide +kernel) h9)
  refine lv_iconst (v := 0) hx hb dX13_likeness_21 (by decide +kernel) ?_
  refine lv_iconst (v := 1) hx hb dX13_likeness_22 (by decide +kernel) ?_
  have hPc := hP.sub (ws' := [(q0, .inr (15, [.ref q1, .ref q2, .ref q3, .ref q4, .ref q5, .ref q6, .int 0, .int 1, .ref q7, .int 0, .ref q8, .null, .ref q9, .null, .ref q10, .ref q11, .ref q12, .ref q13, .ref q14, .int 0, .ref q15, .ref q16, .ref q17, .ref q18, .ref q19, .int 0, .int 0]))]) [0] rfl
  have hDc := hD.sub (ws' := [(q0, .inr (15, [.ref q1, .ref q2, .ref q3, .ref q4, .ref q5, .ref q6, .int 0, .int 1, .ref q7, .int 0, .ref q8, .null, .ref q9, .null, .ref q10, .ref q11, .ref q12, .ref q13, .ref q14, .int 0, .ref q15, .ref q16, .ref q17, .ref q18, .ref q19, .int 0, .int 0]))]) [0] (by decide) rfl
  have hKc := hK.sub (tys' := []) [] rfl
  have hFc := va_free (wc := [(q0, .inr (15, [.ref q1, .ref q2, .ref q3, .ref q4, .ref q5, .ref q6, .int 0, .int 1, .ref q7, .int 0, .ref q8, .null, .ref q9, .null, .ref q10, .ref q11, .ref q12, .ref q13, .ref q14, .int 0, .ref q15, .ref q16, .ref q17, .ref q18, .ref q19, .int 0, .int 0]))]) hD hS hA [0] rfl
  refine va_calli (va_runV (As := [.int 0, .int 1]) (rest := []) ⟨hx, hb, hml, hown, hts⟩ (c_X13_no l dC dI q0 q1 q2 q3 q4 q5 q6 q7 q8 q9 q10 q11 q12 q13 q14 q15 q16 q17 q18 q19 H.size  ) (cwV 2 hts gX13_likeness_X13_no rfl rfl rfl (by decide +kernel) ⟨Nat.le_of_ble_eq_true rfl, Nat.le_of_ble_eq_true rfl⟩) ⟨zB_blind, va_recv hK hP (ci := 15) (q0 := 0) rfl rfl, (zPre hPc hDc hKc hS hFc hZ hN)⟩ rfl rfl hl.1 rfl (lv_room (Nat.le_of_ble_eq_true rfl)) dX13_likeness_23 ⟨Nat.le_of_ble_eq_true rfl, Nat.le_of_ble_eq_true rfl⟩) hS (fun q _ h => hFc q h) hFc (fun r u t H1 locs ht hvm hw hB hz1 hk1 hS => ?_)
  subst hw
  obtain ⟨hP1, hK1, hD1⟩ := hB
  rw [ht] at hP1
  have hK1 := va_K.moved hvm.symm hK1
  obtain ⟨hP, hD⟩ := va_join (wr := []) (w1 := [(q0, .inr (15, [.ref q1, .ref q2, .ref q3, .ref q4, .ref q5, .ref q6, .int 0, .int 1, .ref q7, .int 0, .ref q8, .null, .ref q9, .null, .ref q10, .ref q11, .ref q12, .ref q13, .ref q14, .int 1, .ref q15, .ref q16, .ref q17, .ref q18, .ref q19, .int 0, .int 0]))]) hP hD [0] [] rfl rfl (by decide) (by decide) hk1 hFc hP1 hD1
  have hK := (hK.sub (tys' := []) [] rfl).app hK1
  generalize H1 = H at hP hS ⊢
  have hP : va_P (dC, dI) vwCl [(q0, .inr (15, [.ref q1, .ref q2, .ref q3, .ref q4, .ref q5, .ref q6, .int 0, .int 1, .ref q7, .int 0, .ref q8, .null, .ref q9, .null, .ref q10, .ref q11, .ref q12, .ref q13, .ref q14, .int 1, .ref q15, .ref q16, .ref q17, .ref q18, .ref q19, .int 0, .int 0]))] H := hP
  have hD : va_D A [(q0, .inr (15, [.ref q1, .ref q2, .ref q3, .ref q4, .ref q5, .ref q6, .int 0, .int 1, .ref q7, .int 0, .ref q8, .null, .ref q9, .null, .ref q10, .ref q11, .ref q12, .ref q13, .ref q14, .int 1, .ref q15, .ref q16, .ref q17, .ref q18, .ref q19, .int 0, .int 0]))] := hD
  have hK : va_K (dC, dI) vwCl [] s := hK
  refine W.widen (k := 0) (n := 0) (Nat.le_of_ble_eq_true rfl) (Nat.le_of_ble_eq_true rfl) ?_
  refine lv_if_eq (tgt := 31) hx hb dX13_likeness_26 (by decide) (fun h9 => absurd h9 (show ¬ (1 : Int32) = (0 : Int32) by decide +kernel)) (fun _ => ?_)
  refine lv_iconst (v := 0) hx hb dX13_likeness_29 (by decide +kernel) ?_
  have hP9 := hP.sub (ws' := [(q0, .inr (15, [.ref q1, .ref q2, .ref q3, .ref q4, .ref q5, .ref q6, .int 0, .int 1, .ref q7, .int 0, .ref q8, .null, .ref q9, .null, .ref q10, .ref q11, .ref q12, .ref q13, .ref q14, .int 1, .ref q15, .ref q16, .ref q17, .ref q18, .ref q19, .int 0, .int 0]))]) [0] rfl
  have hD9 := hD.sub (ws' := [(q0, .inr (15, [.ref q1, .ref q2, .ref q3, .ref q4, .ref q5, .ref q6, .int 0, .int 1, .ref q7, .int 0, .ref q8, .null, .ref q9, .null, .ref q10, .ref q11, .ref q12, .ref q13, .ref q14, .int 1, .ref q15, .ref q16, .ref q17, .ref q18, .ref q19, .int 0, .int 0]))]) [0] (by decide) rfl
  have hK9 := hK.sub (tys' := []) [] rfl
  exact W.iret (v := 0) hx hb hr (fun t ht hW => ⟨⟨0, (), rfl, rfl, ⟨by rw [ht]; exact hP9, va_K.moved hW.alike hK9, hD9⟩⟩, hS.F ht⟩) hS.2.2 dX13_likeness_30
set_option maxHeartbeats 4000000 in
set_option maxRecDepth 100000 in
theorem c_X2_clear (l : Launch) (dC : Nat → ClassId) (dI : Nat → Nat → Nat) (q0 q1 : Nat) (sz : Nat) : Met l yX2_clear wsX2_clear ({ frames := 0, cells := 0, slots := 0, locals := 0 }) (va_Pc [.ref q0] (zB (dC, dI) [] [(q0, .inr (5, [.ref q1, .int 0, .int 0]))] sz)) (va_Qv (fun (_ : Unit) => True) (fun _ t => zE (dC, dI) [] [(q0, .inr (5, [.ref q1, .int 0, .int 0]))] (va_A [(q0, .inr (5, [.ref q1, .int 0, .int 0]))] sz) t) (va_A [(q0, .inr (5, [.ref q1, .int 0, .int 0]))] sz)) 0 0 (va_A [(q0, .inr (5, [.ref q1, .int 0, .int 0]))] sz) := by
  refine Met.ofW (cc := cX2_clear) (maxL := 1) (ret := none) (by decide) rfl ?_
  intro p e s m args below meth c s₁ B hml hv
  obtain ⟨rfl, hsz, hP, hK, hD0, hZ, hN⟩ := hv
  have hx := B.exec
  have hb := B.bytes
  have hr := B.returns
  have hts := atoms_spec (ws := wsX2_clear) B.pre
  have hown : s.vm.findClass RX2 = some m.cls := findClass_of_methodNamed B.named
  have hlocks := B.notSynchronized
  subst hsz
  have hD := hD0.self (sz := s.heap.size)
  generalize hAe : va_A [(q0, .inr (5, [.ref q1, .int 0, .int 0]))] s.heap.size = A at hD hZ ⊢
  have hA : ∀ q : Nat, s.heap.size ≤ q → A q := fun q h => by rw [← hAe]; exact Or.inr h
  have hS : va_S A s.heap s.heap [] := va_S.rf
  have hP : va_P (dC, dI) vwCl [(q0, .inr (5, [.ref q1, .int 0, .int 0]))] s.heap := hP
  have hl := lv_entry ([.ref q0]) (n := 1) (Nat.le_of_ble_eq_true rfl)
  rw [lg_entry_eq]
  generalize (lg_sl ([.ref q0]) ++ List.replicate (1 - (lg_sl ([.ref q0])).length) Slot.unset).toArray = ls at hl ⊢
  have hl : lv_has ls 1 [(0, .ref q0)] := hl
  refine lv_aload_n hx hb dX2_clear_0 rfl (lv_at hl 0 rfl) ?_
  refine lv_iconst (v := 0) hx hb dX2_clear_1 (by decide +kernel) ?_
  refine va_put (D := (dC, dI)) (ci := 5) (v := .int 0) (ty := .int) (C := RX2) (T := TX2) (N := 3) hx hb hts (fun _ h => List.mem_cons_of_mem _ (List.mem_append_right _ h)) tyX2 tyX2_ok nmX2 hown hK hP hD hS 0 rfl rfl 1 (by decide) (hts (.fieldLink RX2 13 "Seekwell$Bytes" "size" "I") (by decide +kernel)) (fun _ h9 => h9) rfl (by decide +kernel) rfl rfl (Nat.le_of_ble_eq_true rfl) dX2_clear_2 (fun H locs hP hD hS => ?_)
  have hP : va_P (dC, dI) vwCl [(q0, .inr (5, [.ref q1, .int 0, .int 0]))] H := hP
  have hD : va_D A [(q0, .inr (5, [.ref q1, .int 0, .int 0]))] := hD
  refine lv_aload_n hx hb dX2_clear_5 rfl (lv_at hl 0 rfl) ?_
  refine lv_iconst (v := 0) hx hb dX2_clear_6 (by decide +kernel) ?_
  refine va_put (D := (dC, dI)) (ci := 5) (v := .int 0) (ty := .int) (C := RX2) (T := TX2) (N := 3) hx hb hts (fun _ h => List.mem_cons_of_mem _ (List.mem_append_right _ h)) tyX2 tyX2_ok nmX2 hown hK hP hD hS 0 rfl rfl 2 (by decide) (hts (.fieldLink RX2 17 "Seekwell$Bytes" "cursor" "I") (by decide +kernel)) (fun _ h9 => h9) rfl (by decide +kernel) rfl rfl (Nat.le_of_ble_eq_true rfl) dX2_clear_7 (fun H locs hP hD hS => ?_)
  have hP : va_P (dC, dI) vwCl [(q0, .inr (5, [.ref q1, .int 0, .int 0]))] H := hP
  have hD : va_D A [(q0, .inr (5, [.ref q1, .int 0, .int 0]))] := hD
  have hP9 := hP.sub (ws' := [(q0, .inr (5, [.ref q1, .int 0, .int 0]))]) [0] rfl
  have hD9 := hD.sub (ws' := [(q0, .inr (5, [.ref q1, .int 0, .int 0]))]) [0] (by decide) rfl
  have hK9 := hK.sub (tys' := []) [] rfl
  exact W.vret hx hb hr (fun t ht hW => ⟨⟨(), rfl, trivial, ⟨by rw [ht]; exact hP9, va_K.moved hW.alike hK9, hD9⟩⟩, hS.F ht⟩) hS.2.2 dX2_clear_10
set_option maxHeartbeats 4000000 in
set_option maxRecDepth 100000 in
theorem c_X8_writeInto (l : Launch) (dC : Nat → ClassId) (dI : Nat → Nat → Nat) (q0 q1 q2 q3 : Nat) (sz : Nat) : Met l yX8_writeInto wsX8_writeInto ({ frames := 1, cells := 0, slots := 0, locals := 20 }) (va_Pc [.ref q0, .ref q1] (zB (dC, dI) [] [(q0, .inr (11, [.ref q2, .int 0, .int 1])), (q1, .inr (5, [.ref q3, .int 0, .int 0]))] sz)) (va_Qv (fun (_ : Unit) => True) (fun _ t => zE (dC, dI) [] [(q1, .inr (5, [.ref q3, .int 0, .int 0]))] (va_A [(q0, .inr (11, [.ref q2, .int 0, .int 1])), (q1, .inr (5, [.ref q3, .int 0, .int 0]))] sz) t) (va_A [(q0, .inr (11, [.ref q2, .int 0, .int 1])), (q1, .inr (5, [.ref q3, .int 0, .int 0]))] sz)) 0 0 (va_A [(q0, .inr (11, [.ref q2, .int 0, .int 1])), (q1, .inr (5, [.ref q3, .int 0, .int 0]))] sz) := by
  refine Met.ofW (cc := cX8_writeInto) (maxL := 4) (ret := none) (by decide) rfl ?_
  intro p e s m args below meth c s₁ B hml hv
  obtain ⟨rfl, hsz, hP, hK, hD0, hZ, hN⟩ := hv
  have hx := B.exec
  have hb := B.bytes
  have hr := B.returns
  have hts := atoms_spec (ws := wsX8_writeInto) B.pre
  have hown : s.vm.findClass RX8 = some m.cls := findClass_of_methodNamed B.named
  have hlocks := B.notSynchronized
  subst hsz
  have hD := hD0.self (sz := s.heap.size)
  generalize hAe : va_A [(q0, .inr (11, [.ref q2, .int 0, .int 1])), (q1, .inr (5, [.ref q3, .int 0, .int 0]))] s.heap.size = A at hD hZ ⊢
  have hA : ∀ q : Nat, s.heap.size ≤ q → A q := fun q h => by rw [← hAe]; exact Or.inr h
  have hS : va_S A s.heap s.heap [] := va_S.rf
  have hP : va_P (dC, dI) vwCl [(q0, .inr (11, [.ref q2, .int 0, .int 1])), (q1, .inr (5, [.ref q3, .int 0, .int 0]))] s.heap := hP
  have hl := lv_entry ([.ref q0, .ref q1]) (n := 4) (Nat.le_of_ble_eq_true rfl)
  rw [lg_entry_eq]
  generalize (lg_sl ([.ref q0, .ref q1]) ++ List.replicate (4 - (lg_sl ([.ref q0, .ref q1])).length) Slot.unset).toArray = ls at hl ⊢
  have hl : lv_has ls 4 [(0, .ref q0), (1, .ref q1)] := hl
  refine lv_aload_n hx hb dX8_writeInto_0 rfl (lv_at hl 1 rfl) ?_
  have hPc := hP.sub (ws' := [(q1, .inr (5, [.ref q3, .int 0, .int 0]))]) [1] rfl
  have hDc := hD.sub (ws' := [(q1, .inr (5, [.ref q3, .int 0, .int 0]))]) [1] (by decide) rfl
  have hKc := hK.sub (tys' := []) [] rfl
  have hFc := va_free (wc := [(q1, .inr (5, [.ref q3, .int 0, .int 0]))]) hD hS hA [1] rfl
  refine va_callv (va_runV (As := []) (rest := []) ⟨hx, hb, hml, hown, hts⟩ (c_X2_clear l dC dI q1 q3 s.heap.size  ) (cwV 0 hts gX8_writeInto_X2_clear rfl rfl rfl (by decide +kernel) ⟨Nat.le_of_ble_eq_true rfl, Nat.le_of_ble_eq_true rfl⟩) ⟨zB_blind, va_recv hK hP (ci := 5) (q0 := 1) rfl rfl, (zPre hPc hDc hKc hS hFc hZ hN)⟩ rfl rfl hl.1 rfl (lv_room (Nat.le_of_ble_eq_true rfl)) dX8_writeInto_1 ⟨Nat.le_of_ble_eq_true rfl, Nat.le_of_ble_eq_true rfl⟩) hS (fun q _ h => hFc q h) hFc (fun u t H1 locs ht hvm hw hB hz1 hk1 hS => ?_)
  obtain ⟨hP1, hK1, hD1⟩ := hB
  rw [ht] at hP1
  have hK1 := va_K.moved hvm.symm hK1
  obtain ⟨hP, hD⟩ := va_join (wr := [(q0, .inr (11, [.ref q2, .int 0, .int 1]))]) (w1 := [(q1, .inr (5, [.ref q3, .int 0, .int 0]))]) hP hD [1] [0] rfl rfl (by decide) (by decide) hk1 hFc hP1 hD1
  have hK := (hK.sub (tys' := []) [] rfl).app hK1
  generalize H1 = H at hP hS ⊢
  have hP : va_P (dC, dI) vwCl [(q0, .inr (11, [.ref q2, .int 0, .int 1])), (q1, .inr (5, [.ref q3, .int 0, .int 0]))] H := hP
  have hD : va_D A [(q0, .inr (11, [.ref q2, .int 0, .int 1])), (q1, .inr (5, [.ref q3, .int 0, .int 0]))] := hD
  have hK : va_K (dC, dI) vwCl [] s := hK
  refine W.widen (k := 0) (n := 0) (Nat.le_of_ble_eq_true rfl) (Nat.le_of_ble_eq_true rfl) ?_
  refine lv_iconst (v := 0) hx hb dX8_writeInto_4 (by decide +kernel) ?_
  refine lv_istore_n (lv' := [(2, .int 0), (0, .ref q0), (1, .ref q1)]) hx hb dX8_writeInto_5 rfl hl (by decide) rfl (fun ls hl => ?_)
  refine lv_iload_n hx hb dX8_writeInto_6 rfl (lv_at hl 0 rfl) ?_
  refine lv_aload_n hx hb dX8_writeInto_7 rfl (lv_at hl 1 rfl) ?_
  refine va_get (D := (dC, dI)) (ci := 11) (v := .int 0) (C := RX8) (T := TX8) (N := 3) hx hb hts (fun _ h => List.mem_cons_of_mem _ (List.mem_append_left _ (List.mem_append_left _ (List.mem_append_left _ (List.mem_append_left _ (List.mem_append_left _ (List.mem_append_right _ h))))))) hown hK hP 0 rfl rfl 1 (by decide) (hts (.fieldLink RX8 17 "Seekwell$Shelf" "came" "I") (by decide +kernel)) (fun _ h9 => h9) rfl dX8_writeInto_8 ?_
  refine lv_icmp_ge (tgt := 70) hx hb dX8_writeInto_11 (by decide) (fun _ => ?_) (fun h9 => absurd (show (0 : Int32) ≤ (0 : Int32) by decide +kernel) h9)
  have hP9 := hP.sub (ws' := [(q1, .inr (5, [.ref q3, .int 0, .int 0]))]) [1] rfl
  have hD9 := hD.sub (ws' := [(q1, .inr (5, [.ref q3, .int 0, .int 0]))]) [1] (by decide) rfl
  have hK9 := hK.sub (tys' := []) [] rfl
  exact W.vret hx hb hr (fun t ht hW => ⟨⟨(), rfl, trivial, ⟨by rw [ht]; exact hP9, va_K.moved hW.alike hK9, hD9⟩⟩, hS.F ht⟩) hS.2.2 dX8_writeInto_70
set_option maxHeartbeats 4000000 in
set_option maxRecDepth 100000 in
theorem c_X11_write (l : Launch) (dC : Nat → ClassId) (dI : Nat → Nat → Nat) (q0 q1 q2 q3 q4 q5 q6 q7 q8 q9 q10 q11 q12 q13 q14 q15 : Nat) (sz : Nat) : Met l yX11_write wsX11_write ({ frames := 2, cells := 0, slots := 0, locals := 43 }) (va_Pc [.ref q0] (zB (dC, dI) [] [(q0, .inr (13, [.ref q1, .ref q2, .ref q3, .ref q4, .ref q5, .ref q6, .ref q7, .ref q8, .int 0, .ref q9, .ref q10, .ref q11, .ref q12, .ref q13])), (q2, .inr (11, [.ref q14, .int 0, .int 1])), (q8, .inr (5, [.ref q15, .int 0, .int 0]))] sz)) (va_Qi (fun (r : Int32) (_ : Unit) => 0 = r) (fun _ t => zE (dC, dI) [] [] (va_A [(q0, .inr (13, [.ref q1, .ref q2, .ref q3, .ref q4, .ref q5, .ref q6, .ref q7, .ref q8, .int 0, .ref q9, .ref q10, .ref q11, .ref q12, .ref q13])), (q2, .inr (11, [.ref q14, .int 0, .int 1])), (q8, .inr (5, [.ref q15, .int 0, .int 0]))] sz) t) (va_A [(q0, .inr (13, [.ref q1, .ref q2, .ref q3, .ref q4, .ref q5, .ref q6, .ref q7, .ref q8, .int 0, .ref q9, .ref q10, .ref q11, .ref q12, .ref q13])), (q2, .inr (11, [.ref q14, .int 0, .int 1])), (q8, .inr (5, [.ref q15, .int 0, .int 0]))] sz)) 0 0 (va_A [(q0, .inr (13, [.ref q1, .ref q2, .ref q3, .ref q4, .ref q5, .ref q6, .ref q7, .ref q8, .int 0, .ref q9, .ref q10, .ref q11, .ref q12, .ref q13])), (q2, .inr (11, [.ref q14, .int 0, .int 1])), (q8, .inr (5, [.ref q15, .int 0, .int 0]))] sz) := by
  refine Met.ofW (cc := cX11_write) (maxL := 1) (ret := (some .int)) (by decide) rfl ?_
  intro p e s m args below meth c s₁ B hml hv
  obtain ⟨rfl, hsz, hP, hK, hD0, hZ, hN⟩ := hv
  have hx := B.exec
  have hb := B.bytes
  have hr := B.returns
  have hts := atoms_spec (ws := wsX11_write) B.pre
  have hown : s.vm.findClass RX11 = some m.cls := findClass_of_methodNamed B.named
  have hlocks := B.notSynchronized
  subst hsz
  have hD := hD0.self (sz := s.heap.size)
  generalize hAe : va_A [(q0, .inr (13, [.ref q1, .ref q2, .ref q3, .ref q4, .ref q5, .ref q6, .ref q7, .ref q8, .int 0, .ref q9, .ref q10, .ref q11, .ref q12, .ref q13])), (q2, .inr (11, [.ref q14, .int 0, .int 1])), (q8, .inr (5, [.ref q15, .int 0, .int 0]))] s.heap.size = A at hD hZ ⊢
  have hA : ∀ q : Nat, s.heap.size ≤ q → A q := fun q h => by rw [← hAe]; exact Or.inr h
  have hS : va_S A s.heap s.heap [] := va_S.rf
  have hP : va_P (dC, dI) vwCl [(q0, .inr (13, [.ref q1, .ref q2, .ref q3, .ref q4, .ref q5, .ref q6, .ref q7, .ref q8, .int 0, .ref q9, .ref q10, .ref q11, .ref q12, .ref q13])), (q2, .inr (11, [.ref q14, .int 0, .int 1])), (q8, .inr (5, [.ref q15, .int 0, .int 0]))] s.heap := hP
  have hl := lv_entry ([.ref q0]) (n := 1) (Nat.le_of_ble_eq_true rfl)
  rw [lg_entry_eq]
  generalize (lg_sl ([.ref q0]) ++ List.replicate (1 - (lg_sl ([.ref q0])).length) Slot.unset).toArray = ls at hl ⊢
  have hl : lv_has ls 1 [(0, .ref q0)] := hl
  refine lv_aload_n hx hb dX11_write_0 rfl (lv_at hl 0 rfl) ?_
  refine va_get (D := (dC, dI)) (ci := 13) (v := .ref q2) (C := RX11) (T := TX11) (N := 14) hx hb hts (fun _ h => List.mem_cons_of_mem _ (List.mem_append_left _ (List.mem_append_left _ (List.mem_append_left _ (List.mem_append_left _ (List.mem_append_left _ (List.mem_append_left _ (List.mem_append_right _ h)))))))) hown hK hP 0 rfl rfl 1 (by decide) (hts (.fieldLink RX11 19 "Seekwell" "shelf" "LSeekwell$Shelf;") (by decide +kernel)) (fun _ h9 => h9) rfl dX11_write_1 ?_
  refine lv_aload_n hx hb dX11_write_4 rfl (lv_at hl 0 rfl) ?_
  refine va_get (D := (dC, dI)) (ci := 13) (v := .ref q8) (C := RX11) (T := TX11) (N := 14) hx hb hts (fun _ h => List.mem_cons_of_mem _ (List.mem_append_left _ (List.mem_append_left _ (List.mem_append_left _ (List.mem_append_left _ (List.mem_append_left _ (List.mem_append_left _ (List.mem_append_right _ h)))))))) hown hK hP 0 rfl rfl 7 (by decide) (hts (.fieldLink RX11 46 "Seekwell" "written" "LSeekwell$Bytes;") (by decide +kernel)) (fun _ h9 => h9) rfl dX11_write_5 ?_
  have hPc := hP.sub (ws' := [(q2, .inr (11, [.ref q14, .int 0, .int 1])), (q8, .inr (5, [.ref q15, .int 0, .int 0]))]) [1, 2] rfl
  have hDc := hD.sub (ws' := [(q2, .inr (11, [.ref q14, .int 0, .int 1])), (q8, .inr (5, [.ref q15, .int 0, .int 0]))]) [1, 2] (by decide) rfl
  have hKc := hK.sub (tys' := []) [] rfl
  have hFc := va_free (wc := [(q2, .inr (11, [.ref q14, .int 0, .int 1])), (q8, .inr (5, [.ref q15, .int 0, .int 0]))]) hD hS hA [1, 2] rfl
  refine va_callv (va_runV (As := [.ref q8]) (rest := []) ⟨hx, hb, hml, hown, hts⟩ (c_X8_writeInto l dC dI q2 q8 q14 q15 s.heap.size  ) (cwV 1 hts gX11_write_X8_writeInto rfl rfl rfl (by decide +kernel) ⟨Nat.le_of_ble_eq_true rfl, Nat.le_of_ble_eq_true rfl⟩) ⟨zB_blind, va_recv hK hP (ci := 11) (q0 := 1) rfl rfl, (zPre hPc hDc hKc hS hFc hZ hN)⟩ rfl rfl hl.1 rfl (lv_room (Nat.le_of_ble_eq_true rfl)) dX11_write_8 ⟨Nat.le_of_ble_eq_true rfl, Nat.le_of_ble_eq_true rfl⟩) hS (fun q _ h => hFc q h) hFc (fun u t H1 locs ht hvm hw hB hz1 hk1 hS => ?_)
  obtain ⟨hP1, hK1, hD1⟩ := hB
  rw [ht] at hP1
  have hK1 := va_K.moved hvm.symm hK1
  obtain ⟨hP, hD⟩ := va_join (wr := [(q0, .inr (13, [.ref q1, .ref q2, .ref q3, .ref q4, .ref q5, .ref q6, .ref q7, .ref q8, .int 0, .ref q9, .ref q10, .ref q11, .ref q12, .ref q13]))]) (w1 := [(q8, .inr (5, [.ref q15, .int 0, .int 0]))]) hP hD [1, 2] [0] rfl rfl (by decide) (by decide) hk1 hFc hP1 hD1
  have hK := (hK.sub (tys' := []) [] rfl).app hK1
  generalize H1 = H at hP hS ⊢
  have hP : va_P (dC, dI) vwCl [(q0, .inr (13, [.ref q1, .ref q2, .ref q3, .ref q4, .ref q5, .ref q6, .ref q7, .ref q8, .int 0, .ref q9, .ref q10, .ref q11, .ref q12, .ref q13])), (q8, .inr (5, [.ref q15, .int 0, .int 0]))] H := hP
  have hD : va_D A [(q0, .inr (13, [.ref q1, .ref q2, .ref q3, .ref q4, .ref q5, .ref q6, .ref q7, .ref q8, .int 0, .ref q9, .ref q10, .ref q11, .ref q12, .ref q13])), (q8, .inr (5, [.ref q15, .int 0, .int 0]))] := hD
  have hK : va_K (dC, dI) vwCl [] s := hK
  refine W.widen (k := 0) (n := 0) (Nat.le_of_ble_eq_true rfl) (Nat.le_of_ble_eq_true rfl) ?_
  refine lv_aload_n hx hb dX11_write_11 rfl (lv_at hl 0 rfl) ?_
  refine lv_iconst (v := 1) hx hb dX11_write_12 (by decide +kernel) ?_
  refine va_put (D := (dC, dI)) (ci := 13) (v := .int 1) (ty := .boolean) (C := RX11) (T := TX11) (N := 14) hx hb hts (fun _ h => List.mem_cons_of_mem _ (List.mem_append_left _ (List.mem_append_left _ (List.mem_append_left _ (List.mem_append_left _ (List.mem_append_left _ (List.mem_append_left _ (List.mem_append_right _ h)))))))) tyX11 tyX11_ok nmX11 hown hK hP hD hS 0 rfl rfl 8 (by decide) (hts (.fieldLink RX11 49 "Seekwell" "hasWritten" "Z") (by decide +kernel)) (fun _ h9 => h9) rfl (by decide +kernel) rfl rfl (Nat.le_of_ble_eq_true rfl) dX11_write_13 (fun H locs hP hD hS => ?_)
  have hP : va_P (dC, dI) vwCl [(q0, .inr (13, [.ref q1, .ref q2, .ref q3, .ref q4, .ref q5, .ref q6, .ref q7, .ref q8, .int 1, .ref q9, .ref q10, .ref q11, .ref q12, .ref q13])), (q8, .inr (5, [.ref q15, .int 0, .int 0]))] H := hP
  have hD : va_D A [(q0, .inr (13, [.ref q1, .ref q2, .ref q3, .ref q4, .ref q5, .ref q6, .ref q7, .ref q8, .int 1, .ref q9, .ref q10, .ref q11, .ref q12, .ref q13])), (q8, .inr (5, [.ref q15, .int 0, .int 0]))] := hD
  refine lv_aload_n hx hb dX11_write_16 rfl (lv_at hl 0 rfl) ?_
  refine va_get (D := (dC, dI)) (ci := 13) (v := .ref q8) (C := RX11) (T := TX11) (N := 14) hx hb hts (fun _ h => List.mem_cons_of_mem _ (List.mem_append_left _ (List.mem_append_left _ (List.mem_append_left _ (List.mem_append_left _ (List.mem_append_left _ (List.mem_append_left _ (List.mem_append_right _ h)))))))) hown hK hP 0 rfl rfl 7 (by decide) (hts (.fieldLink RX11 46 "Seekwell" "written" "LSeekwell$Bytes;") (by decide +kernel)) (fun _ h9 => h9) rfl dX11_write_17 ?_
  have hPc := hP.sub (ws' := [(q8, .inr (5, [.ref q15, .int 0, .int 0]))]) [1] rfl
  have hDc := hD.sub (ws' := [(q8, .inr (5, [.ref q15, .int 0, .int 0]))]) [1] (by decide) rfl
  have hKc := hK.sub (tys' := []) [] rfl
  have hFc := va_free (wc := [(q8, .inr (5, [.ref q15, .int 0, .int 0]))]) hD hS hA [1] rfl
  refine va_calli (va_runV (As := []) (rest := []) ⟨hx, hb, hml, hown, hts⟩ (c_X2_size l dC dI q8 q15 H.size  ) (cwV 0 hts gX11_write_X2_size rfl rfl rfl (by decide +kernel) ⟨Nat.le_of_ble_eq_true rfl, Nat.le_of_ble_eq_true rfl⟩) ⟨zB_blind, va_recv hK hP (ci := 5) (q0 := 1) rfl rfl, (zPre hPc hDc hKc hS hFc hZ hN)⟩ rfl rfl hl.1 rfl (lv_room (Nat.le_of_ble_eq_true rfl)) dX11_write_20 ⟨Nat.le_of_ble_eq_true rfl, Nat.le_of_ble_eq_true rfl⟩) hS (fun q _ h => hFc q h) hFc (fun r u t H1 locs ht hvm hw hB hz1 hk1 hS => ?_)
  subst hw
  obtain ⟨hP1, hK1, hD1⟩ := hB
  rw [ht] at hP1
  have hK1 := va_K.moved hvm.symm hK1
  obtain ⟨hP, hD⟩ := va_join (wr := []) (w1 := []) hP hD [1] [] rfl rfl (by decide) (by decide) hk1 hFc hP1 hD1
  have hK := (hK.sub (tys' := []) [] rfl).app hK1
  generalize H1 = H at hP hS ⊢
  have hP : va_P (dC, dI) vwCl [] H := hP
  have hD : va_D A [] := hD
  have hK : va_K (dC, dI) vwCl [] s := hK
  refine W.widen (k := 0) (n := 0) (Nat.le_of_ble_eq_true rfl) (Nat.le_of_ble_eq_true rfl) ?_
  have hP9 := hP.sub (ws' := []) [] rfl
  have hD9 := hD.sub (ws' := []) [] (by decide) rfl
  have hK9 := hK.sub (tys' := []) [] rfl
  exact W.iret (v := 0) hx hb hr (fun t ht hW => ⟨⟨0, (), rfl, rfl, ⟨by rw [ht]; exact hP9, va_K.moved hW.alike hK9, hD9⟩⟩, hS.F ht⟩) hS.2.2 dX11_write_23
set_option maxHeartbeats 4000000 in
set_option maxRecDepth 100000 in
theorem c_X13_head_ (l : Launch) (dC : Nat → ClassId) (dI : Nat → Nat → Nat) (q0 : Nat) (sz : Nat) : Met l yX13_head_ wsX13_head_ ({ frames := 0, cells := 1, slots := 0, locals := 0 }) (va_Pc [.ref q0, .int 0] (zB (dC, dI) [] [] sz)) (va_Qr (fun (_ : Unit) => True) (fun _ ra t => ∃ q1 : Nat, q1 = ra ∧ zE (dC, dI) [] [] (va_A [] sz) t) (va_A [] sz)) 1 0 (va_A [] sz) := by
  refine Met.ofW (cc := cX13_head_) (maxL := 4) (ret := (some (.array .int))) (by decide) rfl ?_
  intro p e s m args below meth c s₁ B hml hv
  obtain ⟨rfl, hsz, hP, hK, hD0, hZ, hN⟩ := hv
  have hx := B.exec
  have hb := B.bytes
  have hr := B.returns
  have hts := atoms_spec (ws := wsX13_head_) B.pre
  have hown : s.vm.findClass RX13 = some m.cls := findClass_of_methodNamed B.named
  have hlocks := B.notSynchronized
  subst hsz
  have hD := hD0.self (sz := s.heap.size)
  generalize hAe : va_A [] s.heap.size = A at hD hZ ⊢
  have hA : ∀ q : Nat, s.heap.size ≤ q → A q := fun q h => by rw [← hAe]; exact Or.inr h
  have hS : va_S A s.heap s.heap [] := va_S.rf
  have hP : va_P (dC, dI) vwCl [] s.heap := hP
  have hl := lv_entry ([.ref q0, .int 0]) (n := 4) (Nat.le_of_ble_eq_true rfl)
  rw [lg_entry_eq]
  generalize (lg_sl ([.ref q0, .int 0]) ++ List.replicate (4 - (lg_sl ([.ref q0, .int 0])).length) Slot.unset).toArray = ls at hl ⊢
  have hl : lv_has ls 4 [(0, .ref q0), (1, .int 0)] := hl
  refine lv_iload_n hx hb dX13_head__0 rfl (lv_at hl 1 rfl) ?_
  refine va_newa (D := (dC, dI)) (atype := .int) (ty := .int) (a0 := (0, .inl (fun _ => 0))) (N' := 0) hx hb (hts (.arrayClass .int) (by decide +kernel)) rfl hK hP hD hS hA (fun _ => rfl) (by decide +kernel) (by decide +kernel) (Nat.le_of_ble_eq_true rfl) (Nat.le_of_ble_eq_true rfl) (Nat.le_of_ble_eq_true rfl) dX13_head__1 (fun q1 k0 H hK hP hD hS => ?_)
  have hP : va_P (dC, dI) vwCl [(q1, .inl (k0, 0, .inl (fun _ => 0)))] H := hP
  have hD : va_D A [(q1, .inl (k0, 0, .inl (fun _ => 0)))] := hD
  have hK : va_K (dC, dI) vwCl [(k0, .int)] s := hK
  refine W.widen (k := 1) (n := 0) (Nat.le_of_ble_eq_true rfl) (Nat.le_of_ble_eq_true rfl) ?_
  refine lv_astore_n (lv' := [(2, .ref q1), (0, .ref q0), (1, .int 0)]) hx hb dX13_head__3 rfl hl (by decide) rfl (fun ls hl => ?_)
  refine lv_iconst (v := 0) hx hb dX13_head__4 (by decide +kernel) ?_
  refine lv_istore_n (lv' := [(3, .int 0), (2, .ref q1), (0, .ref q0), (1, .int 0)]) hx hb dX13_head__5 rfl hl (by decide) rfl (fun ls hl => ?_)
  refine lv_iload_n hx hb dX13_head__6 rfl (lv_at hl 0 rfl) ?_
  refine lv_iload_n hx hb dX13_head__7 rfl (lv_at hl 3 rfl) ?_
  refine lv_icmp_ge (tgt := 23) hx hb dX13_head__8 (by decide) (fun _ => ?_) (fun h9 => absurd (show (0 : Int32) ≤ (0 : Int32) by decide +kernel) h9)
  refine lv_aload_n hx hb dX13_head__23 rfl (lv_at hl 1 rfl) ?_
  have hP9 := hP.sub (ws' := []) [] rfl
  have hD9 := hD.sub (ws' := []) [] (by decide) rfl
  have hK9 := hK.sub (tys' := []) [] rfl
  exact W.aret (v := .ref q1) hx hb hr (Or.inr ⟨_, rfl⟩) (Or.inr ⟨_, rfl⟩) (fun t ht hW => ⟨⟨(), q1, rfl, trivial, q1, rfl, ⟨by rw [ht]; exact hP9, va_K.moved hW.alike hK9, hD9⟩⟩, hS.F ht⟩) hS.2.2 dX13_head__24
set_option maxHeartbeats 4000000 in
set_option maxRecDepth 100000 in
theorem c_X13_write (l : Launch) (dC : Nat → ClassId) (dI : Nat → Nat → Nat) (q0 q1 q2 q3 q4 q5 q6 q7 q8 q9 q10 q11 q12 q13 q14 q15 q16 q17 q18 q19 : Nat) (k0 k1 : ClassId) (sz : Nat) : Met l yX13_write wsX13_write ({ frames := 1, cells := 2, slots := 15360, locals := 23 }) (va_Pc [.ref q0] (zB (dC, dI) [(k0, .boolean), (k1, .boolean)] [(q0, .inr (15, [.ref q1, .ref q2, .ref q3, .ref q4, .ref q5, .ref q6, .int 0, .int 1, .ref q7, .int 0, .ref q8, .null, .ref q9, .null, .ref q10, .ref q11, .ref q12, .ref q13, .ref q14, .int 0, .ref q15, .ref q16, .ref q17, .ref q18, .ref q19, .int 0, .int 0])), (q1, .inl (k0, 24, .inl (fun _ => 0))), (q10, .inl (k1, 24, .inl (fun _ => 0)))] sz)) (va_Qi (fun (r : Int32) (_ : Unit) => 0 = r) (fun _ t => zE (dC, dI) [] [] (va_A [(q0, .inr (15, [.ref q1, .ref q2, .ref q3, .ref q4, .ref q5, .ref q6, .int 0, .int 1, .ref q7, .int 0, .ref q8, .null, .ref q9, .null, .ref q10, .ref q11, .ref q12, .ref q13, .ref q14, .int 0, .ref q15, .ref q16, .ref q17, .ref q18, .ref q19, .int 0, .int 0])), (q1, .inl (k0, 24, .inl (fun _ => 0))), (q10, .inl (k1, 24, .inl (fun _ => 0)))] sz) t) (va_A [(q0, .inr (15, [.ref q1, .ref q2, .ref q3, .ref q4, .ref q5, .ref q6, .int 0, .int 1, .ref q7, .int 0, .ref q8, .null, .ref q9, .null, .ref q10, .ref q11, .ref q12, .ref q13, .ref q14, .int 0, .ref q15, .ref q16, .ref q17, .ref q18, .ref q19, .int 0, .int 0])), (q1, .inl (k0, 24, .inl (fun _ => 0))), (q10, .inl (k1, 24, .inl (fun _ => 0)))] sz)) 2 15360 (va_A [(q0, .inr (15, [.ref q1, .ref q2, .ref q3, .ref q4, .ref q5, .ref q6, .int 0, .int 1, .ref q7, .int 0, .ref q8, .null, .ref q9, .null, .ref q10, .ref q11, .ref q12, .ref q13, .ref q14, .int 0, .ref q15, .ref q16, .ref q17, .ref q18, .ref q19, .int 0, .int 0])), (q1, .inl (k0, 24, .inl (fun _ => 0))), (q10, .inl (k1, 24, .inl (fun _ => 0)))] sz) := by
  refine Met.ofW (cc := cX13_write) (maxL := 4) (ret := (some .int)) (by decide) rfl ?_
  intro p e s m args below meth c s₁ B hml hv
  obtain ⟨rfl, hsz, hP, hK, hD0, hZ, hN⟩ := hv
  have hx := B.exec
  have hb := B.bytes
  have hr := B.returns
  have hts := atoms_spec (ws := wsX13_write) B.pre
  have hown : s.vm.findClass RX13 = some m.cls := findClass_of_methodNamed B.named
  have hlocks := B.notSynchronized
  subst hsz
  have hD := hD0.self (sz := s.heap.size)
  generalize hAe : va_A [(q0, .inr (15, [.ref q1, .ref q2, .ref q3, .ref q4, .ref q5, .ref q6, .int 0, .int 1, .ref q7, .int 0, .ref q8, .null, .ref q9, .null, .ref q10, .ref q11, .ref q12, .ref q13, .ref q14, .int 0, .ref q15, .ref q16, .ref q17, .ref q18, .ref q19, .int 0, .int 0])), (q1, .inl (k0, 24, .inl (fun _ => 0))), (q10, .inl (k1, 24, .inl (fun _ => 0)))] s.heap.size = A at hD hZ ⊢
  have hA : ∀ q : Nat, s.heap.size ≤ q → A q := fun q h => by rw [← hAe]; exact Or.inr h
  have hS : va_S A s.heap s.heap [] := va_S.rf
  have hP : va_P (dC, dI) vwCl [(q0, .inr (15, [.ref q1, .ref q2, .ref q3, .ref q4, .ref q5, .ref q6, .int 0, .int 1, .ref q7, .int 0, .ref q8, .null, .ref q9, .null, .ref q10, .ref q11, .ref q12, .ref q13, .ref q14, .int 0, .ref q15, .ref q16, .ref q17, .ref q18, .ref q19, .int 0, .int 0])), (q1, .inl (k0, 24, .inl (fun _ => 0))), (q10, .inl (k1, 24, .inl (fun _ => 0)))] s.heap := hP
  have hl := lv_entry ([.ref q0]) (n := 4) (Nat.le_of_ble_eq_true rfl)
  rw [lg_entry_eq]
  generalize (lg_sl ([.ref q0]) ++ List.replicate (4 - (lg_sl ([.ref q0])).length) Slot.unset).toArray = ls at hl ⊢
  have hl : lv_has ls 4 [(0, .ref q0)] := hl
  refine lv_aload_n hx hb dX13_write_0 rfl (lv_at hl 0 rfl) ?_
  refine lv_iconst (v := 0) hx hb dX13_write_1 (by decide +kernel) ?_
  refine va_put (D := (dC, dI)) (ci := 15) (v := .int 0) (ty := .int) (C := RX13) (T := TX13) (N := 27) hx hb hts (fun _ h => List.mem_cons_of_mem _ (List.mem_append_left _ (List.mem_append_right _ h))) tyX13 tyX13_ok nmX13 hown hK hP hD hS 0 rfl rfl 19 (by decide) (hts (.fieldLink RX13 82 "SeekwellModel" "thrown" "I") (by decide +kernel)) (fun _ h9 => h9) rfl (by decide +kernel) rfl rfl (Nat.le_of_ble_eq_true rfl) dX13_write_2 (fun H locs hP hD hS => ?_)
  have hP : va_P (dC, dI) vwCl [(q0, .inr (15, [.ref q1, .ref q2, .ref q3, .ref q4, .ref q5, .ref q6, .int 0, .int 1, .ref q7, .int 0, .ref q8, .null, .ref q9, .null, .ref q10, .ref q11, .ref q12, .ref q13, .ref q14, .int 0, .ref q15, .ref q16, .ref q17, .ref q18, .ref q19, .int 0, .int 0])), (q1, .inl (k0, 24, .inl (fun _ => 0))), (q10, .inl (k1, 24, .inl (fun _ => 0)))] H := hP
  have hD : va_D A [(q0, .inr (15, [.ref q1, .ref q2, .ref q3, .ref q4, .ref q5, .ref q6, .int 0, .int 1, .ref q7, .int 0, .ref q8, .null, .ref q9, .null, .ref q10, .ref q11, .ref q12, .ref q13, .ref q14, .int 0, .ref q15, .ref q16, .ref q17, .ref q18, .ref q19, .int 0, .int 0])), (q1, .inl (k0, 24, .inl (fun _ => 0))), (q10, .inl (k1, 24, .inl (fun _ => 0)))] := hD
  refine lv_sipush (v := 15360) hx hb dX13_write_5 (by decide +kernel) ?_
  refine va_newa (D := (dC, dI)) (atype := .int) (ty := .int) (a0 := (15360, .inl (fun _ => 0))) (N' := 15360) hx hb (hts (.arrayClass .int) (by decide +kernel)) rfl hK hP hD hS hA (fun _ => rfl) (by decide +kernel) (by decide +kernel) (Nat.le_of_ble_eq_true rfl) (Nat.le_of_ble_eq_true rfl) (Nat.le_of_ble_eq_true rfl) dX13_write_8 (fun q20 k2 H hK hP hD hS => ?_)
  have hP : va_P (dC, dI) vwCl [(q0, .inr (15, [.ref q1, .ref q2, .ref q3, .ref q4, .ref q5, .ref q6, .int 0, .int 1, .ref q7, .int 0, .ref q8, .null, .ref q9, .null, .ref q10, .ref q11, .ref q12, .ref q13, .ref q14, .int 0, .ref q15, .ref q16, .ref q17, .ref q18, .ref q19, .int 0, .int 0])), (q1, .inl (k0, 24, .inl (fun _ => 0))), (q10, .inl (k1, 24, .inl (fun _ => 0))), (q20, .inl (k2, 15360, .inl (fun _ => 0)))] H := hP
  have hD : va_D A [(q0, .inr (15, [.ref q1, .ref q2, .ref q3, .ref q4, .ref q5, .ref q6, .int 0, .int 1, .ref q7, .int 0, .ref q8, .null, .ref q9, .null, .ref q10, .ref q11, .ref q12, .ref q13, .ref q14, .int 0, .ref q15, .ref q16, .ref q17, .ref q18, .ref q19, .int 0, .int 0])), (q1, .inl (k0, 24, .inl (fun _ => 0))), (q10, .inl (k1, 24, .inl (fun _ => 0))), (q20, .inl (k2, 15360, .inl (fun _ => 0)))] := hD
  have hK : va_K (dC, dI) vwCl [(k0, .boolean), (k1, .boolean), (k2, .int)] s := hK
  refine W.widen (k := 1) (n := 15360) (Nat.le_of_ble_eq_true rfl) (Nat.le_of_ble_eq_true rfl) ?_
  refine lv_astore_n (lv' := [(1, .ref q20), (0, .ref q0)]) hx hb dX13_write_10 rfl hl (by decide) rfl (fun ls hl => ?_)
  refine lv_iconst (v := 0) hx hb dX13_write_11 (by decide +kernel) ?_
  refine lv_istore_n (lv' := [(2, .int 0), (1, .ref q20), (0, .ref q0)]) hx hb dX13_write_12 rfl hl (by decide) rfl (fun ls hl => ?_)
  refine lv_iconst (v := 0) hx hb dX13_write_13 (by decide +kernel) ?_
  refine lv_istore_n (lv' := [(3, .int 0), (2, .int 0), (1, .ref q20), (0, .ref q0)]) hx hb dX13_write_14 rfl hl (by decide) rfl (fun ls hl => ?_)
  refine lv_iload_n hx hb dX13_write_15 rfl (lv_at hl 0 rfl) ?_
  refine lv_bipush (v := 24) hx hb dX13_write_16 (by decide +kernel) ?_
  refine lv_icmp_ge (tgt := 154) hx hb dX13_write_18 (by decide) (fun h9 => absurd h9 (show ¬ (24 : Int32) ≤ (0 : Int32) by decide +kernel)) (fun _ => ?_)
  refine lv_aload_n hx hb dX13_write_21 rfl (lv_at hl 3 rfl) ?_
  refine va_get (D := (dC, dI)) (ci := 15) (v := .ref q10) (C := RX13) (T := TX13) (N := 27) hx hb hts (fun _ h => List.mem_cons_of_mem _ (List.mem_append_left _ (List.mem_append_right _ h))) hown hK hP 0 rfl rfl 14 (by decide) (hts (.fieldLink RX13 49 "SeekwellModel" "wasThere" "[Z") (by decide +kernel)) (fun _ h9 => h9) rfl dX13_write_22 ?_
  refine lv_iload_n hx hb dX13_write_25 rfl (lv_at hl 0 rfl) ?_
  refine lv_aload_n hx hb dX13_write_26 rfl (lv_at hl 3 rfl) ?_
  refine va_get (D := (dC, dI)) (ci := 15) (v := .ref q1) (C := RX13) (T := TX13) (N := 27) hx hb hts (fun _ h => List.mem_cons_of_mem _ (List.mem_append_left _ (List.mem_append_right _ h))) hown hK hP 0 rfl rfl 0 (by decide) (hts (.fieldLink RX13 9 "SeekwellModel" "isThere" "[Z") (by decide +kernel)) (fun _ h9 => h9) rfl dX13_write_27 ?_
  refine lv_iload_n hx hb dX13_write_30 rfl (lv_at hl 0 rfl) ?_
  refine va_zald (D := (dC, dI)) hx hb hK hP 1 0 rfl rfl (i := 0) (zin (by decide +kernel)) dX13_write_31 ?_
  refine zt_v (w := .int 0) rfl ?_
  refine va_zast (D := (dC, dI)) hx hb hK hP hD hS 2 1 rfl rfl (i := 0) (x := 0) (zin (by decide +kernel)) dX13_write_32 (fun H locs hP hD hS => ?_)
  have hP : va_P (dC, dI) vwCl [(q0, .inr (15, [.ref q1, .ref q2, .ref q3, .ref q4, .ref q5, .ref q6, .int 0, .int 1, .ref q7, .int 0, .ref q8, .null, .ref q9, .null, .ref q10, .ref q11, .ref q12, .ref q13, .ref q14, .int 0, .ref q15, .ref q16, .ref q17, .ref q18, .ref q19, .int 0, .int 0])), (q1, .inl (k0, 24, .inl (fun _ => 0))), (q10, .inl (k1, 24, .inl (upd (fun _ => 0) (0 : Int32).toNatClampNeg (vp_nar .boolean 0)))), (q20, .inl (k2, 15360, .inl (fun _ => 0)))] H := hP
  have hD : va_D A [(q0, .inr (15, [.ref q1, .ref q2, .ref q3, .ref q4, .ref q5, .ref q6, .int 0, .int 1, .ref q7, .int 0, .ref q8, .null, .ref q9, .null, .ref q10, .ref q11, .ref q12, .ref q13, .ref q14, .int 0, .ref q15, .ref q16, .ref q17, .ref q18, .ref q19, .int 0, .int 0])), (q1, .inl (k0, 24, .inl (fun _ => 0))), (q10, .inl (k1, 24, .inl (upd (fun _ => 0) (0 : Int32).toNatClampNeg (vp_nar .boolean 0)))), (q20, .inl (k2, 15360, .inl (fun _ => 0)))] := hD
  refine lv_aload_n hx hb dX13_write_33 rfl (lv_at hl 3 rfl) ?_
  refine va_get (D := (dC, dI)) (ci := 15) (v := .ref q1) (C := RX13) (T := TX13) (N := 27) hx hb hts (fun _ h => List.mem_cons_of_mem _ (List.mem_append_left _ (List.mem_append_right _ h))) hown hK hP 0 rfl rfl 0 (by decide) (hts (.fieldLink RX13 9 "SeekwellModel" "isThere" "[Z") (by decide +kernel)) (fun _ h9 => h9) rfl dX13_write_34 ?_
  refine lv_iload_n hx hb dX13_write_37 rfl (lv_at hl 0 rfl) ?_
  refine va_zald (D := (dC, dI)) hx hb hK hP 1 0 rfl rfl (i := 0) (zin (by decide +kernel)) dX13_write_38 ?_
  refine zt_v (w := .int 0) rfl ?_
  refine lv_if_eq (tgt := 148) hx hb dX13_write_39 (by decide) (fun _ => ?_) (fun h9 => absurd (show (0 : Int32) = (0 : Int32) by decide +kernel) h9)
  refine lv_iinc (v := 1) (lv' := [(3, .int 1), (2, .int 0), (1, .ref q20), (0, .ref q0)]) hx hb dX13_write_148 hl (k := 0) rfl (by decide +kernel) (by decide) rfl (fun ls hl => ?_)
  refine lv_goto (tgt := 15) hx hb dX13_write_151 (by decide) ?_
  refine lv_iload_n hx hb dX13_write_15 rfl (lv_at hl 0 rfl) ?_
  refine lv_bipush (v := 24) hx hb dX13_write_16 (by decide +kernel) ?_
  refine lv_icmp_ge (tgt := 154) hx hb dX13_write_18 (by decide) (fun h9 => absurd h9 (show ¬ (24 : Int32) ≤ (1 : Int32) by decide +kernel)) (fun _ => ?_)
  refine lv_aload_n hx hb dX13_write_21 rfl (lv_at hl 3 rfl) ?_
  refine va_get (D := (dC, dI)) (ci := 15) (v := .ref q10) (C := RX13) (T := TX13) (N := 27) hx hb hts (fun _ h => List.mem_cons_of_mem _ (List.mem_append_left _ (List.mem_append_right _ h))) hown hK hP 0 rfl rfl 14 (by decide) (hts (.fieldLink RX13 49 "SeekwellModel" "wasThere" "[Z") (by decide +kernel)) (fun _ h9 => h9) rfl dX13_write_22 ?_
  refine lv_iload_n hx hb dX13_write_25 rfl (lv_at hl 0 rfl) ?_
  refine lv_aload_n hx hb dX13_write_26 rfl (lv_at hl 3 rfl) ?_
  refine va_get (D := (dC, dI)) (ci := 15) (v := .ref q1) (C := RX13) (T := TX13) (N := 27) hx hb hts (fun _ h => List.mem_cons_of_mem _ (List.mem_append_left _ (List.mem_append_right _ h))) hown hK hP 0 rfl rfl 0 (by decide) (hts (.fieldLink RX13 9 "SeekwellModel" "isThere" "[Z") (by decide +kernel)) (fun _ h9 => h9) rfl dX13_write_27 ?_
  refine lv_iload_n hx hb dX13_write_30 rfl (lv_at hl 0 rfl) ?_
  refine va_zald (D := (dC, dI)) hx hb hK hP 1 0 rfl rfl (i := 1) (zin (by decide +kernel)) dX13_write_31 ?_
  refine zt_v (w := .int 0) rfl ?_
  refine va_zast (D := (dC, dI)) hx hb hK hP hD hS 2 1 rfl rfl (i := 1) (x := 0) (zin (by decide +kernel)) dX13_write_32 (fun H locs hP hD hS => ?_)
  have hP : va_P (dC, dI) vwCl [(q0, .inr (15, [.ref q1, .ref q2, .ref q3, .ref q4, .ref q5, .ref q6, .int 0, .int 1, .ref q7, .int 0, .ref q8, .null, .ref q9, .null, .ref q10, .ref q11, .ref q12, .ref q13, .ref q14, .int 0, .ref q15, .ref q16, .ref q17, .ref q18, .ref q19, .int 0, .int 0])), (q1, .inl (k0, 24, .inl (fun _ => 0))), (q10, .inl (k1, 24, .inl (upd (upd (fun _ => 0) (0 : Int32).toNatClampNeg (vp_nar .boolean 0)) (1 : Int32).toNatClampNeg (vp_nar .boolean 0)))), (q20, .inl (k2, 15360, .inl (fun _ => 0)))] H := hP
  have hD : va_D A [(q0, .inr (15, [.ref q1, .ref q2, .ref q3, .ref q4, .ref q5, .ref q6, .int 0, .int 1, .ref q7, .int 0, .ref q8, .null, .ref q9, .null, .ref q10, .ref q11, .ref q12, .ref q13, .ref q14, .int 0, .ref q15, .ref q16, .ref q17, .ref q18, .ref q19, .int 0, .int 0])), (q1, .inl (k0, 24, .inl (fun _ => 0))), (q10, .inl (k1, 24, .inl (upd (upd (fun _ => 0) (0 : Int32).toNatClampNeg (vp_nar .boolean 0)) (1 : Int32).toNatClampNeg (vp_nar .boolean 0)))), (q20, .inl (k2, 15360, .inl (fun _ => 0)))] := hD
  refine lv_aload_n hx hb dX13_write_33 rfl (lv_at hl 3 rfl) ?_
  refine va_get (D := (dC, dI)) (ci := 15) (v := .ref q1) (C := RX13) (T := TX13) (N := 27) hx hb hts (fun _ h => List.mem_cons_of_mem _ (List.mem_append_left _ (List.mem_append_right _ h))) hown hK hP 0 rfl rfl 0 (by decide) (hts (.fieldLink RX13 9 "SeekwellModel" "isThere" "[Z") (by decide +kernel)) (fun _ h9 => h9) rfl dX13_write_34 ?_
  refine lv_iload_n hx hb dX13_write_37 rfl (lv_at hl 0 rfl) ?_
  refine va_zald (D := (dC, dI)) hx hb hK hP 1 0 rfl rfl (i := 1) (zin (by decide +kernel)) dX13_write_38 ?_
  refine zt_v (w := .int 0) rfl ?_
  refine lv_if_eq (tgt := 148) hx hb dX13_write_39 (by decide) (fun _ => ?_) (fun h9 => absurd (show (0 : Int32) = (0 : Int32) by decide +kernel) h9)
  refine lv_iinc (v := 2) (lv' := [(3, .int 2), (2, .int 0), (1, .ref q20), (0, .ref q0)]) hx hb dX13_write_148 hl (k := 0) rfl (by decide +kernel) (by decide) rfl (fun ls hl => ?_)
  refine lv_goto (tgt := 15) hx hb dX13_write_151 (by decide) ?_
  refine lv_iload_n hx hb dX13_write_15 rfl (lv_at hl 0 rfl) ?_
  refine lv_bipush (v := 24) hx hb dX13_write_16 (by decide +kernel) ?_
  refine lv_icmp_ge (tgt := 154) hx hb dX13_write_18 (by decide) (fun h9 => absurd h9 (show ¬ (24 : Int32) ≤ (2 : Int32) by decide +kernel)) (fun _ => ?_)
  refine lv_aload_n hx hb dX13_write_21 rfl (lv_at hl 3 rfl) ?_
  refine va_get (D := (dC, dI)) (ci := 15) (v := .ref q10) (C := RX13) (T := TX13) (N := 27) hx hb hts (fun _ h => List.mem_cons_of_mem _ (List.mem_append_left _ (List.mem_append_right _ h))) hown hK hP 0 rfl rfl 14 (by decide) (hts (.fieldLink RX13 49 "SeekwellModel" "wasThere" "[Z") (by decide +kernel)) (fun _ h9 => h9) rfl dX13_write_22 ?_
  refine lv_iload_n hx hb dX13_write_25 rfl (lv_at hl 0 rfl) ?_
  refine lv_aload_n hx hb dX13_write_26 rfl (lv_at hl 3 rfl) ?_
  refine va_get (D := (dC, dI)) (ci := 15) (v := .ref q1) (C := RX13) (T := TX13) (N := 27) hx hb hts (fun _ h => List.mem_cons_of_mem _ (List.mem_append_left _ (List.mem_append_right _ h))) hown hK hP 0 rfl rfl 0 (by decide) (hts (.fieldLink RX13 9 "SeekwellModel" "isThere" "[Z") (by decide +kernel)) (fun _ h9 => h9) rfl dX13_write_27 ?_
  refine lv_iload_n hx hb dX13_write_30 rfl (lv_at hl 0 rfl) ?_
  refine va_zald (D := (dC, dI)) hx hb hK hP 1 0 rfl rfl (i := 2) (zin (by decide +kernel)) dX13_write_31 ?_
  refine zt_v (w := .int 0) rfl ?_
  refine va_zast (D := (dC, dI)) hx hb hK hP hD hS 2 1 rfl rfl (i := 2) (x := 0) (zin (by decide +kernel)) dX13_write_32 (fun H locs hP hD hS => ?_)
  have hP : va_P (dC, dI) vwCl [(q0, .inr (15, [.ref q1, .ref q2, .ref q3, .ref q4, .ref q5, .ref q6, .int 0, .int 1, .ref q7, .int 0, .ref q8, .null, .ref q9, .null, .ref q10, .ref q11, .ref q12, .ref q13, .ref q14, .int 0, .ref q15, .ref q16, .ref q17, .ref q18, .ref q19, .int 0, .int 0])), (q1, .inl (k0, 24, .inl (fun _ => 0))), (q10, .inl (k1, 24, .inl (upd (upd (upd (fun _ => 0) (0 : Int32).toNatClampNeg (vp_nar .boolean 0)) (1 : Int32).toNatClampNeg (vp_nar .boolean 0)) (2 : Int32).toNatClampNeg (vp_nar .boolean 0)))), (q20, .inl (k2, 15360, .inl (fun _ => 0)))] H := hP
  have hD : va_D A [(q0, .inr (15, [.ref q1, .ref q2, .ref q3, .ref q4, .ref q5, .ref q6, .int 0, .int 1, .ref q7, .int 0, .ref q8, .null, .ref q9, .null, .ref q10, .ref q11, .ref q12, .ref q13, .ref q14, .int 0, .ref q15, .ref q16, .ref q17, .ref q18, .ref q19, .int 0, .int 0])), (q1, .inl (k0, 24, .inl (fun _ => 0))), (q10, .inl (k1, 24, .inl (upd (upd (upd (fun _ => 0) (0 : Int32).toNatClampNeg (vp_nar .boolean 0)) (1 : Int32).toNatClampNeg (vp_nar .boolean 0)) (2 : Int32).toNatClampNeg (vp_nar .boolean 0)))), (q20, .inl (k2, 15360, .inl (fun _ => 0)))] := hD
  refine lv_aload_n hx hb dX13_write_33 rfl (lv_at hl 3 rfl) ?_
  refine va_get (D := (dC, dI)) (ci := 15) (v := .ref q1) (C := RX13) (T := TX13) (N := 27) hx hb hts (fun _ h => List.mem_cons_of_mem _ (List.mem_append_left _ (List.mem_append_right _ h))) hown hK hP 0 rfl rfl 0 (by decide) (hts (.fieldLink RX13 9 "SeekwellModel" "isThere" "[Z") (by decide +kernel)) (fun _ h9 => h9) rfl dX13_write_34 ?_
  refine lv_iload_n hx hb dX13_write_37 rfl (lv_at hl 0 rfl) ?_
  refine va_zald (D := (dC, dI)) hx hb hK hP 1 0 rfl rfl (i := 2) (zin (by decide +kernel)) dX13_write_38 ?_
  refine zt_v (w := .int 0) rfl ?_
  refine lv_if_eq (tgt := 148) hx hb dX13_write_39 (by decide) (fun _ => ?_) (fun h9 => absurd (show (0 : Int32) = (0 : Int32) by decide +kernel) h9)
  refine lv_iinc (v := 3) (lv' := [(3, .int 3), (2, .int 0), (1, .ref q20), (0, .ref q0)]) hx hb dX13_write_148 hl (k := 0) rfl (by decide +kernel) (by decide) rfl (fun ls hl => ?_)
  refine lv_goto (tgt := 15) hx hb dX13_write_151 (by decide) ?_
  refine lv_iload_n hx hb dX13_write_15 rfl (lv_at hl 0 rfl) ?_
  refine lv_bipush (v := 24) hx hb dX13_write_16 (by decide +kernel) ?_
  refine lv_icmp_ge (tgt := 154) hx hb dX13_write_18 (by decide) (fun h9 => absurd h9 (show ¬ (24 : Int32) ≤ (3 : Int32) by decide +kernel)) (fun _ => ?_)
  refine lv_aload_n hx hb dX13_write_21 rfl (lv_at hl 3 rfl) ?_
  refine va_get (D := (dC, dI)) (ci := 15) (v := .ref q10) (C := RX13) (T := TX13) (N := 27) hx hb hts (fun _ h => List.mem_cons_of_mem _ (List.mem_append_left _ (List.mem_append_right _ h))) hown hK hP 0 rfl rfl 14 (by decide) (hts (.fieldLink RX13 49 "SeekwellModel" "wasThere" "[Z") (by decide +kernel)) (fun _ h9 => h9) rfl dX13_write_22 ?_
  refine lv_iload_n hx hb dX13_write_25 rfl (lv_at hl 0 rfl) ?_
  refine lv_aload_n hx hb dX13_write_26 rfl (lv_at hl 3 rfl) ?_
  refine va_get (D := (dC, dI)) (ci := 15) (v := .ref q1) (C := RX13) (T := TX13) (N := 27) hx hb hts (fun _ h => List.mem_cons_of_mem _ (List.mem_append_left _ (List.mem_append_right _ h))) hown hK hP 0 rfl rfl 0 (by decide) (hts (.fieldLink RX13 9 "SeekwellModel" "isThere" "[Z") (by decide +kernel)) (fun _ h9 => h9) rfl dX13_write_27 ?_
  refine lv_iload_n hx hb dX13_write_30 rfl (lv_at hl 0 rfl) ?_
  refine va_zald (D := (dC, dI)) hx hb hK hP 1 0 rfl rfl (i := 3) (zin (by decide +kernel)) dX13_write_31 ?_
  refine zt_v (w := .int 0) rfl ?_
  refine va_zast (D := (dC, dI)) hx hb hK hP hD hS 2 1 rfl rfl (i := 3) (x := 0) (zin (by decide +kernel)) dX13_write_32 (fun H locs hP hD hS => ?_)
  have hP : va_P (dC, dI) vwCl [(q0, .inr (15, [.ref q1, .ref q2, .ref q3, .ref q4, .ref q5, .ref q6, .int 0, .int 1, .ref q7, .int 0, .ref q8, .null, .ref q9, .null, .ref q10, .ref q11, .ref q12, .ref q13, .ref q14, .int 0, .ref q15, .ref q16, .ref q17, .ref q18, .ref q19, .int 0, .int 0])), (q1, .inl (k0, 24, .inl (fun _ => 0))), (q10, .inl (k1, 24, .inl (upd (upd (upd (upd (fun _ => 0) (0 : Int32).toNatClampNeg (vp_nar .boolean 0)) (1 : Int32).toNatClampNeg (vp_nar .boolean 0)) (2 : Int32).toNatClampNeg (vp_nar .boolean 0)) (3 : Int32).toNatClampNeg (vp_nar .boolean 0)))), (q20, .inl (k2, 15360, .inl (fun _ => 0)))] H := hP
  have hD : va_D A [(q0, .inr (15, [.ref q1, .ref q2, .ref q3, .ref q4, .ref q5, .ref q6, .int 0, .int 1, .ref q7, .int 0, .ref q8, .null, .ref q9, .null, .ref q10, .ref q11, .ref q12, .ref q13, .ref q14, .int 0, .ref q15, .ref q16, .ref q17, .ref q18, .ref q19, .int 0, .int 0])), (q1, .inl (k0, 24, .inl (fun _ => 0))), (q10, .inl (k1, 24, .inl (upd (upd (upd (upd (fun _ => 0) (0 : Int32).toNatClampNeg (vp_nar .boolean 0)) (1 : Int32).toNatClampNeg (vp_nar .boolean 0)) (2 : Int32).toNatClampNeg (vp_nar .boolean 0)) (3 : Int32).toNatClampNeg (vp_nar .boolean 0)))), (q20, .inl (k2, 15360, .inl (fun _ => 0)))] := hD
  refine lv_aload_n hx hb dX13_write_33 rfl (lv_at hl 3 rfl) ?_
  refine va_get (D := (dC, dI)) (ci := 15) (v := .ref q1) (C := RX13) (T := TX13) (N := 27) hx hb hts (fun _ h => List.mem_cons_of_mem _ (List.mem_append_left _ (List.mem_append_right _ h))) hown hK hP 0 rfl rfl 0 (by decide) (hts (.fieldLink RX13 9 "SeekwellModel" "isThere" "[Z") (by decide +kernel)) (fun _ h9 => h9) rfl dX13_write_34 ?_
  refine lv_iload_n hx hb dX13_write_37 rfl (lv_at hl 0 rfl) ?_
  refine va_zald (D := (dC, dI)) hx hb hK hP 1 0 rfl rfl (i := 3) (zin (by decide +kernel)) dX13_write_38 ?_
  refine zt_v (w := .int 0) rfl ?_
  refine lv_if_eq (tgt := 148) hx hb dX13_write_39 (by decide) (fun _ => ?_) (fun h9 => absurd (show (0 : Int32) = (0 : Int32) by decide +kernel) h9)
  refine lv_iinc (v := 4) (lv' := [(3, .int 4), (2, .int 0), (1, .ref q20), (0, .ref q0)]) hx hb dX13_write_148 hl (k := 0) rfl (by decide +kernel) (by decide) rfl (fun ls hl => ?_)
  refine lv_goto (tgt := 15) hx hb dX13_write_151 (by decide) ?_
  refine lv_iload_n hx hb dX13_write_15 rfl (lv_at hl 0 rfl) ?_
  refine lv_bipush (v := 24) hx hb dX13_write_16 (by decide +kernel) ?_
  refine lv_icmp_ge (tgt := 154) hx hb dX13_write_18 (by decide) (fun h9 => absurd h9 (show ¬ (24 : Int32) ≤ (4 : Int32) by decide +kernel)) (fun _ => ?_)
  refine lv_aload_n hx hb dX13_write_21 rfl (lv_at hl 3 rfl) ?_
  refine va_get (D := (dC, dI)) (ci := 15) (v := .ref q10) (C := RX13) (T := TX13) (N := 27) hx hb hts (fun _ h => List.mem_cons_of_mem _ (List.mem_append_left _ (List.mem_append_right _ h))) hown hK hP 0 rfl rfl 14 (by decide) (hts (.fieldLink RX13 49 "SeekwellModel" "wasThere" "[Z") (by decide +kernel)) (fun _ h9 => h9) rfl dX13_write_22 ?_
  refine lv_iload_n hx hb dX13_write_25 rfl (lv_at hl 0 rfl) ?_
  refine lv_aload_n hx hb dX13_write_26 rfl (lv_at hl 3 rfl) ?_
  refine va_get (D := (dC, dI)) (ci := 15) (v := .ref q1) (C := RX13) (T := TX13) (N := 27) hx hb hts (fun _ h => List.mem_cons_of_mem _ (List.mem_append_left _ (List.mem_append_right _ h))) hown hK hP 0 rfl rfl 0 (by decide) (hts (.fieldLink RX13 9 "SeekwellModel" "isThere" "[Z") (by decide +kernel)) (fun _ h9 => h9) rfl dX13_write_27 ?_
  refine lv_iload_n hx hb dX13_write_30 rfl (lv_at hl 0 rfl) ?_
  refine va_zald (D := (dC, dI)) hx hb hK hP 1 0 rfl rfl (i := 4) (zin (by decide +kernel)) dX13_write_31 ?_
  refine zt_v (w := .int 0) rfl ?_
  refine va_zast (D := (dC, dI)) hx hb hK hP hD hS 2 1 rfl rfl (i := 4) (x := 0) (zin (by decide +kernel)) dX13_write_32 (fun H locs hP hD hS => ?_)
  have hP : va_P (dC, dI) vwCl [(q0, .inr (15, [.ref q1, .ref q2, .ref q3, .ref q4, .ref q5, .ref q6, .int 0, .int 1, .ref q7, .int 0, .ref q8, .null, .ref q9, .null, .ref q10, .ref q11, .ref q12, .ref q13, .ref q14, .int 0, .ref q15, .ref q16, .ref q17, .ref q18, .ref q19, .int 0, .int 0])), (q1, .inl (k0, 24, .inl (fun _ => 0))), (q10, .inl (k1, 24, .inl (upd (upd (upd (upd (upd (fun _ => 0) (0 : Int32).toNatClampNeg (vp_nar .boolean 0)) (1 : Int32).toNatClampNeg (vp_nar .boolean 0)) (2 : Int32).toNatClampNeg (vp_nar .boolean 0)) (3 : Int32).toNatClampNeg (vp_nar .boolean 0)) (4 : Int32).toNatClampNeg (vp_nar .boolean 0)))), (q20, .inl (k2, 15360, .inl (fun _ => 0)))] H := hP
  have hD : va_D A [(q0, .inr (15, [.ref q1, .ref q2, .ref q3, .ref q4, .ref q5, .ref q6, .int 0, .int 1, .ref q7, .int 0, .ref q8, .null, .ref q9, .null, .ref q10, .ref q11, .ref q12, .ref q13, .ref q14, .int 0, .ref q15, .ref q16, .ref q17, .ref q18, .ref q19, .int 0, .int 0])), (q1, .inl (k0, 24, .inl (fun _ => 0))), (q10, .inl (k1, 24, .inl (upd (upd (upd (upd (upd (fun _ => 0) (0 : Int32).toNatClampNeg (vp_nar .boolean 0)) (1 : Int32).toNatClampNeg (vp_nar .boolean 0)) (2 : Int32).toNatClampNeg (vp_nar .boolean 0)) (3 : Int32).toNatClampNeg (vp_nar .boolean 0)) (4 : Int32).toNatClampNeg (vp_nar .boolean 0)))), (q20, .inl (k2, 15360, .inl (fun _ => 0)))] := hD
  refine lv_aload_n hx hb dX13_write_33 rfl (lv_at hl 3 rfl) ?_
  refine va_get (D := (dC, dI)) (ci := 15) (v := .ref q1) (C := RX13) (T := TX13) (N := 27) hx hb hts (fun _ h => List.mem_cons_of_mem _ (List.mem_append_left _ (List.mem_append_right _ h))) hown hK hP 0 rfl rfl 0 (by decide) (hts (.fieldLink RX13 9 "SeekwellModel" "isThere" "[Z") (by decide +kernel)) (fun _ h9 => h9) rfl dX13_write_34 ?_
  refine lv_iload_n hx hb dX13_write_37 rfl (lv_at hl 0 rfl) ?_
  refine va_zald (D := (dC, dI)) hx hb hK hP 1 0 rfl rfl (i := 4) (zin (by decide +kernel)) dX13_write_38 ?_
  refine zt_v (w := .int 0) rfl ?_
  refine lv_if_eq (tgt := 148) hx hb dX13_write_39 (by decide) (fun _ => ?_) (fun h9 => absurd (show (0 : Int32) = (0 : Int32) by decide +kernel) h9)
  refine lv_iinc (v := 5) (lv' := [(3, .int 5), (2, .int 0), (1, .ref q20), (0, .ref q0)]) hx hb dX13_write_148 hl (k := 0) rfl (by decide +kernel) (by decide) rfl (fun ls hl => ?_)
  refine lv_goto (tgt := 15) hx hb dX13_write_151 (by decide) ?_
  refine lv_iload_n hx hb dX13_write_15 rfl (lv_at hl 0 rfl) ?_
  refine lv_bipush (v := 24) hx hb dX13_write_16 (by decide +kernel) ?_
  refine lv_icmp_ge (tgt := 154) hx hb dX13_write_18 (by decide) (fun h9 => absurd h9 (show ¬ (24 : Int32) ≤ (5 : Int32) by decide +kernel)) (fun _ => ?_)
  refine lv_aload_n hx hb dX13_write_21 rfl (lv_at hl 3 rfl) ?_
  refine va_get (D := (dC, dI)) (ci := 15) (v := .ref q10) (C := RX13) (T := TX13) (N := 27) hx hb hts (fun _ h => List.mem_cons_of_mem _ (List.mem_append_left _ (List.mem_append_right _ h))) hown hK hP 0 rfl rfl 14 (by decide) (hts (.fieldLink RX13 49 "SeekwellModel" "wasThere" "[Z") (by decide +kernel)) (fun _ h9 => h9) rfl dX13_write_22 ?_
  refine lv_iload_n hx hb dX13_write_25 rfl (lv_at hl 0 rfl) ?_
  refine lv_aload_n hx hb dX13_write_26 rfl (lv_at hl 3 rfl) ?_
  refine va_get (D := (dC, dI)) (ci := 15) (v := .ref q1) (C := RX13) (T := TX13) (N := 27) hx hb hts (fun _ h => List.mem_cons_of_mem _ (List.mem_append_left _ (List.mem_append_right _ h))) hown hK hP 0 rfl rfl 0 (by decide) (hts (.fieldLink RX13 9 "SeekwellModel" "isThere" "[Z") (by decide +kernel)) (fun _ h9 => h9) rfl dX13_write_27 ?_
  refine lv_iload_n hx hb dX13_write_30 rfl (lv_at hl 0 rfl) ?_
  refine va_zald (D := (dC, dI)) hx hb hK hP 1 0 rfl rfl (i := 5) (zin (by decide +kernel)) dX13_write_31 ?_
  refine zt_v (w := .int 0) rfl ?_
  refine va_zast (D := (dC, dI)) hx hb hK hP hD hS 2 1 rfl rfl (i := 5) (x := 0) (zin (by decide +kernel)) dX13_write_32 (fun H locs hP hD hS => ?_)
  have hP : va_P (dC, dI) vwCl [(q0, .inr (15, [.ref q1, .ref q2, .ref q3, .ref q4, .ref q5, .ref q6, .int 0, .int 1, .ref q7, .int 0, .ref q8, .null, .ref q9, .null, .ref q10, .ref q11, .ref q12, .ref q13, .ref q14, .int 0, .ref q15, .ref q16, .ref q17, .ref q18, .ref q19, .int 0, .int 0])), (q1, .inl (k0, 24, .inl (fun _ => 0))), (q10, .inl (k1, 24, .inl (upd (upd (upd (upd (upd (upd (fun _ => 0) (0 : Int32).toNatClampNeg (vp_nar .boolean 0)) (1 : Int32).toNatClampNeg (vp_nar .boolean 0)) (2 : Int32).toNatClampNeg (vp_nar .boolean 0)) (3 : Int32).toNatClampNeg (vp_nar .boolean 0)) (4 : Int32).toNatClampNeg (vp_nar .boolean 0)) (5 : Int32).toNatClampNeg (vp_nar .boolean 0)))), (q20, .inl (k2, 15360, .inl (fun _ => 0)))] H := hP
  have hD : va_D A [(q0, .inr (15, [.ref q1, .ref q2, .ref q3, .ref q4, .ref q5, .ref q6, .int 0, .int 1, .ref q7, .int 0, .ref q8, .null, .ref q9, .null, .ref q10, .ref q11, .ref q12, .ref q13, .ref q14, .int 0, .ref q15, .ref q16, .ref q17, .ref q18, .ref q19, .int 0, .int 0])), (q1, .inl (k0, 24, .inl (fun _ => 0))), (q10, .inl (k1, 24, .inl (upd (upd (upd (upd (upd (upd (fun _ => 0) (0 : Int32).toNatClampNeg (vp_nar .boolean 0)) (1 : Int32).toNatClampNeg (vp_nar .boolean 0)) (2 : Int32).toNatClampNeg (vp_nar .boolean 0)) (3 : Int32).toNatClampNeg (vp_nar .boolean 0)) (4 : Int32).toNatClampNeg (vp_nar .boolean 0)) (5 : Int32).toNatClampNeg (vp_nar .boolean 0)))), (q20, .inl (k2, 15360, .inl (fun _ => 0)))] := hD
  refine lv_aload_n hx hb dX13_write_33 rfl (lv_at hl 3 rfl) ?_
  refine va_get (D := (dC, dI)) (ci := 15) (v := .ref q1) (C := RX13) (T := TX13) (N := 27) hx hb hts (fun _ h => List.mem_cons_of_mem _ (List.mem_append_left _ (List.mem_append_right _ h))) hown hK hP 0 rfl rfl 0 (by decide) (hts (.fieldLink RX13 9 "SeekwellModel" "isThere" "[Z") (by decide +kernel)) (fun _ h9 => h9) rfl dX13_write_34 ?_
  refine lv_iload_n hx hb dX13_write_37 rfl (lv_at hl 0 rfl) ?_
  refine va_zald (D := (dC, dI)) hx hb hK hP 1 0 rfl rfl (i := 5) (zin (by decide +kernel)) dX13_write_38 ?_
  refine zt_v (w := .int 0) rfl ?_
  refine lv_if_eq (tgt := 148) hx hb dX13_write_39 (by decide) (fun _ => ?_) (fun h9 => absurd (show (0 : Int32) = (0 : Int32) by decide +kernel) h9)
  refine lv_iinc (v := 6) (lv' := [(3, .int 6), (2, .int 0), (1, .ref q20), (0, .ref q0)]) hx hb dX13_write_148 hl (k := 0) rfl (by decide +kernel) (by decide) rfl (fun ls hl => ?_)
  refine lv_goto (tgt := 15) hx hb dX13_write_151 (by decide) ?_
  refine lv_iload_n hx hb dX13_write_15 rfl (lv_at hl 0 rfl) ?_
  refine lv_bipush (v := 24) hx hb dX13_write_16 (by decide +kernel) ?_
  refine lv_icmp_ge (tgt := 154) hx hb dX13_write_18 (by decide) (fun h9 => absurd h9 (show ¬ (24 : Int32) ≤ (6 : Int32) by decide +kernel)) (fun _ => ?_)
  refine lv_aload_n hx hb dX13_write_21 rfl (lv_at hl 3 rfl) ?_
  refine va_get (D := (dC, dI)) (ci := 15) (v := .ref q10) (C := RX13) (T := TX13) (N := 27) hx hb hts (fun _ h => List.mem_cons_of_mem _ (List.mem_append_left _ (List.mem_append_right _ h))) hown hK hP 0 rfl rfl 14 (by decide) (hts (.fieldLink RX13 49 "SeekwellModel" "wasThere" "[Z") (by decide +kernel)) (fun _ h9 => h9) rfl dX13_write_22 ?_
  refine lv_iload_n hx hb dX13_write_25 rfl (lv_at hl 0 rfl) ?_
  refine lv_aload_n hx hb dX13_write_26 rfl (lv_at hl 3 rfl) ?_
  refine va_get (D := (dC, dI)) (ci := 15) (v := .ref q1) (C := RX13) (T := TX13) (N := 27) hx hb hts (fun _ h => List.mem_cons_of_mem _ (List.mem_append_left _ (List.mem_append_right _ h))) hown hK hP 0 rfl rfl 0 (by decide) (hts (.fieldLink RX13 9 "SeekwellModel" "isThere" "[Z") (by decide +kernel)) (fun _ h9 => h9) rfl dX13_write_27 ?_
  refine lv_iload_n hx hb dX13_write_30 rfl (lv_at hl 0 rfl) ?_
  refine va_zald (D := (dC, dI)) hx hb hK hP 1 0 rfl rfl (i := 6) (zin (by decide +kernel)) dX13_write_31 ?_
  refine zt_v (w := .int 0) rfl ?_
  refine va_zast (D := (dC, dI)) hx hb hK hP hD hS 2 1 rfl rfl (i := 6) (x := 0) (zin (by decide +kernel)) dX13_write_32 (fun H locs hP hD hS => ?_)
  have hP : va_P (dC, dI) vwCl [(q0, .inr (15, [.ref q1, .ref q2, .ref q3, .ref q4, .ref q5, .ref q6, .int 0, .int 1, .ref q7, .int 0, .ref q8, .null, .ref q9, .null, .ref q10, .ref q11, .ref q12, .ref q13, .ref q14, .int 0, .ref q15, .ref q16, .ref q17, .ref q18, .ref q19, .int 0, .int 0])), (q1, .inl (k0, 24, .inl (fun _ => 0))), (q10, .inl (k1, 24, .inl (upd (upd (upd (upd (upd (upd (upd (fun _ => 0) (0 : Int32).toNatClampNeg (vp_nar .boolean 0)) (1 : Int32).toNatClampNeg (vp_nar .boolean 0)) (2 : Int32).toNatClampNeg (vp_nar .boolean 0)) (3 : Int32).toNatClampNeg (vp_nar .boolean 0)) (4 : Int32).toNatClampNeg (vp_nar .boolean 0)) (5 : Int32).toNatClampNeg (vp_nar .boolean 0)) (6 : Int32).toNatClampNeg (vp_nar .boolean 0)))), (q20, .inl (k2, 15360, .inl (fun _ => 0)))] H := hP
  have hD : va_D A [(q0, .inr (15, [.ref q1, .ref q2, .ref q3, .ref q4, .ref q5, .ref q6, .int 0, .int 1, .ref q7, .int 0, .ref q8, .null, .ref q9, .null, .ref q10, .ref q11, .ref q12, .ref q13, .ref q14, .int 0, .ref q15, .ref q16, .ref q17, .ref q18, .ref q19, .int 0, .int 0])), (q1, .inl (k0, 24, .inl (fun _ => 0))), (q10, .inl (k1, 24, .inl (upd (upd (upd (upd (upd (upd (upd (fun _ => 0) (0 : Int32).toNatClampNeg (vp_nar .boolean 0)) (1 : Int32).toNatClampNeg (vp_nar .boolean 0)) (2 : Int32).toNatClampNeg (vp_nar .boolean 0)) (3 : Int32).toNatClampNeg (vp_nar .boolean 0)) (4 : Int32).toNatClampNeg (vp_nar .boolean 0)) (5 : Int32).toNatClampNeg (vp_nar .boolean 0)) (6 : Int32).toNatClampNeg (vp_nar .boolean 0)))), (q20, .inl (k2, 15360, .inl (fun _ => 0)))] := hD
  refine lv_aload_n hx hb dX13_write_33 rfl (lv_at hl 3 rfl) ?_
  refine va_get (D := (dC, dI)) (ci := 15) (v := .ref q1) (C := RX13) (T := TX13) (N := 27) hx hb hts (fun _ h => List.mem_cons_of_mem _ (List.mem_append_left _ (List.mem_append_right _ h))) hown hK hP 0 rfl rfl 0 (by decide) (hts (.fieldLink RX13 9 "SeekwellModel" "isThere" "[Z") (by decide +kernel)) (fun _ h9 => h9) rfl dX13_write_34 ?_
  refine lv_iload_n hx hb dX13_write_37 rfl (lv_at hl 0 rfl) ?_
  refine va_zald (D := (dC, dI)) hx hb hK hP 1 0 rfl rfl (i := 6) (zin (by decide +kernel)) dX13_write_38 ?_
  refine zt_v (w := .int 0) rfl ?_
  refine lv_if_eq (tgt := 148) hx hb dX13_write_39 (by decide) (fun _ => ?_) (fun h9 => absurd (show (0 : Int32) = (0 : Int32) by decide +kernel) h9)
  refine lv_iinc (v := 7) (lv' := [(3, .int 7), (2, .int 0), (1, .ref q20), (0, .ref q0)]) hx hb dX13_write_148 hl (k := 0) rfl (by decide +kernel) (by decide) rfl (fun ls hl => ?_)
  refine lv_goto (tgt := 15) hx hb dX13_write_151 (by decide) ?_
  refine lv_iload_n hx hb dX13_write_15 rfl (lv_at hl 0 rfl) ?_
  refine lv_bipush (v := 24) hx hb dX13_write_16 (by decide +kernel) ?_
  refine lv_icmp_ge (tgt := 154) hx hb dX13_write_18 (by decide) (fun h9 => absurd h9 (show ¬ (24 : Int32) ≤ (7 : Int32) by decide +kernel)) (fun _ => ?_)
  refine lv_aload_n hx hb dX13_write_21 rfl (lv_at hl 3 rfl) ?_
  refine va_get (D := (dC, dI)) (ci := 15) (v := .ref q10) (C := RX13) (T := TX13) (N := 27) hx hb hts (fun _ h => List.mem_cons_of_mem _ (List.mem_append_left _ (List.mem_append_right _ h))) hown hK hP 0 rfl rfl 14 (by decide) (hts (.fieldLink RX13 49 "SeekwellModel" "wasThere" "[Z") (by decide +kernel)) (fun _ h9 => h9) rfl dX13_write_22 ?_
  refine lv_iload_n hx hb dX13_write_25 rfl (lv_at hl 0 rfl) ?_
  refine lv_aload_n hx hb dX13_write_26 rfl (lv_at hl 3 rfl) ?_
  refine va_get (D := (dC, dI)) (ci := 15) (v := .ref q1) (C := RX13) (T := TX13) (N := 27) hx hb hts (fun _ h => List.mem_cons_of_mem _ (List.mem_append_left _ (List.mem_append_right _ h))) hown hK hP 0 rfl rfl 0 (by decide) (hts (.fieldLink RX13 9 "SeekwellModel" "isThere" "[Z") (by decide +kernel)) (fun _ h9 => h9) rfl dX13_write_27 ?_
  refine lv_iload_n hx hb dX13_write_30 rfl (lv_at hl 0 rfl) ?_
  refine va_zald (D := (dC, dI)) hx hb hK hP 1 0 rfl rfl (i := 7) (zin (by decide +kernel)) dX13_write_31 ?_
  refine zt_v (w := .int 0) rfl ?_
  refine va_zast (D := (dC, dI)) hx hb hK hP hD hS 2 1 rfl rfl (i := 7) (x := 0) (zin (by decide +kernel)) dX13_write_32 (fun H locs hP hD hS => ?_)
  have hP : va_P (dC, dI) vwCl [(q0, .inr (15, [.ref q1, .ref q2, .ref q3, .ref q4, .ref q5, .ref q6, .int 0, .int 1, .ref q7, .int 0, .ref q8, .null, .ref q9, .null, .ref q10, .ref q11, .ref q12, .ref q13, .ref q14, .int 0, .ref q15, .ref q16, .ref q17, .ref q18, .ref q19, .int 0, .int 0])), (q1, .inl (k0, 24, .inl (fun _ => 0))), (q10, .inl (k1, 24, .inl (upd (upd (upd (upd (upd (upd (upd (upd (fun _ => 0) (0 : Int32).toNatClampNeg (vp_nar .boolean 0)) (1 : Int32).toNatClampNeg (vp_nar .boolean 0)) (2 : Int32).toNatClampNeg (vp_nar .boolean 0)) (3 : Int32).toNatClampNeg (vp_nar .boolean 0)) (4 : Int32).toNatClampNeg (vp_nar .boolean 0)) (5 : Int32).toNatClampNeg (vp_nar .boolean 0)) (6 : Int32).toNatClampNeg (vp_nar .boolean 0)) (7 : Int32).toNatClampNeg (vp_nar .boolean 0)))), (q20, .inl (k2, 15360, .inl (fun _ => 0)))] H := hP
  have hD : va_D A [(q0, .inr (15, [.ref q1, .ref q2, .ref q3, .ref q4, .ref q5, .ref q6, .int 0, .int 1, .ref q7, .int 0, .ref q8, .null, .ref q9, .null, .ref q10, .ref q11, .ref q12, .ref q13, .ref q14, .int 0, .ref q15, .ref q16, .ref q17, .ref q18, .ref q19, .int 0, .int 0])), (q1, .inl (k0, 24, .inl (fun _ => 0))), (q10, .inl (k1, 24, .inl (upd (upd (upd (upd (upd (upd (upd (upd (fun _ => 0) (0 : Int32).toNatClampNeg (vp_nar .boolean 0)) (1 : Int32).toNatClampNeg (vp_nar .boolean 0)) (2 : Int32).toNatClampNeg (vp_nar .boolean 0)) (3 : Int32).toNatClampNeg (vp_nar .boolean 0)) (4 : Int32).toNatClampNeg (vp_nar .boolean 0)) (5 : Int32).toNatClampNeg (vp_nar .boolean 0)) (6 : Int32).toNatClampNeg (vp_nar .boolean 0)) (7 : Int32).toNatClampNeg (vp_nar .boolean 0)))), (q20, .inl (k2, 15360, .inl (fun _ => 0)))] := hD
  refine lv_aload_n hx hb dX13_write_33 rfl (lv_at hl 3 rfl) ?_
  refine va_get (D := (dC, dI)) (ci := 15) (v := .ref q1) (C := RX13) (T := TX13) (N := 27) hx hb hts (fun _ h => List.mem_cons_of_mem _ (List.mem_append_left _ (List.mem_append_right _ h))) hown hK hP 0 rfl rfl 0 (by decide) (hts (.fieldLink RX13 9 "SeekwellModel" "isThere" "[Z") (by decide +kernel)) (fun _ h9 => h9) rfl dX13_write_34 ?_
  refine lv_iload_n hx hb dX13_write_37 rfl (lv_at hl 0 rfl) ?_
  refine va_zald (D := (dC, dI)) hx hb hK hP 1 0 rfl rfl (i := 7) (zin (by decide +kernel)) dX13_write_38 ?_
  refine zt_v (w := .int 0) rfl ?_
  refine lv_if_eq (tgt := 148) hx hb dX13_write_39 (by decide) (fun _ => ?_) (fun h9 => absurd (show (0 : Int32) = (0 : Int32) by decide +kernel) h9)
  refine lv_iinc (v := 8) (lv' := [(3, .int 8), (2, .int 0), (1, .ref q20), (0, .ref q0)]) hx hb dX13_write_148 hl (k := 0) rfl (by decide +kernel) (by decide) rfl (fun ls hl => ?_)
  refine lv_goto (tgt := 15) hx hb dX13_write_151 (by decide) ?_
  refine lv_iload_n hx hb dX13_write_15 rfl (lv_at hl 0 rfl) ?_
  refine lv_bipush (v := 24) hx hb dX13_write_16 (by decide +kernel) ?_
  refine lv_icmp_ge (tgt := 154) hx hb dX13_write_18 (by decide) (fun h9 => absurd h9 (show ¬ (24 : Int32) ≤ (8 : Int32) by decide +kernel)) (fun _ => ?_)
  refine lv_aload_n hx hb dX13_write_21 rfl (lv_at hl 3 rfl) ?_
  refine va_get (D := (dC, dI)) (ci := 15) (v := .ref q10) (C := RX13) (T := TX13) (N := 27) hx hb hts (fun _ h => List.mem_cons_of_mem _ (List.mem_append_left _ (List.mem_append_right _ h))) hown hK hP 0 rfl rfl 14 (by decide) (hts (.fieldLink RX13 49 "SeekwellModel" "wasThere" "[Z") (by decide +kernel)) (fun _ h9 => h9) rfl dX13_write_22 ?_
  refine lv_iload_n hx hb dX13_write_25 rfl (lv_at hl 0 rfl) ?_
  refine lv_aload_n hx hb dX13_write_26 rfl (lv_at hl 3 rfl) ?_
  refine va_get (D := (dC, dI)) (ci := 15) (v := .ref q1) (C := RX13) (T := TX13) (N := 27) hx hb hts (fun _ h => List.mem_cons_of_mem _ (List.mem_append_left _ (List.mem_append_right _ h))) hown hK hP 0 rfl rfl 0 (by decide) (hts (.fieldLink RX13 9 "SeekwellModel" "isThere" "[Z") (by decide +kernel)) (fun _ h9 => h9) rfl dX13_write_27 ?_
  refine lv_iload_n hx hb dX13_write_30 rfl (lv_at hl 0 rfl) ?_
  refine va_zald (D := (dC, dI)) hx hb hK hP 1 0 rfl rfl (i := 8) (zin (by decide +kernel)) dX13_write_31 ?_
  refine zt_v (w := .int 0) rfl ?_
  refine va_zast (D := (dC, dI)) hx hb hK hP hD hS 2 1 rfl rfl (i := 8) (x := 0) (zin (by decide +kernel)) dX13_write_32 (fun H locs hP hD hS => ?_)
  have hP : va_P (dC, dI) vwCl [(q0, .inr (15, [.ref q1, .ref q2, .ref q3, .ref q4, .ref q5, .ref q6, .int 0, .int 1, .ref q7, .int 0, .ref q8, .null, .ref q9, .null, .ref q10, .ref q11, .ref q12, .ref q13, .ref q14, .int 0, .ref q15, .ref q16, .ref q17, .ref q18, .ref q19, .int 0, .int 0])), (q1, .inl (k0, 24, .inl (fun _ => 0))), (q10, .inl (k1, 24, .inl (upd (upd (upd (upd (upd (upd (upd (upd (upd (fun _ => 0) (0 : Int32).toNatClampNeg (vp_nar .boolean 0)) (1 : Int32).toNatClampNeg (vp_nar .boolean 0)) (2 : Int32).toNatClampNeg (vp_nar .boolean 0)) (3 : Int32).toNatClampNeg (vp_nar .boolean 0)) (4 : Int32).toNatClampNeg (vp_nar .boolean 0)) (5 : Int32).toNatClampNeg (vp_nar .boolean 0)) (6 : Int32).toNatClampNeg (vp_nar .boolean 0)) (7 : Int32).toNatClampNeg (vp_nar .boolean 0)) (8 : Int32).toNatClampNeg (vp_nar .boolean 0)))), (q20, .inl (k2, 15360, .inl (fun _ => 0)))] H := hP
  have hD : va_D A [(q0, .inr (15, [.ref q1, .ref q2, .ref q3, .ref q4, .ref q5, .ref q6, .int 0, .int 1, .ref q7, .int 0, .ref q8, .null, .ref q9, .null, .ref q10, .ref q11, .ref q12, .ref q13, .ref q14, .int 0, .ref q15, .ref q16, .ref q17, .ref q18, .ref q19, .int 0, .int 0])), (q1, .inl (k0, 24, .inl (fun _ => 0))), (q10, .inl (k1, 24, .inl (upd (upd (upd (upd (upd (upd (upd (upd (upd (fun _ => 0) (0 : Int32).toNatClampNeg (vp_nar .boolean 0)) (1 : Int32).toNatClampNeg (vp_nar .boolean 0)) (2 : Int32).toNatClampNeg (vp_nar .boolean 0)) (3 : Int32).toNatClampNeg (vp_nar .boolean 0)) (4 : Int32).toNatClampNeg (vp_nar .boolean 0)) (5 : Int32).toNatClampNeg (vp_nar .boolean 0)) (6 : Int32).toNatClampNeg (vp_nar .boolean 0)) (7 : Int32).toNatClampNeg (vp_nar .boolean 0)) (8 : Int32).toNatClampNeg (vp_nar .boolean 0)))), (q20, .inl (k2, 15360, .inl (fun _ => 0)))] := hD
  refine lv_aload_n hx hb dX13_write_33 rfl (lv_at hl 3 rfl) ?_
  refine va_get (D := (dC, dI)) (ci := 15) (v := .ref q1) (C := RX13) (T := TX13) (N := 27) hx hb hts (fun _ h => List.mem_cons_of_mem _ (List.mem_append_left _ (List.mem_append_right _ h))) hown hK hP 0 rfl rfl 0 (by decide) (hts (.fieldLink RX13 9 "SeekwellModel" "isThere" "[Z") (by decide +kernel)) (fun _ h9 => h9) rfl dX13_write_34 ?_
  refine lv_iload_n hx hb dX13_write_37 rfl (lv_at hl 0 rfl) ?_
  refine va_zald (D := (dC, dI)) hx hb hK hP 1 0 rfl rfl (i := 8) (zin (by decide +kernel)) dX13_write_38 ?_
  refine zt_v (w := .int 0) rfl ?_
  refine lv_if_eq (tgt := 148) hx hb dX13_write_39 (by decide) (fun _ => ?_) (fun h9 => absurd (show (0 : Int32) = (0 : Int32) by decide +kernel) h9)
  refine lv_iinc (v := 9) (lv' := [(3, .int 9), (2, .int 0), (1, .ref q20), (0, .ref q0)]) hx hb dX13_write_148 hl (k := 0) rfl (by decide +kernel) (by decide) rfl (fun ls hl => ?_)
  refine lv_goto (tgt := 15) hx hb dX13_write_151 (by decide) ?_
  refine lv_iload_n hx hb dX13_write_15 rfl (lv_at hl 0 rfl) ?_
  refine lv_bipush (v := 24) hx hb dX13_write_16 (by decide +kernel) ?_
  refine lv_icmp_ge (tgt := 154) hx hb dX13_write_18 (by decide) (fun h9 => absurd h9 (show ¬ (24 : Int32) ≤ (9 : Int32) by decide +kernel)) (fun _ => ?_)
  refine lv_aload_n hx hb dX13_write_21 rfl (lv_at hl 3 rfl) ?_
  refine va_get (D := (dC, dI)) (ci := 15) (v := .ref q10) (C := RX13) (T := TX13) (N := 27) hx hb hts (fun _ h => List.mem_cons_of_mem _ (List.mem_append_left _ (List.mem_append_right _ h))) hown hK hP 0 rfl rfl 14 (by decide) (hts (.fieldLink RX13 49 "SeekwellModel" "wasThere" "[Z") (by decide +kernel)) (fun _ h9 => h9) rfl dX13_write_22 ?_
  refine lv_iload_n hx hb dX13_write_25 rfl (lv_at hl 0 rfl) ?_
  refine lv_aload_n hx hb dX13_write_26 rfl (lv_at hl 3 rfl) ?_
  refine va_get (D := (dC, dI)) (ci := 15) (v := .ref q1) (C := RX13) (T := TX13) (N := 27) hx hb hts (fun _ h => List.mem_cons_of_mem _ (List.mem_append_left _ (List.mem_append_right _ h))) hown hK hP 0 rfl rfl 0 (by decide) (hts (.fieldLink RX13 9 "SeekwellModel" "isThere" "[Z") (by decide +kernel)) (fun _ h9 => h9) rfl dX13_write_27 ?_
  refine lv_iload_n hx hb dX13_write_30 rfl (lv_at hl 0 rfl) ?_
  refine va_zald (D := (dC, dI)) hx hb hK hP 1 0 rfl rfl (i := 9) (zin (by decide +kernel)) dX13_write_31 ?_
  refine zt_v (w := .int 0) rfl ?_
  refine va_zast (D := (dC, dI)) hx hb hK hP hD hS 2 1 rfl rfl (i := 9) (x := 0) (zin (by decide +kernel)) dX13_write_32 (fun H locs hP hD hS => ?_)
  have hP : va_P (dC, dI) vwCl [(q0, .inr (15, [.ref q1, .ref q2, .ref q3, .ref q4, .ref q5, .ref q6, .int 0, .int 1, .ref q7, .int 0, .ref q8, .null, .ref q9, .null, .ref q10, .ref q11, .ref q12, .ref q13, .ref q14, .int 0, .ref q15, .ref q16, .ref q17, .ref q18, .ref q19, .int 0, .int 0])), (q1, .inl (k0, 24, .inl (fun _ => 0))), (q10, .inl (k1, 24, .inl (upd (upd (upd (upd (upd (upd (upd (upd (upd (upd (fun _ => 0) (0 : Int32).toNatClampNeg (vp_nar .boolean 0)) (1 : Int32).toNatClampNeg (vp_nar .boolean 0)) (2 : Int32).toNatClampNeg (vp_nar .boolean 0)) (3 : Int32).toNatClampNeg (vp_nar .boolean 0)) (4 : Int32).toNatClampNeg (vp_nar .boolean 0)) (5 : Int32).toNatClampNeg (vp_nar .boolean 0)) (6 : Int32).toNatClampNeg (vp_nar .boolean 0)) (7 : Int32).toNatClampNeg (vp_nar .boolean 0)) (8 : Int32).toNatClampNeg (vp_nar .boolean 0)) (9 : Int32).toNatClampNeg (vp_nar .boolean 0)))), (q20, .inl (k2, 15360, .inl (fun _ => 0)))] H := hP
  have hD : va_D A [(q0, .inr (15, [.ref q1, .ref q2, .ref q3, .ref q4, .ref q5, .ref q6, .int 0, .int 1, .ref q7, .int 0, .ref q8, .null, .ref q9, .null, .ref q10, .ref q11, .ref q12, .ref q13, .ref q14, .int 0, .ref q15, .ref q16, .ref q17, .ref q18, .ref q19, .int 0, .int 0])), (q1, .inl (k0, 24, .inl (fun _ => 0))), (q10, .inl (k1, 24, .inl (upd (upd (upd (upd (upd (upd (upd (upd (upd (upd (fun _ => 0) (0 : Int32).toNatClampNeg (vp_nar .boolean 0)) (1 : Int32).toNatClampNeg (vp_nar .boolean 0)) (2 : Int32).toNatClampNeg (vp_nar .boolean 0)) (3 : Int32).toNatClampNeg (vp_nar .boolean 0)) (4 : Int32).toNatClampNeg (vp_nar .boolean 0)) (5 : Int32).toNatClampNeg (vp_nar .boolean 0)) (6 : Int32).toNatClampNeg (vp_nar .boolean 0)) (7 : Int32).toNatClampNeg (vp_nar .boolean 0)) (8 : Int32).toNatClampNeg (vp_nar .boolean 0)) (9 : Int32).toNatClampNeg (vp_nar .boolean 0)))), (q20, .inl (k2, 15360, .inl (fun _ => 0)))] := hD
  refine lv_aload_n hx hb dX13_write_33 rfl (lv_at hl 3 rfl) ?_
  refine va_get (D := (dC, dI)) (ci := 15) (v := .ref q1) (C := RX13) (T := TX13) (N := 27) hx hb hts (fun _ h => List.mem_cons_of_mem _ (List.mem_append_left _ (List.mem_append_right _ h))) hown hK hP 0 rfl rfl 0 (by decide) (hts (.fieldLink RX13 9 "SeekwellModel" "isThere" "[Z") (by decide +kernel)) (fun _ h9 => h9) rfl dX13_write_34 ?_
  refine lv_iload_n hx hb dX13_write_37 rfl (lv_at hl 0 rfl) ?_
  refine va_zald (D := (dC, dI)) hx hb hK hP 1 0 rfl rfl (i := 9) (zin (by decide +kernel)) dX13_write_38 ?_
  refine zt_v (w := .int 0) rfl ?_
  refine lv_if_eq (tgt := 148) hx hb dX13_write_39 (by decide) (fun _ => ?_) (fun h9 => absurd (show (0 : Int32) = (0 : Int32) by decide +kernel) h9)
  refine lv_iinc (v := 10) (lv' := [(3, .int 10), (2, .int 0), (1, .ref q20), (0, .ref q0)]) hx hb dX13_write_148 hl (k := 0) rfl (by decide +kernel) (by decide) rfl (fun ls hl => ?_)
  refine lv_goto (tgt := 15) hx hb dX13_write_151 (by decide) ?_
  refine lv_iload_n hx hb dX13_write_15 rfl (lv_at hl 0 rfl) ?_
  refine lv_bipush (v := 24) hx hb dX13_write_16 (by decide +kernel) ?_
  refine lv_icmp_ge (tgt := 154) hx hb dX13_write_18 (by decide) (fun h9 => absurd h9 (show ¬ (24 : Int32) ≤ (10 : Int32) by decide +kernel)) (fun _ => ?_)
  refine lv_aload_n hx hb dX13_write_21 rfl (lv_at hl 3 rfl) ?_
  refine va_get (D := (dC, dI)) (ci := 15) (v := .ref q10) (C := RX13) (T := TX13) (N := 27) hx hb hts (fun _ h => List.mem_cons_of_mem _ (List.mem_append_left _ (List.mem_append_right _ h))) hown hK hP 0 rfl rfl 14 (by decide) (hts (.fieldLink RX13 49 "SeekwellModel" "wasThere" "[Z") (by decide +kernel)) (fun _ h9 => h9) rfl dX13_write_22 ?_
  refine lv_iload_n hx hb dX13_write_25 rfl (lv_at hl 0 rfl) ?_
  refine lv_aload_n hx hb dX13_write_26 rfl (lv_at hl 3 rfl) ?_
  refine va_get (D := (dC, dI)) (ci := 15) (v := .ref q1) (C := RX13) (T := TX13) (N := 27) hx hb hts (fun _ h => List.mem_cons_of_mem _ (List.mem_append_left _ (List.mem_append_right _ h))) hown hK hP 0 rfl rfl 0 (by decide) (hts (.fieldLink RX13 9 "SeekwellModel" "isThere" "[Z") (by decide +kernel)) (fun _ h9 => h9) rfl dX13_write_27 ?_
  refine lv_iload_n hx hb dX13_write_30 rfl (lv_at hl 0 rfl) ?_
  refine va_zald (D := (dC, dI)) hx hb hK hP 1 0 rfl rfl (i := 10) (zin (by decide +kernel)) dX13_write_31 ?_
  refine zt_v (w := .int 0) rfl ?_
  refine va_zast (D := (dC, dI)) hx hb hK hP hD hS 2 1 rfl rfl (i := 10) (x := 0) (zin (by decide +kernel)) dX13_write_32 (fun H locs hP hD hS => ?_)
  have hP : va_P (dC, dI) vwCl [(q0, .inr (15, [.ref q1, .ref q2, .ref q3, .ref q4, .ref q5, .ref q6, .int 0, .int 1, .ref q7, .int 0, .ref q8, .null, .ref q9, .null, .ref q10, .ref q11, .ref q12, .ref q13, .ref q14, .int 0, .ref q15, .ref q16, .ref q17, .ref q18, .ref q19, .int 0, .int 0])), (q1, .inl (k0, 24, .inl (fun _ => 0))), (q10, .inl (k1, 24, .inl (upd (upd (upd (upd (upd (upd (upd (upd (upd (upd (upd (fun _ => 0) (0 : Int32).toNatClampNeg (vp_nar .boolean 0)) (1 : Int32).toNatClampNeg (vp_nar .boolean 0)) (2 : Int32).toNatClampNeg (vp_nar .boolean 0)) (3 : Int32).toNatClampNeg (vp_nar .boolean 0)) (4 : Int32).toNatClampNeg (vp_nar .boolean 0)) (5 : Int32).toNatClampNeg (vp_nar .boolean 0)) (6 : Int32).toNatClampNeg (vp_nar .boolean 0)) (7 : Int32).toNatClampNeg (vp_nar .boolean 0)) (8 : Int32).toNatClampNeg (vp_nar .boolean 0)) (9 : Int32).toNatClampNeg (vp_nar .boolean 0)) (10 : Int32).toNatClampNeg (vp_nar .boolean 0)))), (q20, .inl (k2, 15360, .inl (fun _ => 0)))] H := hP
  have hD : va_D A [(q0, .inr (15, [.ref q1, .ref q2, .ref q3, .ref q4, .ref q5, .ref q6, .int 0, .int 1, .ref q7, .int 0, .ref q8, .null, .ref q9, .null, .ref q10, .ref q11, .ref q12, .ref q13, .ref q14, .int 0, .ref q15, .ref q16, .ref q17, .ref q18, .ref q19, .int 0, .int 0])), (q1, .inl (k0, 24, .inl (fun _ => 0))), (q10, .inl (k1, 24, .inl (upd (upd (upd (upd (upd (upd (upd (upd (upd (upd (upd (fun _ => 0) (0 : Int32).toNatClampNeg (vp_nar .boolean 0)) (1 : Int32).toNatClampNeg (vp_nar .boolean 0)) (2 : Int32).toNatClampNeg (vp_nar .boolean 0)) (3 : Int32).toNatClampNeg (vp_nar .boolean 0)) (4 : Int32).toNatClampNeg (vp_nar .boolean 0)) (5 : Int32).toNatClampNeg (vp_nar .boolean 0)) (6 : Int32).toNatClampNeg (vp_nar .boolean 0)) (7 : Int32).toNatClampNeg (vp_nar .boolean 0)) (8 : Int32).toNatClampNeg (vp_nar .boolean 0)) (9 : Int32).toNatClampNeg (vp_nar .boolean 0)) (10 : Int32).toNatClampNeg (vp_nar .boolean 0)))), (q20, .inl (k2, 15360, .inl (fun _ => 0)))] := hD
  refine lv_aload_n hx hb dX13_write_33 rfl (lv_at hl 3 rfl) ?_
  refine va_get (D := (dC, dI)) (ci := 15) (v := .ref q1) (C := RX13) (T := TX13) (N := 27) hx hb hts (fun _ h => List.mem_cons_of_mem _ (List.mem_append_left _ (List.mem_append_right _ h))) hown hK hP 0 rfl rfl 0 (by decide) (hts (.fieldLink RX13 9 "SeekwellModel" "isThere" "[Z") (by decide +kernel)) (fun _ h9 => h9) rfl dX13_write_34 ?_
  refine lv_iload_n hx hb dX13_write_37 rfl (lv_at hl 0 rfl) ?_
  refine va_zald (D := (dC, dI)) hx hb hK hP 1 0 rfl rfl (i := 10) (zin (by decide +kernel)) dX13_write_38 ?_
  refine zt_v (w := .int 0) rfl ?_
  refine lv_if_eq (tgt := 148) hx hb dX13_write_39 (by decide) (fun _ => ?_) (fun h9 => absurd (show (0 : Int32) = (0 : Int32) by decide +kernel) h9)
  refine lv_iinc (v := 11) (lv' := [(3, .int 11), (2, .int 0), (1, .ref q20), (0, .ref q0)]) hx hb dX13_write_148 hl (k := 0) rfl (by decide +kernel) (by decide) rfl (fun ls hl => ?_)
  refine lv_goto (tgt := 15) hx hb dX13_write_151 (by decide) ?_
  refine lv_iload_n hx hb dX13_write_15 rfl (lv_at hl 0 rfl) ?_
  refine lv_bipush (v := 24) hx hb dX13_write_16 (by decide +kernel) ?_
  refine lv_icmp_ge (tgt := 154) hx hb dX13_write_18 (by decide) (fun h9 => absurd h9 (show ¬ (24 : Int32) ≤ (11 : Int32) by decide +kernel)) (fun _ => ?_)
  refine lv_aload_n hx hb dX13_write_21 rfl (lv_at hl 3 rfl) ?_
  refine va_get (D := (dC, dI)) (ci := 15) (v := .ref q10) (C := RX13) (T := TX13) (N := 27) hx hb hts (fun _ h => List.mem_cons_of_mem _ (List.mem_append_left _ (List.mem_append_right _ h))) hown hK hP 0 rfl rfl 14 (by decide) (hts (.fieldLink RX13 49 "SeekwellModel" "wasThere" "[Z") (by decide +kernel)) (fun _ h9 => h9) rfl dX13_write_22 ?_
  refine lv_iload_n hx hb dX13_write_25 rfl (lv_at hl 0 rfl) ?_
  refine lv_aload_n hx hb dX13_write_26 rfl (lv_at hl 3 rfl) ?_
  refine va_get (D := (dC, dI)) (ci := 15) (v := .ref q1) (C := RX13) (T := TX13) (N := 27) hx hb hts (fun _ h => List.mem_cons_of_mem _ (List.mem_append_left _ (List.mem_append_right _ h))) hown hK hP 0 rfl rfl 0 (by decide) (hts (.fieldLink RX13 9 "SeekwellModel" "isThere" "[Z") (by decide +kernel)) (fun _ h9 => h9) rfl dX13_write_27 ?_
  refine lv_iload_n hx hb dX13_write_30 rfl (lv_at hl 0 rfl) ?_
  refine va_zald (D := (dC, dI)) hx hb hK hP 1 0 rfl rfl (i := 11) (zin (by decide +kernel)) dX13_write_31 ?_
  refine zt_v (w := .int 0) rfl ?_
  refine va_zast (D := (dC, dI)) hx hb hK hP hD hS 2 1 rfl rfl (i := 11) (x := 0) (zin (by decide +kernel)) dX13_write_32 (fun H locs hP hD hS => ?_)
  have hP : va_P (dC, dI) vwCl [(q0, .inr (15, [.ref q1, .ref q2, .ref q3, .ref q4, .ref q5, .ref q6, .int 0, .int 1, .ref q7, .int 0, .ref q8, .null, .ref q9, .null, .ref q10, .ref q11, .ref q12, .ref q13, .ref q14, .int 0, .ref q15, .ref q16, .ref q17, .ref q18, .ref q19, .int 0, .int 0])), (q1, .inl (k0, 24, .inl (fun _ => 0))), (q10, .inl (k1, 24, .inl (upd (upd (upd (upd (upd (upd (upd (upd (upd (upd (upd (upd (fun _ => 0) (0 : Int32).toNatClampNeg (vp_nar .boolean 0)) (1 : Int32).toNatClampNeg (vp_nar .boolean 0)) (2 : Int32).toNatClampNeg (vp_nar .boolean 0)) (3 : Int32).toNatClampNeg (vp_nar .boolean 0)) (4 : Int32).toNatClampNeg (vp_nar .boolean 0)) (5 : Int32).toNatClampNeg (vp_nar .boolean 0)) (6 : Int32).toNatClampNeg (vp_nar .boolean 0)) (7 : Int32).toNatClampNeg (vp_nar .boolean 0)) (8 : Int32).toNatClampNeg (vp_nar .boolean 0)) (9 : Int32).toNatClampNeg (vp_nar .boolean 0)) (10 : Int32).toNatClampNeg (vp_nar .boolean 0)) (11 : Int32).toNatClampNeg (vp_nar .boolean 0)))), (q20, .inl (k2, 15360, .inl (fun _ => 0)))] H := hP
  have hD : va_D A [(q0, .inr (15, [.ref q1, .ref q2, .ref q3, .ref q4, .ref q5, .ref q6, .int 0, .int 1, .ref q7, .int 0, .ref q8, .null, .ref q9, .null, .ref q10, .ref q11, .ref q12, .ref q13, .ref q14, .int 0, .ref q15, .ref q16, .ref q17, .ref q18, .ref q19, .int 0, .int 0])), (q1, .inl (k0, 24, .inl (fun _ => 0))), (q10, .inl (k1, 24, .inl (upd (upd (upd (upd (upd (upd (upd (upd (upd (upd (upd (upd (fun _ => 0) (0 : Int32).toNatClampNeg (vp_nar .boolean 0)) (1 : Int32).toNatClampNeg (vp_nar .boolean 0)) (2 : Int32).toNatClampNeg (vp_nar .boolean 0)) (3 : Int32).toNatClampNeg (vp_nar .boolean 0)) (4 : Int32).toNatClampNeg (vp_nar .boolean 0)) (5 : Int32).toNatClampNeg (vp_nar .boolean 0)) (6 : Int32).toNatClampNeg (vp_nar .boolean 0)) (7 : Int32).toNatClampNeg (vp_nar .boolean 0)) (8 : Int32).toNatClampNeg (vp_nar .boolean 0)) (9 : Int32).toNatClampNeg (vp_nar .boolean 0)) (10 : Int32).toNatClampNeg (vp_nar .boolean 0)) (11 : Int32).toNatClampNeg (vp_nar .boolean 0)))), (q20, .inl (k2, 15360, .inl (fun _ => 0)))] := hD
  refine lv_aload_n hx hb dX13_write_33 rfl (lv_at hl 3 rfl) ?_
  refine va_get (D := (dC, dI)) (ci := 15) (v := .ref q1) (C := RX13) (T := TX13) (N := 27) hx hb hts (fun _ h => List.mem_cons_of_mem _ (List.mem_append_left _ (List.mem_append_right _ h))) hown hK hP 0 rfl rfl 0 (by decide) (hts (.fieldLink RX13 9 "SeekwellModel" "isThere" "[Z") (by decide +kernel)) (fun _ h9 => h9) rfl dX13_write_34 ?_
  refine lv_iload_n hx hb dX13_write_37 rfl (lv_at hl 0 rfl) ?_
  refine va_zald (D := (dC, dI)) hx hb hK hP 1 0 rfl rfl (i := 11) (zin (by decide +kernel)) dX13_write_38 ?_
  refine zt_v (w := .int 0) rfl ?_
  refine lv_if_eq (tgt := 148) hx hb dX13_write_39 (by decide) (fun _ => ?_) (fun h9 => absurd (show (0 : Int32) = (0 : Int32) by decide +kernel) h9)
  refine lv_iinc (v := 12) (lv' := [(3, .int 12), (2, .int 0), (1, .ref q20), (0, .ref q0)]) hx hb dX13_write_148 hl (k := 0) rfl (by decide +kernel) (by decide) rfl (fun ls hl => ?_)
  refine lv_goto (tgt := 15) hx hb dX13_write_151 (by decide) ?_
  refine lv_iload_n hx hb dX13_write_15 rfl (lv_at hl 0 rfl) ?_
  refine lv_bipush (v := 24) hx hb dX13_write_16 (by decide +kernel) ?_
  refine lv_icmp_ge (tgt := 154) hx hb dX13_write_18 (by decide) (fun h9 => absurd h9 (show ¬ (24 : Int32) ≤ (12 : Int32) by decide +kernel)) (fun _ => ?_)
  refine lv_aload_n hx hb dX13_write_21 rfl (lv_at hl 3 rfl) ?_
  refine va_get (D := (dC, dI)) (ci := 15) (v := .ref q10) (C := RX13) (T := TX13) (N := 27) hx hb hts (fun _ h => List.mem_cons_of_mem _ (List.mem_append_left _ (List.mem_append_right _ h))) hown hK hP 0 rfl rfl 14 (by decide) (hts (.fieldLink RX13 49 "SeekwellModel" "wasThere" "[Z") (by decide +kernel)) (fun _ h9 => h9) rfl dX13_write_22 ?_
  refine lv_iload_n hx hb dX13_write_25 rfl (lv_at hl 0 rfl) ?_
  refine lv_aload_n hx hb dX13_write_26 rfl (lv_at hl 3 rfl) ?_
  refine va_get (D := (dC, dI)) (ci := 15) (v := .ref q1) (C := RX13) (T := TX13) (N := 27) hx hb hts (fun _ h => List.mem_cons_of_mem _ (List.mem_append_left _ (List.mem_append_right _ h))) hown hK hP 0 rfl rfl 0 (by decide) (hts (.fieldLink RX13 9 "SeekwellModel" "isThere" "[Z") (by decide +kernel)) (fun _ h9 => h9) rfl dX13_write_27 ?_
  refine lv_iload_n hx hb dX13_write_30 rfl (lv_at hl 0 rfl) ?_
  refine va_zald (D := (dC, dI)) hx hb hK hP 1 0 rfl rfl (i := 12) (zin (by decide +kernel)) dX13_write_31 ?_
  refine zt_v (w := .int 0) rfl ?_
  refine va_zast (D := (dC, dI)) hx hb hK hP hD hS 2 1 rfl rfl (i := 12) (x := 0) (zin (by decide +kernel)) dX13_write_32 (fun H locs hP hD hS => ?_)
  have hP : va_P (dC, dI) vwCl [(q0, .inr (15, [.ref q1, .ref q2, .ref q3, .ref q4, .ref q5, .ref q6, .int 0, .int 1, .ref q7, .int 0, .ref q8, .null, .ref q9, .null, .ref q10, .ref q11, .ref q12, .ref q13, .ref q14, .int 0, .ref q15, .ref q16, .ref q17, .ref q18, .ref q19, .int 0, .int 0])), (q1, .inl (k0, 24, .inl (fun _ => 0))), (q10, .inl (k1, 24, .inl (upd (upd (upd (upd (upd (upd (upd (upd (upd (upd (upd (upd (upd (fun _ => 0) (0 : Int32).toNatClampNeg (vp_nar .boolean 0)) (1 : Int32).toNatClampNeg (vp_nar .boolean 0)) (2 : Int32).toNatClampNeg (vp_nar .boolean 0)) (3 : Int32).toNatClampNeg (vp_nar .boolean 0)) (4 : Int32).toNatClampNeg (vp_nar .boolean 0)) (5 : Int32).toNatClampNeg (vp_nar .boolean 0)) (6 : Int32).toNatClampNeg (vp_nar .boolean 0)) (7 : Int32).toNatClampNeg (vp_nar .boolean 0)) (8 : Int32).toNatClampNeg (vp_nar .boolean 0)) (9 : Int32).toNatClampNeg (vp_nar .boolean 0)) (10 : Int32).toNatClampNeg (vp_nar .boolean 0)) (11 : Int32).toNatClampNeg (vp_nar .boolean 0)) (12 : Int32).toNatClampNeg (vp_nar .boolean 0)))), (q20, .inl (k2, 15360, .inl (fun _ => 0)))] H := hP
  have hD : va_D A [(q0, .inr (15, [.ref q1, .ref q2, .ref q3, .ref q4, .ref q5, .ref q6, .int 0, .int 1, .ref q7, .int 0, .ref q8, .null, .ref q9, .null, .ref q10, .ref q11, .ref q12, .ref q13, .ref q14, .int 0, .ref q15, .ref q16, .ref q17, .ref q18, .ref q19, .int 0, .int 0])), (q1, .inl (k0, 24, .inl (fun _ => 0))), (q10, .inl (k1, 24, .inl (upd (upd (upd (upd (upd (upd (upd (upd (upd (upd (upd (upd (upd (fun _ => 0) (0 : Int32).toNatClampNeg (vp_nar .boolean 0)) (1 : Int32).toNatClampNeg (vp_nar .boolean 0)) (2 : Int32).toNatClampNeg (vp_nar .boolean 0)) (3 : Int32).toNatClampNeg (vp_nar .boolean 0)) (4 : Int32).toNatClampNeg (vp_nar .boolean 0)) (5 : Int32).toNatClampNeg (vp_nar .boolean 0)) (6 : Int32).toNatClampNeg (vp_nar .boolean 0)) (7 : Int32).toNatClampNeg (vp_nar .boolean 0)) (8 : Int32).toNatClampNeg (vp_nar .boolean 0)) (9 : Int32).toNatClampNeg (vp_nar .boolean 0)) (10 : Int32).toNatClampNeg (vp_nar .boolean 0)) (11 : Int32).toNatClampNeg (vp_nar .boolean 0)) (12 : Int32).toNatClampNeg (vp_nar .boolean 0)))), (q20, .inl (k2, 15360, .inl (fun _ => 0)))] := hD
  refine lv_aload_n hx hb dX13_write_33 rfl (lv_at hl 3 rfl) ?_
  refine va_get (D := (dC, dI)) (ci := 15) (v := .ref q1) (C := RX13) (T := TX13) (N := 27) hx hb hts (fun _ h => List.mem_cons_of_mem _ (List.mem_append_left _ (List.mem_append_right _ h))) hown hK hP 0 rfl rfl 0 (by decide) (hts (.fieldLink RX13 9 "SeekwellModel" "isThere" "[Z") (by decide +kernel)) (fun _ h9 => h9) rfl dX13_write_34 ?_
  refine lv_iload_n hx hb dX13_write_37 rfl (lv_at hl 0 rfl) ?_
  refine va_zald (D := (dC, dI)) hx hb hK hP 1 0 rfl rfl (i := 12) (zin (by decide +kernel)) dX13_write_38 ?_
  refine zt_v (w := .int 0) rfl ?_
  refine lv_if_eq (tgt := 148) hx hb dX13_write_39 (by decide) (fun _ => ?_) (fun h9 => absurd (show (0 : Int32) = (0 : Int32) by decide +kernel) h9)
  refine lv_iinc (v := 13) (lv' := [(3, .int 13), (2, .int 0), (1, .ref q20), (0, .ref q0)]) hx hb dX13_write_148 hl (k := 0) rfl (by decide +kernel) (by decide) rfl (fun ls hl => ?_)
  refine lv_goto (tgt := 15) hx hb dX13_write_151 (by decide) ?_
  refine lv_iload_n hx hb dX13_write_15 rfl (lv_at hl 0 rfl) ?_
  refine lv_bipush (v := 24) hx hb dX13_write_16 (by decide +kernel) ?_
  refine lv_icmp_ge (tgt := 154) hx hb dX13_write_18 (by decide) (fun h9 => absurd h9 (show ¬ (24 : Int32) ≤ (13 : Int32) by decide +kernel)) (fun _ => ?_)
  refine lv_aload_n hx hb dX13_write_21 rfl (lv_at hl 3 rfl) ?_
  refine va_get (D := (dC, dI)) (ci := 15) (v := .ref q10) (C := RX13) (T := TX13) (N := 27) hx hb hts (fun _ h => List.mem_cons_of_mem _ (List.mem_append_left _ (List.mem_append_right _ h))) hown hK hP 0 rfl rfl 14 (by decide) (hts (.fieldLink RX13 49 "SeekwellModel" "wasThere" "[Z") (by decide +kernel)) (fun _ h9 => h9) rfl dX13_write_22 ?_
  refine lv_iload_n hx hb dX13_write_25 rfl (lv_at hl 0 rfl) ?_
  refine lv_aload_n hx hb dX13_write_26 rfl (lv_at hl 3 rfl) ?_
  refine va_get (D := (dC, dI)) (ci := 15) (v := .ref q1) (C := RX13) (T := TX13) (N := 27) hx hb hts (fun _ h => List.mem_cons_of_mem _ (List.mem_append_left _ (List.mem_append_right _ h))) hown hK hP 0 rfl rfl 0 (by decide) (hts (.fieldLink RX13 9 "SeekwellModel" "isThere" "[Z") (by decide +kernel)) (fun _ h9 => h9) rfl dX13_write_27 ?_
  refine lv_iload_n hx hb dX13_write_30 rfl (lv_at hl 0 rfl) ?_
  refine va_zald (D := (dC, dI)) hx hb hK hP 1 0 rfl rfl (i := 13) (zin (by decide +kernel)) dX13_write_31 ?_
  refine zt_v (w := .int 0) rfl ?_
  refine va_zast (D := (dC, dI)) hx hb hK hP hD hS 2 1 rfl rfl (i := 13) (x := 0) (zin (by decide +kernel)) dX13_write_32 (fun H locs hP hD hS => ?_)
  have hP : va_P (dC, dI) vwCl [(q0, .inr (15, [.ref q1, .ref q2, .ref q3, .ref q4, .ref q5, .ref q6, .int 0, .int 1, .ref q7, .int 0, .ref q8, .null, .ref q9, .null, .ref q10, .ref q11, .ref q12, .ref q13, .ref q14, .int 0, .ref q15, .ref q16, .ref q17, .ref q18, .ref q19, .int 0, .int 0])), (q1, .inl (k0, 24, .inl (fun _ => 0))), (q10, .inl (k1, 24, .inl (upd (upd (upd (upd (upd (upd (upd (upd (upd (upd (upd (upd (upd (upd (fun _ => 0) (0 : Int32).toNatClampNeg (vp_nar .boolean 0)) (1 : Int32).toNatClampNeg (vp_nar .boolean 0)) (2 : Int32).toNatClampNeg (vp_nar .boolean 0)) (3 : Int32).toNatClampNeg (vp_nar .boolean 0)) (4 : Int32).toNatClampNeg (vp_nar .boolean 0)) (5 : Int32).toNatClampNeg (vp_nar .boolean 0)) (6 : Int32).toNatClampNeg (vp_nar .boolean 0)) (7 : Int32).toNatClampNeg (vp_nar .boolean 0)) (8 : Int32).toNatClampNeg (vp_nar .boolean 0)) (9 : Int32).toNatClampNeg (vp_nar .boolean 0)) (10 : Int32).toNatClampNeg (vp_nar .boolean 0)) (11 : Int32).toNatClampNeg (vp_nar .boolean 0)) (12 : Int32).toNatClampNeg (vp_nar .boolean 0)) (13 : Int32).toNatClampNeg (vp_nar .boolean 0)))), (q20, .inl (k2, 15360, .inl (fun _ => 0)))] H := hP
  have hD : va_D A [(q0, .inr (15, [.ref q1, .ref q2, .ref q3, .ref q4, .ref q5, .ref q6, .int 0, .int 1, .ref q7, .int 0, .ref q8, .null, .ref q9, .null, .ref q10, .ref q11, .ref q12, .ref q13, .ref q14, .int 0, .ref q15, .ref q16, .ref q17, .ref q18, .ref q19, .int 0, .int 0])), (q1, .inl (k0, 24, .inl (fun _ => 0))), (q10, .inl (k1, 24, .inl (upd (upd (upd (upd (upd (upd (upd (upd (upd (upd (upd (upd (upd (upd (fun _ => 0) (0 : Int32).toNatClampNeg (vp_nar .boolean 0)) (1 : Int32).toNatClampNeg (vp_nar .boolean 0)) (2 : Int32).toNatClampNeg (vp_nar .boolean 0)) (3 : Int32).toNatClampNeg (vp_nar .boolean 0)) (4 : Int32).toNatClampNeg (vp_nar .boolean 0)) (5 : Int32).toNatClampNeg (vp_nar .boolean 0)) (6 : Int32).toNatClampNeg (vp_nar .boolean 0)) (7 : Int32).toNatClampNeg (vp_nar .boolean 0)) (8 : Int32).toNatClampNeg (vp_nar .boolean 0)) (9 : Int32).toNatClampNeg (vp_nar .boolean 0)) (10 : Int32).toNatClampNeg (vp_nar .boolean 0)) (11 : Int32).toNatClampNeg (vp_nar .boolean 0)) (12 : Int32).toNatClampNeg (vp_nar .boolean 0)) (13 : Int32).toNatClampNeg (vp_nar .boolean 0)))), (q20, .inl (k2, 15360, .inl (fun _ => 0)))] := hD
  refine lv_aload_n hx hb dX13_write_33 rfl (lv_at hl 3 rfl) ?_
  refine va_get (D := (dC, dI)) (ci := 15) (v := .ref q1) (C := RX13) (T := TX13) (N := 27) hx hb hts (fun _ h => List.mem_cons_of_mem _ (List.mem_append_left _ (List.mem_append_right _ h))) hown hK hP 0 rfl rfl 0 (by decide) (hts (.fieldLink RX13 9 "SeekwellModel" "isThere" "[Z") (by decide +kernel)) (fun _ h9 => h9) rfl dX13_write_34 ?_
  refine lv_iload_n hx hb dX13_write_37 rfl (lv_at hl 0 rfl) ?_
  refine va_zald (D := (dC, dI)) hx hb hK hP 1 0 rfl rfl (i := 13) (zin (by decide +kernel)) dX13_write_38 ?_
  refine zt_v (w := .int 0) rfl ?_
  refine lv_if_eq (tgt := 148) hx hb dX13_write_39 (by decide) (fun _ => ?_) (fun h9 => absurd (show (0 : Int32) = (0 : Int32) by decide +kernel) h9)
  refine lv_iinc (v := 14) (lv' := [(3, .int 14), (2, .int 0), (1, .ref q20), (0, .ref q0)]) hx hb dX13_write_148 hl (k := 0) rfl (by decide +kernel) (by decide) rfl (fun ls hl => ?_)
  refine lv_goto (tgt := 15) hx hb dX13_write_151 (by decide) ?_
  refine lv_iload_n hx hb dX13_write_15 rfl (lv_at hl 0 rfl) ?_
  refine lv_bipush (v := 24) hx hb dX13_write_16 (by decide +kernel) ?_
  refine lv_icmp_ge (tgt := 154) hx hb dX13_write_18 (by decide) (fun h9 => absurd h9 (show ¬ (24 : Int32) ≤ (14 : Int32) by decide +kernel)) (fun _ => ?_)
  refine lv_aload_n hx hb dX13_write_21 rfl (lv_at hl 3 rfl) ?_
  refine va_get (D := (dC, dI)) (ci := 15) (v := .ref q10) (C := RX13) (T := TX13) (N := 27) hx hb hts (fun _ h => List.mem_cons_of_mem _ (List.mem_append_left _ (List.mem_append_right _ h))) hown hK hP 0 rfl rfl 14 (by decide) (hts (.fieldLink RX13 49 "SeekwellModel" "wasThere" "[Z") (by decide +kernel)) (fun _ h9 => h9) rfl dX13_write_22 ?_
  refine lv_iload_n hx hb dX13_write_25 rfl (lv_at hl 0 rfl) ?_
  refine lv_aload_n hx hb dX13_write_26 rfl (lv_at hl 3 rfl) ?_
  refine va_get (D := (dC, dI)) (ci := 15) (v := .ref q1) (C := RX13) (T := TX13) (N := 27) hx hb hts (fun _ h => List.mem_cons_of_mem _ (List.mem_append_left _ (List.mem_append_right _ h))) hown hK hP 0 rfl rfl 0 (by decide) (hts (.fieldLink RX13 9 "SeekwellModel" "isThere" "[Z") (by decide +kernel)) (fun _ h9 => h9) rfl dX13_write_27 ?_
  refine lv_iload_n hx hb dX13_write_30 rfl (lv_at hl 0 rfl) ?_
  refine va_zald (D := (dC, dI)) hx hb hK hP 1 0 rfl rfl (i := 14) (zin (by decide +kernel)) dX13_write_31 ?_
  refine zt_v (w := .int 0) rfl ?_
  refine va_zast (D := (dC, dI)) hx hb hK hP hD hS 2 1 rfl rfl (i := 14) (x := 0) (zin (by decide +kernel)) dX13_write_32 (fun H locs hP hD hS => ?_)
  have hP : va_P (dC, dI) vwCl [(q0, .inr (15, [.ref q1, .ref q2, .ref q3, .ref q4, .ref q5, .ref q6, .int 0, .int 1, .ref q7, .int 0, .ref q8, .null, .ref q9, .null, .ref q10, .ref q11, .ref q12, .ref q13, .ref q14, .int 0, .ref q15, .ref q16, .ref q17, .ref q18, .ref q19, .int 0, .int 0])), (q1, .inl (k0, 24, .inl (fun _ => 0))), (q10, .inl (k1, 24, .inl (upd (upd (upd (upd (upd (upd (upd (upd (upd (upd (upd (upd (upd (upd (upd (fun _ => 0) (0 : Int32).toNatClampNeg (vp_nar .boolean 0)) (1 : Int32).toNatClampNeg (vp_nar .boolean 0)) (2 : Int32).toNatClampNeg (vp_nar .boolean 0)) (3 : Int32).toNatClampNeg (vp_nar .boolean 0)) (4 : Int32).toNatClampNeg (vp_nar .boolean 0)) (5 : Int32).toNatClampNeg (vp_nar .boolean 0)) (6 : Int32).toNatClampNeg (vp_nar .boolean 0)) (7 : Int32).toNatClampNeg (vp_nar .boolean 0)) (8 : Int32).toNatClampNeg (vp_nar .boolean 0)) (9 : Int32).toNatClampNeg (vp_nar .boolean 0)) (10 : Int32).toNatClampNeg (vp_nar .boolean 0)) (11 : Int32).toNatClampNeg (vp_nar .boolean 0)) (12 : Int32).toNatClampNeg (vp_nar .boolean 0)) (13 : Int32).toNatClampNeg (vp_nar .boolean 0)) (14 : Int32).toNatClampNeg (vp_nar .boolean 0)))), (q20, .inl (k2, 15360, .inl (fun _ => 0)))] H := hP
  have hD : va_D A [(q0, .inr (15, [.ref q1, .ref q2, .ref q3, .ref q4, .ref q5, .ref q6, .int 0, .int 1, .ref q7, .int 0, .ref q8, .null, .ref q9, .null, .ref q10, .ref q11, .ref q12, .ref q13, .ref q14, .int 0, .ref q15, .ref q16, .ref q17, .ref q18, .ref q19, .int 0, .int 0])), (q1, .inl (k0, 24, .inl (fun _ => 0))), (q10, .inl (k1, 24, .inl (upd (upd (upd (upd (upd (upd (upd (upd (upd (upd (upd (upd (upd (upd (upd (fun _ => 0) (0 : Int32).toNatClampNeg (vp_nar .boolean 0)) (1 : Int32).toNatClampNeg (vp_nar .boolean 0)) (2 : Int32).toNatClampNeg (vp_nar .boolean 0)) (3 : Int32).toNatClampNeg (vp_nar .boolean 0)) (4 : Int32).toNatClampNeg (vp_nar .boolean 0)) (5 : Int32).toNatClampNeg (vp_nar .boolean 0)) (6 : Int32).toNatClampNeg (vp_nar .boolean 0)) (7 : Int32).toNatClampNeg (vp_nar .boolean 0)) (8 : Int32).toNatClampNeg (vp_nar .boolean 0)) (9 : Int32).toNatClampNeg (vp_nar .boolean 0)) (10 : Int32).toNatClampNeg (vp_nar .boolean 0)) (11 : Int32).toNatClampNeg (vp_nar .boolean 0)) (12 : Int32).toNatClampNeg (vp_nar .boolean 0)) (13 : Int32).toNatClampNeg (vp_nar .boolean 0)) (14 : Int32).toNatClampNeg (vp_nar .boolean 0)))), (q20, .inl (k2, 15360, .inl (fun _ => 0)))] := hD
  refine lv_aload_n hx hb dX13_write_33 rfl (lv_at hl 3 rfl) ?_
  refine va_get (D := (dC, dI)) (ci := 15) (v := .ref q1) (C := RX13) (T := TX13) (N := 27) hx hb hts (fun _ h => List.mem_cons_of_mem _ (List.mem_append_left _ (List.mem_append_right _ h))) hown hK hP 0 rfl rfl 0 (by decide) (hts (.fieldLink RX13 9 "SeekwellModel" "isThere" "[Z") (by decide +kernel)) (fun _ h9 => h9) rfl dX13_write_34 ?_
  refine lv_iload_n hx hb dX13_write_37 rfl (lv_at hl 0 rfl) ?_
  refine va_zald (D := (dC, dI)) hx hb hK hP 1 0 rfl rfl (i := 14) (zin (by decide +kernel)) dX13_write_38 ?_
  refine zt_v (w := .int 0) rfl ?_
  refine lv_if_eq (tgt := 148) hx hb dX13_write_39 (by decide) (fun _ => ?_) (fun h9 => absurd (show (0 : Int32) = (0 : Int32) by decide +kernel) h9)
  refine lv_iinc (v := 15) (lv' := [(3, .int 15), (2, .int 0), (1, .ref q20), (0, .ref q0)]) hx hb dX13_write_148 hl (k := 0) rfl (by decide +kernel) (by decide) rfl (fun ls hl => ?_)
  refine lv_goto (tgt := 15) hx hb dX13_write_151 (by decide) ?_
  refine lv_iload_n hx hb dX13_write_15 rfl (lv_at hl 0 rfl) ?_
  refine lv_bipush (v := 24) hx hb dX13_write_16 (by decide +kernel) ?_
  refine lv_icmp_ge (tgt := 154) hx hb dX13_write_18 (by decide) (fun h9 => absurd h9 (show ¬ (24 : Int32) ≤ (15 : Int32) by decide +kernel)) (fun _ => ?_)
  refine lv_aload_n hx hb dX13_write_21 rfl (lv_at hl 3 rfl) ?_
  refine va_get (D := (dC, dI)) (ci := 15) (v := .ref q10) (C := RX13) (T := TX13) (N := 27) hx hb hts (fun _ h => List.mem_cons_of_mem _ (List.mem_append_left _ (List.mem_append_right _ h))) hown hK hP 0 rfl rfl 14 (by decide) (hts (.fieldLink RX13 49 "SeekwellModel" "wasThere" "[Z") (by decide +kernel)) (fun _ h9 => h9) rfl dX13_write_22 ?_
  refine lv_iload_n hx hb dX13_write_25 rfl (lv_at hl 0 rfl) ?_
  refine lv_aload_n hx hb dX13_write_26 rfl (lv_at hl 3 rfl) ?_
  refine va_get (D := (dC, dI)) (ci := 15) (v := .ref q1) (C := RX13) (T := TX13) (N := 27) hx hb hts (fun _ h => List.mem_cons_of_mem _ (List.mem_append_left _ (List.mem_append_right _ h))) hown hK hP 0 rfl rfl 0 (by decide) (hts (.fieldLink RX13 9 "SeekwellModel" "isThere" "[Z") (by decide +kernel)) (fun _ h9 => h9) rfl dX13_write_27 ?_
  refine lv_iload_n hx hb dX13_write_30 rfl (lv_at hl 0 rfl) ?_
  refine va_zald (D := (dC, dI)) hx hb hK hP 1 0 rfl rfl (i := 15) (zin (by decide +kernel)) dX13_write_31 ?_
  refine zt_v (w := .int 0) rfl ?_
  refine va_zast (D := (dC, dI)) hx hb hK hP hD hS 2 1 rfl rfl (i := 15) (x := 0) (zin (by decide +kernel)) dX13_write_32 (fun H locs hP hD hS => ?_)
  have hP : va_P (dC, dI) vwCl [(q0, .inr (15, [.ref q1, .ref q2, .ref q3, .ref q4, .ref q5, .ref q6, .int 0, .int 1, .ref q7, .int 0, .ref q8, .null, .ref q9, .null, .ref q10, .ref q11, .ref q12, .ref q13, .ref q14, .int 0, .ref q15, .ref q16, .ref q17, .ref q18, .ref q19, .int 0, .int 0])), (q1, .inl (k0, 24, .inl (fun _ => 0))), (q10, .inl (k1, 24, .inl (upd (upd (upd (upd (upd (upd (upd (upd (upd (upd (upd (upd (upd (upd (upd (upd (fun _ => 0) (0 : Int32).toNatClampNeg (vp_nar .boolean 0)) (1 : Int32).toNatClampNeg (vp_nar .boolean 0)) (2 : Int32).toNatClampNeg (vp_nar .boolean 0)) (3 : Int32).toNatClampNeg (vp_nar .boolean 0)) (4 : Int32).toNatClampNeg (vp_nar .boolean 0)) (5 : Int32).toNatClampNeg (vp_nar .boolean 0)) (6 : Int32).toNatClampNeg (vp_nar .boolean 0)) (7 : Int32).toNatClampNeg (vp_nar .boolean 0)) (8 : Int32).toNatClampNeg (vp_nar .boolean 0)) (9 : Int32).toNatClampNeg (vp_nar .boolean 0)) (10 : Int32).toNatClampNeg (vp_nar .boolean 0)) (11 : Int32).toNatClampNeg (vp_nar .boolean 0)) (12 : Int32).toNatClampNeg (vp_nar .boolean 0)) (13 : Int32).toNatClampNeg (vp_nar .boolean 0)) (14 : Int32).toNatClampNeg (vp_nar .boolean 0)) (15 : Int32).toNatClampNeg (vp_nar .boolean 0)))), (q20, .inl (k2, 15360, .inl (fun _ => 0)))] H := hP
  have hD : va_D A [(q0, .inr (15, [.ref q1, .ref q2, .ref q3, .ref q4, .ref q5, .ref q6, .int 0, .int 1, .ref q7, .int 0, .ref q8, .null, .ref q9, .null, .ref q10, .ref q11, .ref q12, .ref q13, .ref q14, .int 0, .ref q15, .ref q16, .ref q17, .ref q18, .ref q19, .int 0, .int 0])), (q1, .inl (k0, 24, .inl (fun _ => 0))), (q10, .inl (k1, 24, .inl (upd (upd (upd (upd (upd (upd (upd (upd (upd (upd (upd (upd (upd (upd (upd (upd (fun _ => 0) (0 : Int32).toNatClampNeg (vp_nar .boolean 0)) (1 : Int32).toNatClampNeg (vp_nar .boolean 0)) (2 : Int32).toNatClampNeg (vp_nar .boolean 0)) (3 : Int32).toNatClampNeg (vp_nar .boolean 0)) (4 : Int32).toNatClampNeg (vp_nar .boolean 0)) (5 : Int32).toNatClampNeg (vp_nar .boolean 0)) (6 : Int32).toNatClampNeg (vp_nar .boolean 0)) (7 : Int32).toNatClampNeg (vp_nar .boolean 0)) (8 : Int32).toNatClampNeg (vp_nar .boolean 0)) (9 : Int32).toNatClampNeg (vp_nar .boolean 0)) (10 : Int32).toNatClampNeg (vp_nar .boolean 0)) (11 : Int32).toNatClampNeg (vp_nar .boolean 0)) (12 : Int32).toNatClampNeg (vp_nar .boolean 0)) (13 : Int32).toNatClampNeg (vp_nar .boolean 0)) (14 : Int32).toNatClampNeg (vp_nar .boolean 0)) (15 : Int32).toNatClampNeg (vp_nar .boolean 0)))), (q20, .inl (k2, 15360, .inl (fun _ => 0)))] := hD
  refine lv_aload_n hx hb dX13_write_33 rfl (lv_at hl 3 rfl) ?_
  refine va_get (D := (dC, dI)) (ci := 15) (v := .ref q1) (C := RX13) (T := TX13) (N := 27) hx hb hts (fun _ h => List.mem_cons_of_mem _ (List.mem_append_left _ (List.mem_append_right _ h))) hown hK hP 0 rfl rfl 0 (by decide) (hts (.fieldLink RX13 9 "SeekwellModel" "isThere" "[Z") (by decide +kernel)) (fun _ h9 => h9) rfl dX13_write_34 ?_
  refine lv_iload_n hx hb dX13_write_37 rfl (lv_at hl 0 rfl) ?_
  refine va_zald (D := (dC, dI)) hx hb hK hP 1 0 rfl rfl (i := 15) (zin (by decide +kernel)) dX13_write_38 ?_
  refine zt_v (w := .int 0) rfl ?_
  refine lv_if_eq (tgt := 148) hx hb dX13_write_39 (by decide) (fun _ => ?_) (fun h9 => absurd (show (0 : Int32) = (0 : Int32) by decide +kernel) h9)
  refine lv_iinc (v := 16) (lv' := [(3, .int 16), (2, .int 0), (1, .ref q20), (0, .ref q0)]) hx hb dX13_write_148 hl (k := 0) rfl (by decide +kernel) (by decide) rfl (fun ls hl => ?_)
  refine lv_goto (tgt := 15) hx hb dX13_write_151 (by decide) ?_
  refine lv_iload_n hx hb dX13_write_15 rfl (lv_at hl 0 rfl) ?_
  refine lv_bipush (v := 24) hx hb dX13_write_16 (by decide +kernel) ?_
  refine lv_icmp_ge (tgt := 154) hx hb dX13_write_18 (by decide) (fun h9 => absurd h9 (show ¬ (24 : Int32) ≤ (16 : Int32) by decide +kernel)) (fun _ => ?_)
  refine lv_aload_n hx hb dX13_write_21 rfl (lv_at hl 3 rfl) ?_
  refine va_get (D := (dC, dI)) (ci := 15) (v := .ref q10) (C := RX13) (T := TX13) (N := 27) hx hb hts (fun _ h => List.mem_cons_of_mem _ (List.mem_append_left _ (List.mem_append_right _ h))) hown hK hP 0 rfl rfl 14 (by decide) (hts (.fieldLink RX13 49 "SeekwellModel" "wasThere" "[Z") (by decide +kernel)) (fun _ h9 => h9) rfl dX13_write_22 ?_
  refine lv_iload_n hx hb dX13_write_25 rfl (lv_at hl 0 rfl) ?_
  refine lv_aload_n hx hb dX13_write_26 rfl (lv_at hl 3 rfl) ?_
  refine va_get (D := (dC, dI)) (ci := 15) (v := .ref q1) (C := RX13) (T := TX13) (N := 27) hx hb hts (fun _ h => List.mem_cons_of_mem _ (List.mem_append_left _ (List.mem_append_right _ h))) hown hK hP 0 rfl rfl 0 (by decide) (hts (.fieldLink RX13 9 "SeekwellModel" "isThere" "[Z") (by decide +kernel)) (fun _ h9 => h9) rfl dX13_write_27 ?_
  refine lv_iload_n hx hb dX13_write_30 rfl (lv_at hl 0 rfl) ?_
  refine va_zald (D := (dC, dI)) hx hb hK hP 1 0 rfl rfl (i := 16) (zin (by decide +kernel)) dX13_write_31 ?_
  refine zt_v (w := .int 0) rfl ?_
  refine va_zast (D := (dC, dI)) hx hb hK hP hD hS 2 1 rfl rfl (i := 16) (x := 0) (zin (by decide +kernel)) dX13_write_32 (fun H locs hP hD hS => ?_)
  have hP : va_P (dC, dI) vwCl [(q0, .inr (15, [.ref q1, .ref q2, .ref q3, .ref q4, .ref q5, .ref q6, .int 0, .int 1, .ref q7, .int 0, .ref q8, .null, .ref q9, .null, .ref q10, .ref q11, .ref q12, .ref q13, .ref q14, .int 0, .ref q15, .ref q16, .ref q17, .ref q18, .ref q19, .int 0, .int 0])), (q1, .inl (k0, 24, .inl (fun _ => 0))), (q10, .inl (k1, 24, .inl (upd (upd (upd (upd (upd (upd (upd (upd (upd (upd (upd (upd (upd (upd (upd (upd (upd (fun _ => 0) (0 : Int32).toNatClampNeg (vp_nar .boolean 0)) (1 : Int32).toNatClampNeg (vp_nar .boolean 0)) (2 : Int32).toNatClampNeg (vp_nar .boolean 0)) (3 : Int32).toNatClampNeg (vp_nar .boolean 0)) (4 : Int32).toNatClampNeg (vp_nar .boolean 0)) (5 : Int32).toNatClampNeg (vp_nar .boolean 0)) (6 : Int32).toNatClampNeg (vp_nar .boolean 0)) (7 : Int32).toNatClampNeg (vp_nar .boolean 0)) (8 : Int32).toNatClampNeg (vp_nar .boolean 0)) (9 : Int32).toNatClampNeg (vp_nar .boolean 0)) (10 : Int32).toNatClampNeg (vp_nar .boolean 0)) (11 : Int32).toNatClampNeg (vp_nar .boolean 0)) (12 : Int32).toNatClampNeg (vp_nar .boolean 0)) (13 : Int32).toNatClampNeg (vp_nar .boolean 0)) (14 : Int32).toNatClampNeg (vp_nar .boolean 0)) (15 : Int32).toNatClampNeg (vp_nar .boolean 0)) (16 : Int32).toNatClampNeg (vp_nar .boolean 0)))), (q20, .inl (k2, 15360, .inl (fun _ => 0)))] H := hP
  have hD : va_D A [(q0, .inr (15, [.ref q1, .ref q2, .ref q3, .ref q4, .ref q5, .ref q6, .int 0, .int 1, .ref q7, .int 0, .ref q8, .null, .ref q9, .null, .ref q10, .ref q11, .ref q12, .ref q13, .ref q14, .int 0, .ref q15, .ref q16, .ref q17, .ref q18, .ref q19, .int 0, .int 0])), (q1, .inl (k0, 24, .inl (fun _ => 0))), (q10, .inl (k1, 24, .inl (upd (upd (upd (upd (upd (upd (upd (upd (upd (upd (upd (upd (upd (upd (upd (upd (upd (fun _ => 0) (0 : Int32).toNatClampNeg (vp_nar .boolean 0)) (1 : Int32).toNatClampNeg (vp_nar .boolean 0)) (2 : Int32).toNatClampNeg (vp_nar .boolean 0)) (3 : Int32).toNatClampNeg (vp_nar .boolean 0)) (4 : Int32).toNatClampNeg (vp_nar .boolean 0)) (5 : Int32).toNatClampNeg (vp_nar .boolean 0)) (6 : Int32).toNatClampNeg (vp_nar .boolean 0)) (7 : Int32).toNatClampNeg (vp_nar .boolean 0)) (8 : Int32).toNatClampNeg (vp_nar .boolean 0)) (9 : Int32).toNatClampNeg (vp_nar .boolean 0)) (10 : Int32).toNatClampNeg (vp_nar .boolean 0)) (11 : Int32).toNatClampNeg (vp_nar .boolean 0)) (12 : Int32).toNatClampNeg (vp_nar .boolean 0)) (13 : Int32).toNatClampNeg (vp_nar .boolean 0)) (14 : Int32).toNatClampNeg (vp_nar .boolean 0)) (15 : Int32).toNatClampNeg (vp_nar .boolean 0)) (16 : Int32).toNatClampNeg (vp_nar .boolean 0)))), (q20, .inl (k2, 15360, .inl (fun _ => 0)))] := hD
  refine lv_aload_n hx hb dX13_write_33 rfl (lv_at hl 3 rfl) ?_
  refine va_get (D := (dC, dI)) (ci := 15) (v := .ref q1) (C := RX13) (T := TX13) (N := 27) hx hb hts (fun _ h => List.mem_cons_of_mem _ (List.mem_append_left _ (List.mem_append_right _ h))) hown hK hP 0 rfl rfl 0 (by decide) (hts (.fieldLink RX13 9 "SeekwellModel" "isThere" "[Z") (by decide +kernel)) (fun _ h9 => h9) rfl dX13_write_34 ?_
  refine lv_iload_n hx hb dX13_write_37 rfl (lv_at hl 0 rfl) ?_
  refine va_zald (D := (dC, dI)) hx hb hK hP 1 0 rfl rfl (i := 16) (zin (by decide +kernel)) dX13_write_38 ?_
  refine zt_v (w := .int 0) rfl ?_
  refine lv_if_eq (tgt := 148) hx hb dX13_write_39 (by decide) (fun _ => ?_) (fun h9 => absurd (show (0 : Int32) = (0 : Int32) by decide +kernel) h9)
  refine lv_iinc (v := 17) (lv' := [(3, .int 17), (2, .int 0), (1, .ref q20), (0, .ref q0)]) hx hb dX13_write_148 hl (k := 0) rfl (by decide +kernel) (by decide) rfl (fun ls hl => ?_)
  refine lv_goto (tgt := 15) hx hb dX13_write_151 (by decide) ?_
  refine lv_iload_n hx hb dX13_write_15 rfl (lv_at hl 0 rfl) ?_
  refine lv_bipush (v := 24) hx hb dX13_write_16 (by decide +kernel) ?_
  refine lv_icmp_ge (tgt := 154) hx hb dX13_write_18 (by decide) (fun h9 => absurd h9 (show ¬ (24 : Int32) ≤ (17 : Int32) by decide +kernel)) (fun _ => ?_)
  refine lv_aload_n hx hb dX13_write_21 rfl (lv_at hl 3 rfl) ?_
  refine va_get (D := (dC, dI)) (ci := 15) (v := .ref q10) (C := RX13) (T := TX13) (N := 27) hx hb hts (fun _ h => List.mem_cons_of_mem _ (List.mem_append_left _ (List.mem_append_right _ h))) hown hK hP 0 rfl rfl 14 (by decide) (hts (.fieldLink RX13 49 "SeekwellModel" "wasThere" "[Z") (by decide +kernel)) (fun _ h9 => h9) rfl dX13_write_22 ?_
  refine lv_iload_n hx hb dX13_write_25 rfl (lv_at hl 0 rfl) ?_
  refine lv_aload_n hx hb dX13_write_26 rfl (lv_at hl 3 rfl) ?_
  refine va_get (D := (dC, dI)) (ci := 15) (v := .ref q1) (C := RX13) (T := TX13) (N := 27) hx hb hts (fun _ h => List.mem_cons_of_mem _ (List.mem_append_left _ (List.mem_append_right _ h))) hown hK hP 0 rfl rfl 0 (by decide) (hts (.fieldLink RX13 9 "SeekwellModel" "isThere" "[Z") (by decide +kernel)) (fun _ h9 => h9) rfl dX13_write_27 ?_
  refine lv_iload_n hx hb dX13_write_30 rfl (lv_at hl 0 rfl) ?_
  refine va_zald (D := (dC, dI)) hx hb hK hP 1 0 rfl rfl (i := 17) (zin (by decide +kernel)) dX13_write_31 ?_
  refine zt_v (w := .int 0) rfl ?_
  refine va_zast (D := (dC, dI)) hx hb hK hP hD hS 2 1 rfl rfl (i := 17) (x := 0) (zin (by decide +kernel)) dX13_write_32 (fun H locs hP hD hS => ?_)
  have hP : va_P (dC, dI) vwCl [(q0, .inr (15, [.ref q1, .ref q2, .ref q3, .ref q4, .ref q5, .ref q6, .int 0, .int 1, .ref q7, .int 0, .ref q8, .null, .ref q9, .null, .ref q10, .ref q11, .ref q12, .ref q13, .ref q14, .int 0, .ref q15, .ref q16, .ref q17, .ref q18, .ref q19, .int 0, .int 0])), (q1, .inl (k0, 24, .inl (fun _ => 0))), (q10, .inl (k1, 24, .inl (upd (upd (upd (upd (upd (upd (upd (upd (upd (upd (upd (upd (upd (upd (upd (upd (upd (upd (fun _ => 0) (0 : Int32).toNatClampNeg (vp_nar .boolean 0)) (1 : Int32).toNatClampNeg (vp_nar .boolean 0)) (2 : Int32).toNatClampNeg (vp_nar .boolean 0)) (3 : Int32).toNatClampNeg (vp_nar .boolean 0)) (4 : Int32).toNatClampNeg (vp_nar .boolean 0)) (5 : Int32).toNatClampNeg (vp_nar .boolean 0)) (6 : Int32).toNatClampNeg (vp_nar .boolean 0)) (7 : Int32).toNatClampNeg (vp_nar .boolean 0)) (8 : Int32).toNatClampNeg (vp_nar .boolean 0)) (9 : Int32).toNatClampNeg (vp_nar .boolean 0)) (10 : Int32).toNatClampNeg (vp_nar .boolean 0)) (11 : Int32).toNatClampNeg (vp_nar .boolean 0)) (12 : Int32).toNatClampNeg (vp_nar .boolean 0)) (13 : Int32).toNatClampNeg (vp_nar .boolean 0)) (14 : Int32).toNatClampNeg (vp_nar .boolean 0)) (15 : Int32).toNatClampNeg (vp_nar .boolean 0)) (16 : Int32).toNatClampNeg (vp_nar .boolean 0)) (17 : Int32).toNatClampNeg (vp_nar .boolean 0)))), (q20, .inl (k2, 15360, .inl (fun _ => 0)))] H := hP
  have hD : va_D A [(q0, .inr (15, [.ref q1, .ref q2, .ref q3, .ref q4, .ref q5, .ref q6, .int 0, .int 1, .ref q7, .int 0, .ref q8, .null, .ref q9, .null, .ref q10, .ref q11, .ref q12, .ref q13, .ref q14, .int 0, .ref q15, .ref q16, .ref q17, .ref q18, .ref q19, .int 0, .int 0])), (q1, .inl (k0, 24, .inl (fun _ => 0))), (q10, .inl (k1, 24, .inl (upd (upd (upd (upd (upd (upd (upd (upd (upd (upd (upd (upd (upd (upd (upd (upd (upd (upd (fun _ => 0) (0 : Int32).toNatClampNeg (vp_nar .boolean 0)) (1 : Int32).toNatClampNeg (vp_nar .boolean 0)) (2 : Int32).toNatClampNeg (vp_nar .boolean 0)) (3 : Int32).toNatClampNeg (vp_nar .boolean 0)) (4 : Int32).toNatClampNeg (vp_nar .boolean 0)) (5 : Int32).toNatClampNeg (vp_nar .boolean 0)) (6 : Int32).toNatClampNeg (vp_nar .boolean 0)) (7 : Int32).toNatClampNeg (vp_nar .boolean 0)) (8 : Int32).toNatClampNeg (vp_nar .boolean 0)) (9 : Int32).toNatClampNeg (vp_nar .boolean 0)) (10 : Int32).toNatClampNeg (vp_nar .boolean 0)) (11 : Int32).toNatClampNeg (vp_nar .boolean 0)) (12 : Int32).toNatClampNeg (vp_nar .boolean 0)) (13 : Int32).toNatClampNeg (vp_nar .boolean 0)) (14 : Int32).toNatClampNeg (vp_nar .boolean 0)) (15 : Int32).toNatClampNeg (vp_nar .boolean 0)) (16 : Int32).toNatClampNeg (vp_nar .boolean 0)) (17 : Int32).toNatClampNeg (vp_nar .boolean 0)))), (q20, .inl (k2, 15360, .inl (fun _ => 0)))] := hD
  refine lv_aload_n hx hb dX13_write_33 rfl (lv_at hl 3 rfl) ?_
  refine va_get (D := (dC, dI)) (ci := 15) (v := .ref q1) (C := RX13) (T := TX13) (N := 27) hx hb hts (fun _ h => List.mem_cons_of_mem _ (List.mem_append_left _ (List.mem_append_right _ h))) hown hK hP 0 rfl rfl 0 (by decide) (hts (.fieldLink RX13 9 "SeekwellModel" "isThere" "[Z") (by decide +kernel)) (fun _ h9 => h9) rfl dX13_write_34 ?_
  refine lv_iload_n hx hb dX13_write_37 rfl (lv_at hl 0 rfl) ?_
  refine va_zald (D := (dC, dI)) hx hb hK hP 1 0 rfl rfl (i := 17) (zin (by decide +kernel)) dX13_write_38 ?_
  refine zt_v (w := .int 0) rfl ?_
  refine lv_if_eq (tgt := 148) hx hb dX13_write_39 (by decide) (fun _ => ?_) (fun h9 => absurd (show (0 : Int32) = (0 : Int32) by decide +kernel) h9)
  refine lv_iinc (v := 18) (lv' := [(3, .int 18), (2, .int 0), (1, .ref q20), (0, .ref q0)]) hx hb dX13_write_148 hl (k := 0) rfl (by decide +kernel) (by decide) rfl (fun ls hl => ?_)
  refine lv_goto (tgt := 15) hx hb dX13_write_151 (by decide) ?_
  refine lv_iload_n hx hb dX13_write_15 rfl (lv_at hl 0 rfl) ?_
  refine lv_bipush (v := 24) hx hb dX13_write_16 (by decide +kernel) ?_
  refine lv_icmp_ge (tgt := 154) hx hb dX13_write_18 (by decide) (fun h9 => absurd h9 (show ¬ (24 : Int32) ≤ (18 : Int32) by decide +kernel)) (fun _ => ?_)
  refine lv_aload_n hx hb dX13_write_21 rfl (lv_at hl 3 rfl) ?_
  refine va_get (D := (dC, dI)) (ci := 15) (v := .ref q10) (C := RX13) (T := TX13) (N := 27) hx hb hts (fun _ h => List.mem_cons_of_mem _ (List.mem_append_left _ (List.mem_append_right _ h))) hown hK hP 0 rfl rfl 14 (by decide) (hts (.fieldLink RX13 49 "SeekwellModel" "wasThere" "[Z") (by decide +kernel)) (fun _ h9 => h9) rfl dX13_write_22 ?_
  refine lv_iload_n hx hb dX13_write_25 rfl (lv_at hl 0 rfl) ?_
  refine lv_aload_n hx hb dX13_write_26 rfl (lv_at hl 3 rfl) ?_
  refine va_get (D := (dC, dI)) (ci := 15) (v := .ref q1) (C := RX13) (T := TX13) (N := 27) hx hb hts (fun _ h => List.mem_cons_of_mem _ (List.mem_append_left _ (List.mem_append_right _ h))) hown hK hP 0 rfl rfl 0 (by decide) (hts (.fieldLink RX13 9 "SeekwellModel" "isThere" "[Z") (by decide +kernel)) (fun _ h9 => h9) rfl dX13_write_27 ?_
  refine lv_iload_n hx hb dX13_write_30 rfl (lv_at hl 0 rfl) ?_
  refine va_zald (D := (dC, dI)) hx hb hK hP 1 0 rfl rfl (i := 18) (zin (by decide +kernel)) dX13_write_31 ?_
  refine zt_v (w := .int 0) rfl ?_
  refine va_zast (D := (dC, dI)) hx hb hK hP hD hS 2 1 rfl rfl (i := 18) (x := 0) (zin (by decide +kernel)) dX13_write_32 (fun H locs hP hD hS => ?_)
  have hP : va_P (dC, dI) vwCl [(q0, .inr (15, [.ref q1, .ref q2, .ref q3, .ref q4, .ref q5, .ref q6, .int 0, .int 1, .ref q7, .int 0, .ref q8, .null, .ref q9, .null, .ref q10, .ref q11, .ref q12, .ref q13, .ref q14, .int 0, .ref q15, .ref q16, .ref q17, .ref q18, .ref q19, .int 0, .int 0])), (q1, .inl (k0, 24, .inl (fun _ => 0))), (q10, .inl (k1, 24, .inl (upd (upd (upd (upd (upd (upd (upd (upd (upd (upd (upd (upd (upd (upd (upd (upd (upd (upd (upd (fun _ => 0) (0 : Int32).toNatClampNeg (vp_nar .boolean 0)) (1 : Int32).toNatClampNeg (vp_nar .boolean 0)) (2 : Int32).toNatClampNeg (vp_nar .boolean 0)) (3 : Int32).toNatClampNeg (vp_nar .boolean 0)) (4 : Int32).toNatClampNeg (vp_nar .boolean 0)) (5 : Int32).toNatClampNeg (vp_nar .boolean 0)) (6 : Int32).toNatClampNeg (vp_nar .boolean 0)) (7 : Int32).toNatClampNeg (vp_nar .boolean 0)) (8 : Int32).toNatClampNeg (vp_nar .boolean 0)) (9 : Int32).toNatClampNeg (vp_nar .boolean 0)) (10 : Int32).toNatClampNeg (vp_nar .boolean 0)) (11 : Int32).toNatClampNeg (vp_nar .boolean 0)) (12 : Int32).toNatClampNeg (vp_nar .boolean 0)) (13 : Int32).toNatClampNeg (vp_nar .boolean 0)) (14 : Int32).toNatClampNeg (vp_nar .boolean 0)) (15 : Int32).toNatClampNeg (vp_nar .boolean 0)) (16 : Int32).toNatClampNeg (vp_nar .boolean 0)) (17 : Int32).toNatClampNeg (vp_nar .boolean 0)) (18 : Int32).toNatClampNeg (vp_nar .boolean 0)))), (q20, .inl (k2, 15360, .inl (fun _ => 0)))] H := hP
  have hD : va_D A [(q0, .inr (15, [.ref q1, .ref q2, .ref q3, .ref q4, .ref q5, .ref q6, .int 0, .int 1, .ref q7, .int 0, .ref q8, .null, .ref q9, .null, .ref q10, .ref q11, .ref q12, .ref q13, .ref q14, .int 0, .ref q15, .ref q16, .ref q17, .ref q18, .ref q19, .int 0, .int 0])), (q1, .inl (k0, 24, .inl (fun _ => 0))), (q10, .inl (k1, 24, .inl (upd (upd (upd (upd (upd (upd (upd (upd (upd (upd (upd (upd (upd (upd (upd (upd (upd (upd (upd (fun _ => 0) (0 : Int32).toNatClampNeg (vp_nar .boolean 0)) (1 : Int32).toNatClampNeg (vp_nar .boolean 0)) (2 : Int32).toNatClampNeg (vp_nar .boolean 0)) (3 : Int32).toNatClampNeg (vp_nar .boolean 0)) (4 : Int32).toNatClampNeg (vp_nar .boolean 0)) (5 : Int32).toNatClampNeg (vp_nar .boolean 0)) (6 : Int32).toNatClampNeg (vp_nar .boolean 0)) (7 : Int32).toNatClampNeg (vp_nar .boolean 0)) (8 : Int32).toNatClampNeg (vp_nar .boolean 0)) (9 : Int32).toNatClampNeg (vp_nar .boolean 0)) (10 : Int32).toNatClampNeg (vp_nar .boolean 0)) (11 : Int32).toNatClampNeg (vp_nar .boolean 0)) (12 : Int32).toNatClampNeg (vp_nar .boolean 0)) (13 : Int32).toNatClampNeg (vp_nar .boolean 0)) (14 : Int32).toNatClampNeg (vp_nar .boolean 0)) (15 : Int32).toNatClampNeg (vp_nar .boolean 0)) (16 : Int32).toNatClampNeg (vp_nar .boolean 0)) (17 : Int32).toNatClampNeg (vp_nar .boolean 0)) (18 : Int32).toNatClampNeg (vp_nar .boolean 0)))), (q20, .inl (k2, 15360, .inl (fun _ => 0)))] := hD
  refine lv_aload_n hx hb dX13_write_33 rfl (lv_at hl 3 rfl) ?_
  refine va_get (D := (dC, dI)) (ci := 15) (v := .ref q1) (C := RX13) (T := TX13) (N := 27) hx hb hts (fun _ h => List.mem_cons_of_mem _ (List.mem_append_left _ (List.mem_append_right _ h))) hown hK hP 0 rfl rfl 0 (by decide) (hts (.fieldLink RX13 9 "SeekwellModel" "isThere" "[Z") (by decide +kernel)) (fun _ h9 => h9) rfl dX13_write_34 ?_
  refine lv_iload_n hx hb dX13_write_37 rfl (lv_at hl 0 rfl) ?_
  refine va_zald (D := (dC, dI)) hx hb hK hP 1 0 rfl rfl (i := 18) (zin (by decide +kernel)) dX13_write_38 ?_
  refine zt_v (w := .int 0) rfl ?_
  refine lv_if_eq (tgt := 148) hx hb dX13_write_39 (by decide) (fun _ => ?_) (fun h9 => absurd (show (0 : Int32) = (0 : Int32) by decide +kernel) h9)
  refine lv_iinc (v := 19) (lv' := [(3, .int 19), (2, .int 0), (1, .ref q20), (0, .ref q0)]) hx hb dX13_write_148 hl (k := 0) rfl (by decide +kernel) (by decide) rfl (fun ls hl => ?_)
  refine lv_goto (tgt := 15) hx hb dX13_write_151 (by decide) ?_
  refine lv_iload_n hx hb dX13_write_15 rfl (lv_at hl 0 rfl) ?_
  refine lv_bipush (v := 24) hx hb dX13_write_16 (by decide +kernel) ?_
  refine lv_icmp_ge (tgt := 154) hx hb dX13_write_18 (by decide) (fun h9 => absurd h9 (show ¬ (24 : Int32) ≤ (19 : Int32) by decide +kernel)) (fun _ => ?_)
  refine lv_aload_n hx hb dX13_write_21 rfl (lv_at hl 3 rfl) ?_
  refine va_get (D := (dC, dI)) (ci := 15) (v := .ref q10) (C := RX13) (T := TX13) (N := 27) hx hb hts (fun _ h => List.mem_cons_of_mem _ (List.mem_append_left _ (List.mem_append_right _ h))) hown hK hP 0 rfl rfl 14 (by decide) (hts (.fieldLink RX13 49 "SeekwellModel" "wasThere" "[Z") (by decide +kernel)) (fun _ h9 => h9) rfl dX13_write_22 ?_
  refine lv_iload_n hx hb dX13_write_25 rfl (lv_at hl 0 rfl) ?_
  refine lv_aload_n hx hb dX13_write_26 rfl (lv_at hl 3 rfl) ?_
  refine va_get (D := (dC, dI)) (ci := 15) (v := .ref q1) (C := RX13) (T := TX13) (N := 27) hx hb hts (fun _ h => List.mem_cons_of_mem _ (List.mem_append_left _ (List.mem_append_right _ h))) hown hK hP 0 rfl rfl 0 (by decide) (hts (.fieldLink RX13 9 "SeekwellModel" "isThere" "[Z") (by decide +kernel)) (fun _ h9 => h9) rfl dX13_write_27 ?_
  refine lv_iload_n hx hb dX13_write_30 rfl (lv_at hl 0 rfl) ?_
  refine va_zald (D := (dC, dI)) hx hb hK hP 1 0 rfl rfl (i := 19) (zin (by decide +kernel)) dX13_write_31 ?_
  refine zt_v (w := .int 0) rfl ?_
  refine va_zast (D := (dC, dI)) hx hb hK hP hD hS 2 1 rfl rfl (i := 19) (x := 0) (zin (by decide +kernel)) dX13_write_32 (fun H locs hP hD hS => ?_)
  have hP : va_P (dC, dI) vwCl [(q0, .inr (15, [.ref q1, .ref q2, .ref q3, .ref q4, .ref q5, .ref q6, .int 0, .int 1, .ref q7, .int 0, .ref q8, .null, .ref q9, .null, .ref q10, .ref q11, .ref q12, .ref q13, .ref q14, .int 0, .ref q15, .ref q16, .ref q17, .ref q18, .ref q19, .int 0, .int 0])), (q1, .inl (k0, 24, .inl (fun _ => 0))), (q10, .inl (k1, 24, .inl (upd (upd (upd (upd (upd (upd (upd (upd (upd (upd (upd (upd (upd (upd (upd (upd (upd (upd (upd (upd (fun _ => 0) (0 : Int32).toNatClampNeg (vp_nar .boolean 0)) (1 : Int32).toNatClampNeg (vp_nar .boolean 0)) (2 : Int32).toNatClampNeg (vp_nar .boolean 0)) (3 : Int32).toNatClampNeg (vp_nar .boolean 0)) (4 : Int32).toNatClampNeg (vp_nar .boolean 0)) (5 : Int32).toNatClampNeg (vp_nar .boolean 0)) (6 : Int32).toNatClampNeg (vp_nar .boolean 0)) (7 : Int32).toNatClampNeg (vp_nar .boolean 0)) (8 : Int32).toNatClampNeg (vp_nar .boolean 0)) (9 : Int32).toNatClampNeg (vp_nar .boolean 0)) (10 : Int32).toNatClampNeg (vp_nar .boolean 0)) (11 : Int32).toNatClampNeg (vp_nar .boolean 0)) (12 : Int32).toNatClampNeg (vp_nar .boolean 0)) (13 : Int32).toNatClampNeg (vp_nar .boolean 0)) (14 : Int32).toNatClampNeg (vp_nar .boolean 0)) (15 : Int32).toNatClampNeg (vp_nar .boolean 0)) (16 : Int32).toNatClampNeg (vp_nar .boolean 0)) (17 : Int32).toNatClampNeg (vp_nar .boolean 0)) (18 : Int32).toNatClampNeg (vp_nar .boolean 0)) (19 : Int32).toNatClampNeg (vp_nar .boolean 0)))), (q20, .inl (k2, 15360, .inl (fun _ => 0)))] H := hP
  have hD : va_D A [(q0, .inr (15, [.ref q1, .ref q2, .ref q3, .ref q4, .ref q5, .ref q6, .int 0, .int 1, .ref q7, .int 0, .ref q8, .null, .ref q9, .null, .ref q10, .ref q11, .ref q12, .ref q13, .ref q14, .int 0, .ref q15, .ref q16, .ref q17, .ref q18, .ref q19, .int 0, .int 0])), (q1, .inl (k0, 24, .inl (fun _ => 0))), (q10, .inl (k1, 24, .inl (upd (upd (upd (upd (upd (upd (upd (upd (upd (upd (upd (upd (upd (upd (upd (upd (upd (upd (upd (upd (fun _ => 0) (0 : Int32).toNatClampNeg (vp_nar .boolean 0)) (1 : Int32).toNatClampNeg (vp_nar .boolean 0)) (2 : Int32).toNatClampNeg (vp_nar .boolean 0)) (3 : Int32).toNatClampNeg (vp_nar .boolean 0)) (4 : Int32).toNatClampNeg (vp_nar .boolean 0)) (5 : Int32).toNatClampNeg (vp_nar .boolean 0)) (6 : Int32).toNatClampNeg (vp_nar .boolean 0)) (7 : Int32).toNatClampNeg (vp_nar .boolean 0)) (8 : Int32).toNatClampNeg (vp_nar .boolean 0)) (9 : Int32).toNatClampNeg (vp_nar .boolean 0)) (10 : Int32).toNatClampNeg (vp_nar .boolean 0)) (11 : Int32).toNatClampNeg (vp_nar .boolean 0)) (12 : Int32).toNatClampNeg (vp_nar .boolean 0)) (13 : Int32).toNatClampNeg (vp_nar .boolean 0)) (14 : Int32).toNatClampNeg (vp_nar .boolean 0)) (15 : Int32).toNatClampNeg (vp_nar .boolean 0)) (16 : Int32).toNatClampNeg (vp_nar .boolean 0)) (17 : Int32).toNatClampNeg (vp_nar .boolean 0)) (18 : Int32).toNatClampNeg (vp_nar .boolean 0)) (19 : Int32).toNatClampNeg (vp_nar .boolean 0)))), (q20, .inl (k2, 15360, .inl (fun _ => 0)))] := hD
  refine lv_aload_n hx hb dX13_write_33 rfl (lv_at hl 3 rfl) ?_
  refine va_get (D := (dC, dI)) (ci := 15) (v := .ref q1) (C := RX13) (T := TX13) (N := 27) hx hb hts (fun _ h => List.mem_cons_of_mem _ (List.mem_append_left _ (List.mem_append_right _ h))) hown hK hP 0 rfl rfl 0 (by decide) (hts (.fieldLink RX13 9 "SeekwellModel" "isThere" "[Z") (by decide +kernel)) (fun _ h9 => h9) rfl dX13_write_34 ?_
  refine lv_iload_n hx hb dX13_write_37 rfl (lv_at hl 0 rfl) ?_
  refine va_zald (D := (dC, dI)) hx hb hK hP 1 0 rfl rfl (i := 19) (zin (by decide +kernel)) dX13_write_38 ?_
  refine zt_v (w := .int 0) rfl ?_
  refine lv_if_eq (tgt := 148) hx hb dX13_write_39 (by decide) (fun _ => ?_) (fun h9 => absurd (show (0 : Int32) = (0 : Int32) by decide +kernel) h9)
  refine lv_iinc (v := 20) (lv' := [(3, .int 20), (2, .int 0), (1, .ref q20), (0, .ref q0)]) hx hb dX13_write_148 hl (k := 0) rfl (by decide +kernel) (by decide) rfl (fun ls hl => ?_)
  refine lv_goto (tgt := 15) hx hb dX13_write_151 (by decide) ?_
  refine lv_iload_n hx hb dX13_write_15 rfl (lv_at hl 0 rfl) ?_
  refine lv_bipush (v := 24) hx hb dX13_write_16 (by decide +kernel) ?_
  refine lv_icmp_ge (tgt := 154) hx hb dX13_write_18 (by decide) (fun h9 => absurd h9 (show ¬ (24 : Int32) ≤ (20 : Int32) by decide +kernel)) (fun _ => ?_)
  refine lv_aload_n hx hb dX13_write_21 rfl (lv_at hl 3 rfl) ?_
  refine va_get (D := (dC, dI)) (ci := 15) (v := .ref q10) (C := RX13) (T := TX13) (N := 27) hx hb hts (fun _ h => List.mem_cons_of_mem _ (List.mem_append_left _ (List.mem_append_right _ h))) hown hK hP 0 rfl rfl 14 (by decide) (hts (.fieldLink RX13 49 "SeekwellModel" "wasThere" "[Z") (by decide +kernel)) (fun _ h9 => h9) rfl dX13_write_22 ?_
  refine lv_iload_n hx hb dX13_write_25 rfl (lv_at hl 0 rfl) ?_
  refine lv_aload_n hx hb dX13_write_26 rfl (lv_at hl 3 rfl) ?_
  refine va_get (D := (dC, dI)) (ci := 15) (v := .ref q1) (C := RX13) (T := TX13) (N := 27) hx hb hts (fun _ h => List.mem_cons_of_mem _ (List.mem_append_left _ (List.mem_append_right _ h))) hown hK hP 0 rfl rfl 0 (by decide) (hts (.fieldLink RX13 9 "SeekwellModel" "isThere" "[Z") (by decide +kernel)) (fun _ h9 => h9) rfl dX13_write_27 ?_
  refine lv_iload_n hx hb dX13_write_30 rfl (lv_at hl 0 rfl) ?_
  refine va_zald (D := (dC, dI)) hx hb hK hP 1 0 rfl rfl (i := 20) (zin (by decide +kernel)) dX13_write_31 ?_
  refine zt_v (w := .int 0) rfl ?_
  refine va_zast (D := (dC, dI)) hx hb hK hP hD hS 2 1 rfl rfl (i := 20) (x := 0) (zin (by decide +kernel)) dX13_write_32 (fun H locs hP hD hS => ?_)
  have hP : va_P (dC, dI) vwCl [(q0, .inr (15, [.ref q1, .ref q2, .ref q3, .ref q4, .ref q5, .ref q6, .int 0, .int 1, .ref q7, .int 0, .ref q8, .null, .ref q9, .null, .ref q10, .ref q11, .ref q12, .ref q13, .ref q14, .int 0, .ref q15, .ref q16, .ref q17, .ref q18, .ref q19, .int 0, .int 0])), (q1, .inl (k0, 24, .inl (fun _ => 0))), (q10, .inl (k1, 24, .inl (upd (upd (upd (upd (upd (upd (upd (upd (upd (upd (upd (upd (upd (upd (upd (upd (upd (upd (upd (upd (upd (fun _ => 0) (0 : Int32).toNatClampNeg (vp_nar .boolean 0)) (1 : Int32).toNatClampNeg (vp_nar .boolean 0)) (2 : Int32).toNatClampNeg (vp_nar .boolean 0)) (3 : Int32).toNatClampNeg (vp_nar .boolean 0)) (4 : Int32).toNatClampNeg (vp_nar .boolean 0)) (5 : Int32).toNatClampNeg (vp_nar .boolean 0)) (6 : Int32).toNatClampNeg (vp_nar .boolean 0)) (7 : Int32).toNatClampNeg (vp_nar .boolean 0)) (8 : Int32).toNatClampNeg (vp_nar .boolean 0)) (9 : Int32).toNatClampNeg (vp_nar .boolean 0)) (10 : Int32).toNatClampNeg (vp_nar .boolean 0)) (11 : Int32).toNatClampNeg (vp_nar .boolean 0)) (12 : Int32).toNatClampNeg (vp_nar .boolean 0)) (13 : Int32).toNatClampNeg (vp_nar .boolean 0)) (14 : Int32).toNatClampNeg (vp_nar .boolean 0)) (15 : Int32).toNatClampNeg (vp_nar .boolean 0)) (16 : Int32).toNatClampNeg (vp_nar .boolean 0)) (17 : Int32).toNatClampNeg (vp_nar .boolean 0)) (18 : Int32).toNatClampNeg (vp_nar .boolean 0)) (19 : Int32).toNatClampNeg (vp_nar .boolean 0)) (20 : Int32).toNatClampNeg (vp_nar .boolean 0)))), (q20, .inl (k2, 15360, .inl (fun _ => 0)))] H := hP
  have hD : va_D A [(q0, .inr (15, [.ref q1, .ref q2, .ref q3, .ref q4, .ref q5, .ref q6, .int 0, .int 1, .ref q7, .int 0, .ref q8, .null, .ref q9, .null, .ref q10, .ref q11, .ref q12, .ref q13, .ref q14, .int 0, .ref q15, .ref q16, .ref q17, .ref q18, .ref q19, .int 0, .int 0])), (q1, .inl (k0, 24, .inl (fun _ => 0))), (q10, .inl (k1, 24, .inl (upd (upd (upd (upd (upd (upd (upd (upd (upd (upd (upd (upd (upd (upd (upd (upd (upd (upd (upd (upd (upd (fun _ => 0) (0 : Int32).toNatClampNeg (vp_nar .boolean 0)) (1 : Int32).toNatClampNeg (vp_nar .boolean 0)) (2 : Int32).toNatClampNeg (vp_nar .boolean 0)) (3 : Int32).toNatClampNeg (vp_nar .boolean 0)) (4 : Int32).toNatClampNeg (vp_nar .boolean 0)) (5 : Int32).toNatClampNeg (vp_nar .boolean 0)) (6 : Int32).toNatClampNeg (vp_nar .boolean 0)) (7 : Int32).toNatClampNeg (vp_nar .boolean 0)) (8 : Int32).toNatClampNeg (vp_nar .boolean 0)) (9 : Int32).toNatClampNeg (vp_nar .boolean 0)) (10 : Int32).toNatClampNeg (vp_nar .boolean 0)) (11 : Int32).toNatClampNeg (vp_nar .boolean 0)) (12 : Int32).toNatClampNeg (vp_nar .boolean 0)) (13 : Int32).toNatClampNeg (vp_nar .boolean 0)) (14 : Int32).toNatClampNeg (vp_nar .boolean 0)) (15 : Int32).toNatClampNeg (vp_nar .boolean 0)) (16 : Int32).toNatClampNeg (vp_nar .boolean 0)) (17 : Int32).toNatClampNeg (vp_nar .boolean 0)) (18 : Int32).toNatClampNeg (vp_nar .boolean 0)) (19 : Int32).toNatClampNeg (vp_nar .boolean 0)) (20 : Int32).toNatClampNeg (vp_nar .boolean 0)))), (q20, .inl (k2, 15360, .inl (fun _ => 0)))] := hD
  refine lv_aload_n hx hb dX13_write_33 rfl (lv_at hl 3 rfl) ?_
  refine va_get (D := (dC, dI)) (ci := 15) (v := .ref q1) (C := RX13) (T := TX13) (N := 27) hx hb hts (fun _ h => List.mem_cons_of_mem _ (List.mem_append_left _ (List.mem_append_right _ h))) hown hK hP 0 rfl rfl 0 (by decide) (hts (.fieldLink RX13 9 "SeekwellModel" "isThere" "[Z") (by decide +kernel)) (fun _ h9 => h9) rfl dX13_write_34 ?_
  refine lv_iload_n hx hb dX13_write_37 rfl (lv_at hl 0 rfl) ?_
  refine va_zald (D := (dC, dI)) hx hb hK hP 1 0 rfl rfl (i := 20) (zin (by decide +kernel)) dX13_write_38 ?_
  refine zt_v (w := .int 0) rfl ?_
  refine lv_if_eq (tgt := 148) hx hb dX13_write_39 (by decide) (fun _ => ?_) (fun h9 => absurd (show (0 : Int32) = (0 : Int32) by decide +kernel) h9)
  refine lv_iinc (v := 21) (lv' := [(3, .int 21), (2, .int 0), (1, .ref q20), (0, .ref q0)]) hx hb dX13_write_148 hl (k := 0) rfl (by decide +kernel) (by decide) rfl (fun ls hl => ?_)
  refine lv_goto (tgt := 15) hx hb dX13_write_151 (by decide) ?_
  refine lv_iload_n hx hb dX13_write_15 rfl (lv_at hl 0 rfl) ?_
  refine lv_bipush (v := 24) hx hb dX13_write_16 (by decide +kernel) ?_
  refine lv_icmp_ge (tgt := 154) hx hb dX13_write_18 (by decide) (fun h9 => absurd h9 (show ¬ (24 : Int32) ≤ (21 : Int32) by decide +kernel)) (fun _ => ?_)
  refine lv_aload_n hx hb dX13_write_21 rfl (lv_at hl 3 rfl) ?_
  refine va_get (D := (dC, dI)) (ci := 15) (v := .ref q10) (C := RX13) (T := TX13) (N := 27) hx hb hts (fun _ h => List.mem_cons_of_mem _ (List.mem_append_left _ (List.mem_append_right _ h))) hown hK hP 0 rfl rfl 14 (by decide) (hts (.fieldLink RX13 49 "SeekwellModel" "wasThere" "[Z") (by decide +kernel)) (fun _ h9 => h9) rfl dX13_write_22 ?_
  refine lv_iload_n hx hb dX13_write_25 rfl (lv_at hl 0 rfl) ?_
  refine lv_aload_n hx hb dX13_write_26 rfl (lv_at hl 3 rfl) ?_
  refine va_get (D := (dC, dI)) (ci := 15) (v := .ref q1) (C := RX13) (T := TX13) (N := 27) hx hb hts (fun _ h => List.mem_cons_of_mem _ (List.mem_append_left _ (List.mem_append_right _ h))) hown hK hP 0 rfl rfl 0 (by decide) (hts (.fieldLink RX13 9 "SeekwellModel" "isThere" "[Z") (by decide +kernel)) (fun _ h9 => h9) rfl dX13_write_27 ?_
  refine lv_iload_n hx hb dX13_write_30 rfl (lv_at hl 0 rfl) ?_
  refine va_zald (D := (dC, dI)) hx hb hK hP 1 0 rfl rfl (i := 21) (zin (by decide +kernel)) dX13_write_31 ?_
  refine zt_v (w := .int 0) rfl ?_
  refine va_zast (D := (dC, dI)) hx hb hK hP hD hS 2 1 rfl rfl (i := 21) (x := 0) (zin (by decide +kernel)) dX13_write_32 (fun H locs hP hD hS => ?_)
  have hP : va_P (dC, dI) vwCl [(q0, .inr (15, [.ref q1, .ref q2, .ref q3, .ref q4, .ref q5, .ref q6, .int 0, .int 1, .ref q7, .int 0, .ref q8, .null, .ref q9, .null, .ref q10, .ref q11, .ref q12, .ref q13, .ref q14, .int 0, .ref q15, .ref q16, .ref q17, .ref q18, .ref q19, .int 0, .int 0])), (q1, .inl (k0, 24, .inl (fun _ => 0))), (q10, .inl (k1, 24, .inl (upd (upd (upd (upd (upd (upd (upd (upd (upd (upd (upd (upd (upd (upd (upd (upd (upd (upd (upd (upd (upd (upd (fun _ => 0) (0 : Int32).toNatClampNeg (vp_nar .boolean 0)) (1 : Int32).toNatClampNeg (vp_nar .boolean 0)) (2 : Int32).toNatClampNeg (vp_nar .boolean 0)) (3 : Int32).toNatClampNeg (vp_nar .boolean 0)) (4 : Int32).toNatClampNeg (vp_nar .boolean 0)) (5 : Int32).toNatClampNeg (vp_nar .boolean 0)) (6 : Int32).toNatClampNeg (vp_nar .boolean 0)) (7 : Int32).toNatClampNeg (vp_nar .boolean 0)) (8 : Int32).toNatClampNeg (vp_nar .boolean 0)) (9 : Int32).toNatClampNeg (vp_nar .boolean 0)) (10 : Int32).toNatClampNeg (vp_nar .boolean 0)) (11 : Int32).toNatClampNeg (vp_nar .boolean 0)) (12 : Int32).toNatClampNeg (vp_nar .boolean 0)) (13 : Int32).toNatClampNeg (vp_nar .boolean 0)) (14 : Int32).toNatClampNeg (vp_nar .boolean 0)) (15 : Int32).toNatClampNeg (vp_nar .boolean 0)) (16 : Int32).toNatClampNeg (vp_nar .boolean 0)) (17 : Int32).toNatClampNeg (vp_nar .boolean 0)) (18 : Int32).toNatClampNeg (vp_nar .boolean 0)) (19 : Int32).toNatClampNeg (vp_nar .boolean 0)) (20 : Int32).toNatClampNeg (vp_nar .boolean 0)) (21 : Int32).toNatClampNeg (vp_nar .boolean 0)))), (q20, .inl (k2, 15360, .inl (fun _ => 0)))] H := hP
  have hD : va_D A [(q0, .inr (15, [.ref q1, .ref q2, .ref q3, .ref q4, .ref q5, .ref q6, .int 0, .int 1, .ref q7, .int 0, .ref q8, .null, .ref q9, .null, .ref q10, .ref q11, .ref q12, .ref q13, .ref q14, .int 0, .ref q15, .ref q16, .ref q17, .ref q18, .ref q19, .int 0, .int 0])), (q1, .inl (k0, 24, .inl (fun _ => 0))), (q10, .inl (k1, 24, .inl (upd (upd (upd (upd (upd (upd (upd (upd (upd (upd (upd (upd (upd (upd (upd (upd (upd (upd (upd (upd (upd (upd (fun _ => 0) (0 : Int32).toNatClampNeg (vp_nar .boolean 0)) (1 : Int32).toNatClampNeg (vp_nar .boolean 0)) (2 : Int32).toNatClampNeg (vp_nar .boolean 0)) (3 : Int32).toNatClampNeg (vp_nar .boolean 0)) (4 : Int32).toNatClampNeg (vp_nar .boolean 0)) (5 : Int32).toNatClampNeg (vp_nar .boolean 0)) (6 : Int32).toNatClampNeg (vp_nar .boolean 0)) (7 : Int32).toNatClampNeg (vp_nar .boolean 0)) (8 : Int32).toNatClampNeg (vp_nar .boolean 0)) (9 : Int32).toNatClampNeg (vp_nar .boolean 0)) (10 : Int32).toNatClampNeg (vp_nar .boolean 0)) (11 : Int32).toNatClampNeg (vp_nar .boolean 0)) (12 : Int32).toNatClampNeg (vp_nar .boolean 0)) (13 : Int32).toNatClampNeg (vp_nar .boolean 0)) (14 : Int32).toNatClampNeg (vp_nar .boolean 0)) (15 : Int32).toNatClampNeg (vp_nar .boolean 0)) (16 : Int32).toNatClampNeg (vp_nar .boolean 0)) (17 : Int32).toNatClampNeg (vp_nar .boolean 0)) (18 : Int32).toNatClampNeg (vp_nar .boolean 0)) (19 : Int32).toNatClampNeg (vp_nar .boolean 0)) (20 : Int32).toNatClampNeg (vp_nar .boolean 0)) (21 : Int32).toNatClampNeg (vp_nar .boolean 0)))), (q20, .inl (k2, 15360, .inl (fun _ => 0)))] := hD
  refine lv_aload_n hx hb dX13_write_33 rfl (lv_at hl 3 rfl) ?_
  refine va_get (D := (dC, dI)) (ci := 15) (v := .ref q1) (C := RX13) (T := TX13) (N := 27) hx hb hts (fun _ h => List.mem_cons_of_mem _ (List.mem_append_left _ (List.mem_append_right _ h))) hown hK hP 0 rfl rfl 0 (by decide) (hts (.fieldLink RX13 9 "SeekwellModel" "isThere" "[Z") (by decide +kernel)) (fun _ h9 => h9) rfl dX13_write_34 ?_
  refine lv_iload_n hx hb dX13_write_37 rfl (lv_at hl 0 rfl) ?_
  refine va_zald (D := (dC, dI)) hx hb hK hP 1 0 rfl rfl (i := 21) (zin (by decide +kernel)) dX13_write_38 ?_
  refine zt_v (w := .int 0) rfl ?_
  refine lv_if_eq (tgt := 148) hx hb dX13_write_39 (by decide) (fun _ => ?_) (fun h9 => absurd (show (0 : Int32) = (0 : Int32) by decide +kernel) h9)
  refine lv_iinc (v := 22) (lv' := [(3, .int 22), (2, .int 0), (1, .ref q20), (0, .ref q0)]) hx hb dX13_write_148 hl (k := 0) rfl (by decide +kernel) (by decide) rfl (fun ls hl => ?_)
  refine lv_goto (tgt := 15) hx hb dX13_write_151 (by decide) ?_
  refine lv_iload_n hx hb dX13_write_15 rfl (lv_at hl 0 rfl) ?_
  refine lv_bipush (v := 24) hx hb dX13_write_16 (by decide +kernel) ?_
  refine lv_icmp_ge (tgt := 154) hx hb dX13_write_18 (by decide) (fun h9 => absurd h9 (show ¬ (24 : Int32) ≤ (22 : Int32) by decide +kernel)) (fun _ => ?_)
  refine lv_aload_n hx hb dX13_write_21 rfl (lv_at hl 3 rfl) ?_
  refine va_get (D := (dC, dI)) (ci := 15) (v := .ref q10) (C := RX13) (T := TX13) (N := 27) hx hb hts (fun _ h => List.mem_cons_of_mem _ (List.mem_append_left _ (List.mem_append_right _ h))) hown hK hP 0 rfl rfl 14 (by decide) (hts (.fieldLink RX13 49 "SeekwellModel" "wasThere" "[Z") (by decide +kernel)) (fun _ h9 => h9) rfl dX13_write_22 ?_
  refine lv_iload_n hx hb dX13_write_25 rfl (lv_at hl 0 rfl) ?_
  refine lv_aload_n hx hb dX13_write_26 rfl (lv_at hl 3 rfl) ?_
  refine va_get (D := (dC, dI)) (ci := 15) (v := .ref q1) (C := RX13) (T := TX13) (N := 27) hx hb hts (fun _ h => List.mem_cons_of_mem _ (List.mem_append_left _ (List.mem_append_right _ h))) hown hK hP 0 rfl rfl 0 (by decide) (hts (.fieldLink RX13 9 "SeekwellModel" "isThere" "[Z") (by decide +kernel)) (fun _ h9 => h9) rfl dX13_write_27 ?_
  refine lv_iload_n hx hb dX13_write_30 rfl (lv_at hl 0 rfl) ?_
  refine va_zald (D := (dC, dI)) hx hb hK hP 1 0 rfl rfl (i := 22) (zin (by decide +kernel)) dX13_write_31 ?_
  refine zt_v (w := .int 0) rfl ?_
  refine va_zast (D := (dC, dI)) hx hb hK hP hD hS 2 1 rfl rfl (i := 22) (x := 0) (zin (by decide +kernel)) dX13_write_32 (fun H locs hP hD hS => ?_)
  have hP : va_P (dC, dI) vwCl [(q0, .inr (15, [.ref q1, .ref q2, .ref q3, .ref q4, .ref q5, .ref q6, .int 0, .int 1, .ref q7, .int 0, .ref q8, .null, .ref q9, .null, .ref q10, .ref q11, .ref q12, .ref q13, .ref q14, .int 0, .ref q15, .ref q16, .ref q17, .ref q18, .ref q19, .int 0, .int 0])), (q1, .inl (k0, 24, .inl (fun _ => 0))), (q10, .inl (k1, 24, .inl (upd (upd (upd (upd (upd (upd (upd (upd (upd (upd (upd (upd (upd (upd (upd (upd (upd (upd (upd (upd (upd (upd (upd (fun _ => 0) (0 : Int32).toNatClampNeg (vp_nar .boolean 0)) (1 : Int32).toNatClampNeg (vp_nar .boolean 0)) (2 : Int32).toNatClampNeg (vp_nar .boolean 0)) (3 : Int32).toNatClampNeg (vp_nar .boolean 0)) (4 : Int32).toNatClampNeg (vp_nar .boolean 0)) (5 : Int32).toNatClampNeg (vp_nar .boolean 0)) (6 : Int32).toNatClampNeg (vp_nar .boolean 0)) (7 : Int32).toNatClampNeg (vp_nar .boolean 0)) (8 : Int32).toNatClampNeg (vp_nar .boolean 0)) (9 : Int32).toNatClampNeg (vp_nar .boolean 0)) (10 : Int32).toNatClampNeg (vp_nar .boolean 0)) (11 : Int32).toNatClampNeg (vp_nar .boolean 0)) (12 : Int32).toNatClampNeg (vp_nar .boolean 0)) (13 : Int32).toNatClampNeg (vp_nar .boolean 0)) (14 : Int32).toNatClampNeg (vp_nar .boolean 0)) (15 : Int32).toNatClampNeg (vp_nar .boolean 0)) (16 : Int32).toNatClampNeg (vp_nar .boolean 0)) (17 : Int32).toNatClampNeg (vp_nar .boolean 0)) (18 : Int32).toNatClampNeg (vp_nar .boolean 0)) (19 : Int32).toNatClampNeg (vp_nar .boolean 0)) (20 : Int32).toNatClampNeg (vp_nar .boolean 0)) (21 : Int32).toNatClampNeg (vp_nar .boolean 0)) (22 : Int32).toNatClampNeg (vp_nar .boolean 0)))), (q20, .inl (k2, 15360, .inl (fun _ => 0)))] H := hP
  have hD : va_D A [(q0, .inr (15, [.ref q1, .ref q2, .ref q3, .ref q4, .ref q5, .ref q6, .int 0, .int 1, .ref q7, .int 0, .ref q8, .null, .ref q9, .null, .ref q10, .ref q11, .ref q12, .ref q13, .ref q14, .int 0, .ref q15, .ref q16, .ref q17, .ref q18, .ref q19, .int 0, .int 0])), (q1, .inl (k0, 24, .inl (fun _ => 0))), (q10, .inl (k1, 24, .inl (upd (upd (upd (upd (upd (upd (upd (upd (upd (upd (upd (upd (upd (upd (upd (upd (upd (upd (upd (upd (upd (upd (upd (fun _ => 0) (0 : Int32).toNatClampNeg (vp_nar .boolean 0)) (1 : Int32).toNatClampNeg (vp_nar .boolean 0)) (2 : Int32).toNatClampNeg (vp_nar .boolean 0)) (3 : Int32).toNatClampNeg (vp_nar .boolean 0)) (4 : Int32).toNatClampNeg (vp_nar .boolean 0)) (5 : Int32).toNatClampNeg (vp_nar .boolean 0)) (6 : Int32).toNatClampNeg (vp_nar .boolean 0)) (7 : Int32).toNatClampNeg (vp_nar .boolean 0)) (8 : Int32).toNatClampNeg (vp_nar .boolean 0)) (9 : Int32).toNatClampNeg (vp_nar .boolean 0)) (10 : Int32).toNatClampNeg (vp_nar .boolean 0)) (11 : Int32).toNatClampNeg (vp_nar .boolean 0)) (12 : Int32).toNatClampNeg (vp_nar .boolean 0)) (13 : Int32).toNatClampNeg (vp_nar .boolean 0)) (14 : Int32).toNatClampNeg (vp_nar .boolean 0)) (15 : Int32).toNatClampNeg (vp_nar .boolean 0)) (16 : Int32).toNatClampNeg (vp_nar .boolean 0)) (17 : Int32).toNatClampNeg (vp_nar .boolean 0)) (18 : Int32).toNatClampNeg (vp_nar .boolean 0)) (19 : Int32).toNatClampNeg (vp_nar .boolean 0)) (20 : Int32).toNatClampNeg (vp_nar .boolean 0)) (21 : Int32).toNatClampNeg (vp_nar .boolean 0)) (22 : Int32).toNatClampNeg (vp_nar .boolean 0)))), (q20, .inl (k2, 15360, .inl (fun _ => 0)))] := hD
  refine lv_aload_n hx hb dX13_write_33 rfl (lv_at hl 3 rfl) ?_
  refine va_get (D := (dC, dI)) (ci := 15) (v := .ref q1) (C := RX13) (T := TX13) (N := 27) hx hb hts (fun _ h => List.mem_cons_of_mem _ (List.mem_append_left _ (List.mem_append_right _ h))) hown hK hP 0 rfl rfl 0 (by decide) (hts (.fieldLink RX13 9 "SeekwellModel" "isThere" "[Z") (by decide +kernel)) (fun _ h9 => h9) rfl dX13_write_34 ?_
  refine lv_iload_n hx hb dX13_write_37 rfl (lv_at hl 0 rfl) ?_
  refine va_zald (D := (dC, dI)) hx hb hK hP 1 0 rfl rfl (i := 22) (zin (by decide +kernel)) dX13_write_38 ?_
  refine zt_v (w := .int 0) rfl ?_
  refine lv_if_eq (tgt := 148) hx hb dX13_write_39 (by decide) (fun _ => ?_) (fun h9 => absurd (show (0 : Int32) = (0 : Int32) by decide +kernel) h9)
  refine lv_iinc (v := 23) (lv' := [(3, .int 23), (2, .int 0), (1, .ref q20), (0, .ref q0)]) hx hb dX13_write_148 hl (k := 0) rfl (by decide +kernel) (by decide) rfl (fun ls hl => ?_)
  refine lv_goto (tgt := 15) hx hb dX13_write_151 (by decide) ?_
  refine lv_iload_n hx hb dX13_write_15 rfl (lv_at hl 0 rfl) ?_
  refine lv_bipush (v := 24) hx hb dX13_write_16 (by decide +kernel) ?_
  refine lv_icmp_ge (tgt := 154) hx hb dX13_write_18 (by decide) (fun h9 => absurd h9 (show ¬ (24 : Int32) ≤ (23 : Int32) by decide +kernel)) (fun _ => ?_)
  refine lv_aload_n hx hb dX13_write_21 rfl (lv_at hl 3 rfl) ?_
  refine va_get (D := (dC, dI)) (ci := 15) (v := .ref q10) (C := RX13) (T := TX13) (N := 27) hx hb hts (fun _ h => List.mem_cons_of_mem _ (List.mem_append_left _ (List.mem_append_right _ h))) hown hK hP 0 rfl rfl 14 (by decide) (hts (.fieldLink RX13 49 "SeekwellModel" "wasThere" "[Z") (by decide +kernel)) (fun _ h9 => h9) rfl dX13_write_22 ?_
  refine lv_iload_n hx hb dX13_write_25 rfl (lv_at hl 0 rfl) ?_
  refine lv_aload_n hx hb dX13_write_26 rfl (lv_at hl 3 rfl) ?_
  refine va_get (D := (dC, dI)) (ci := 15) (v := .ref q1) (C := RX13) (T := TX13) (N := 27) hx hb hts (fun _ h => List.mem_cons_of_mem _ (List.mem_append_left _ (List.mem_append_right _ h))) hown hK hP 0 rfl rfl 0 (by decide) (hts (.fieldLink RX13 9 "SeekwellModel" "isThere" "[Z") (by decide +kernel)) (fun _ h9 => h9) rfl dX13_write_27 ?_
  refine lv_iload_n hx hb dX13_write_30 rfl (lv_at hl 0 rfl) ?_
  refine va_zald (D := (dC, dI)) hx hb hK hP 1 0 rfl rfl (i := 23) (zin (by decide +kernel)) dX13_write_31 ?_
  refine zt_v (w := .int 0) rfl ?_
  refine va_zast (D := (dC, dI)) hx hb hK hP hD hS 2 1 rfl rfl (i := 23) (x := 0) (zin (by decide +kernel)) dX13_write_32 (fun H locs hP hD hS => ?_)
  have hP : va_P (dC, dI) vwCl [(q0, .inr (15, [.ref q1, .ref q2, .ref q3, .ref q4, .ref q5, .ref q6, .int 0, .int 1, .ref q7, .int 0, .ref q8, .null, .ref q9, .null, .ref q10, .ref q11, .ref q12, .ref q13, .ref q14, .int 0, .ref q15, .ref q16, .ref q17, .ref q18, .ref q19, .int 0, .int 0])), (q1, .inl (k0, 24, .inl (fun _ => 0))), (q10, .inl (k1, 24, .inl (upd (upd (upd (upd (upd (upd (upd (upd (upd (upd (upd (upd (upd (upd (upd (upd (upd (upd (upd (upd (upd (upd (upd (upd (fun _ => 0) (0 : Int32).toNatClampNeg (vp_nar .boolean 0)) (1 : Int32).toNatClampNeg (vp_nar .boolean 0)) (2 : Int32).toNatClampNeg (vp_nar .boolean 0)) (3 : Int32).toNatClampNeg (vp_nar .boolean 0)) (4 : Int32).toNatClampNeg (vp_nar .boolean 0)) (5 : Int32).toNatClampNeg (vp_nar .boolean 0)) (6 : Int32).toNatClampNeg (vp_nar .boolean 0)) (7 : Int32).toNatClampNeg (vp_nar .boolean 0)) (8 : Int32).toNatClampNeg (vp_nar .boolean 0)) (9 : Int32).toNatClampNeg (vp_nar .boolean 0)) (10 : Int32).toNatClampNeg (vp_nar .boolean 0)) (11 : Int32).toNatClampNeg (vp_nar .boolean 0)) (12 : Int32).toNatClampNeg (vp_nar .boolean 0)) (13 : Int32).toNatClampNeg (vp_nar .boolean 0)) (14 : Int32).toNatClampNeg (vp_nar .boolean 0)) (15 : Int32).toNatClampNeg (vp_nar .boolean 0)) (16 : Int32).toNatClampNeg (vp_nar .boolean 0)) (17 : Int32).toNatClampNeg (vp_nar .boolean 0)) (18 : Int32).toNatClampNeg (vp_nar .boolean 0)) (19 : Int32).toNatClampNeg (vp_nar .boolean 0)) (20 : Int32).toNatClampNeg (vp_nar .boolean 0)) (21 : Int32).toNatClampNeg (vp_nar .boolean 0)) (22 : Int32).toNatClampNeg (vp_nar .boolean 0)) (23 : Int32).toNatClampNeg (vp_nar .boolean 0)))), (q20, .inl (k2, 15360, .inl (fun _ => 0)))] H := hP
  have hD : va_D A [(q0, .inr (15, [.ref q1, .ref q2, .ref q3, .ref q4, .ref q5, .ref q6, .int 0, .int 1, .ref q7, .int 0, .ref q8, .null, .ref q9, .null, .ref q10, .ref q11, .ref q12, .ref q13, .ref q14, .int 0, .ref q15, .ref q16, .ref q17, .ref q18, .ref q19, .int 0, .int 0])), (q1, .inl (k0, 24, .inl (fun _ => 0))), (q10, .inl (k1, 24, .inl (upd (upd (upd (upd (upd (upd (upd (upd (upd (upd (upd (upd (upd (upd (upd (upd (upd (upd (upd (upd (upd (upd (upd (upd (fun _ => 0) (0 : Int32).toNatClampNeg (vp_nar .boolean 0)) (1 : Int32).toNatClampNeg (vp_nar .boolean 0)) (2 : Int32).toNatClampNeg (vp_nar .boolean 0)) (3 : Int32).toNatClampNeg (vp_nar .boolean 0)) (4 : Int32).toNatClampNeg (vp_nar .boolean 0)) (5 : Int32).toNatClampNeg (vp_nar .boolean 0)) (6 : Int32).toNatClampNeg (vp_nar .boolean 0)) (7 : Int32).toNatClampNeg (vp_nar .boolean 0)) (8 : Int32).toNatClampNeg (vp_nar .boolean 0)) (9 : Int32).toNatClampNeg (vp_nar .boolean 0)) (10 : Int32).toNatClampNeg (vp_nar .boolean 0)) (11 : Int32).toNatClampNeg (vp_nar .boolean 0)) (12 : Int32).toNatClampNeg (vp_nar .boolean 0)) (13 : Int32).toNatClampNeg (vp_nar .boolean 0)) (14 : Int32).toNatClampNeg (vp_nar .boolean 0)) (15 : Int32).toNatClampNeg (vp_nar .boolean 0)) (16 : Int32).toNatClampNeg (vp_nar .boolean 0)) (17 : Int32).toNatClampNeg (vp_nar .boolean 0)) (18 : Int32).toNatClampNeg (vp_nar .boolean 0)) (19 : Int32).toNatClampNeg (vp_nar .boolean 0)) (20 : Int32).toNatClampNeg (vp_nar .boolean 0)) (21 : Int32).toNatClampNeg (vp_nar .boolean 0)) (22 : Int32).toNatClampNeg (vp_nar .boolean 0)) (23 : Int32).toNatClampNeg (vp_nar .boolean 0)))), (q20, .inl (k2, 15360, .inl (fun _ => 0)))] := hD
  refine lv_aload_n hx hb dX13_write_33 rfl (lv_at hl 3 rfl) ?_
  refine va_get (D := (dC, dI)) (ci := 15) (v := .ref q1) (C := RX13) (T := TX13) (N := 27) hx hb hts (fun _ h => List.mem_cons_of_mem _ (List.mem_append_left _ (List.mem_append_right _ h))) hown hK hP 0 rfl rfl 0 (by decide) (hts (.fieldLink RX13 9 "SeekwellModel" "isThere" "[Z") (by decide +kernel)) (fun _ h9 => h9) rfl dX13_write_34 ?_
  refine lv_iload_n hx hb dX13_write_37 rfl (lv_at hl 0 rfl) ?_
  refine va_zald (D := (dC, dI)) hx hb hK hP 1 0 rfl rfl (i := 23) (zin (by decide +kernel)) dX13_write_38 ?_
  refine zt_v (w := .int 0) rfl ?_
  refine lv_if_eq (tgt := 148) hx hb dX13_write_39 (by decide) (fun _ => ?_) (fun h9 => absurd (show (0 : Int32) = (0 : Int32) by decide +kernel) h9)
  refine lv_iinc (v := 24) (lv' := [(3, .int 24), (2, .int 0), (1, .ref q20), (0, .ref q0)]) hx hb dX13_write_148 hl (k := 0) rfl (by decide +kernel) (by decide) rfl (fun ls hl => ?_)
  refine lv_goto (tgt := 15) hx hb dX13_write_151 (by decide) ?_
  refine lv_iload_n hx hb dX13_write_15 rfl (lv_at hl 0 rfl) ?_
  refine lv_bipush (v := 24) hx hb dX13_write_16 (by decide +kernel) ?_
  refine lv_icmp_ge (tgt := 154) hx hb dX13_write_18 (by decide) (fun _ => ?_) (fun h9 => absurd (show (24 : Int32) ≤ (24 : Int32) by decide +kernel) h9)
  refine lv_aload_n hx hb dX13_write_154 rfl (lv_at hl 3 rfl) ?_
  refine lv_aload_n hx hb dX13_write_155 rfl (lv_at hl 2 rfl) ?_
  refine lv_iload_n hx hb dX13_write_156 rfl (lv_at hl 1 rfl) ?_
  have hPc := hP.sub (ws' := []) [] rfl
  have hDc := hD.sub (ws' := []) [] (by decide) rfl
  have hKc := hK.sub (tys' := []) [] rfl
  have hFc := va_free (wc := []) hD hS hA [] rfl
  refine va_callr (va_runS (As := [.ref q20, .int 0]) (rest := [.ref q0]) ⟨hx, hb, hml, hown, hts⟩ (c_X13_head_ l dC dI q20 H.size  ) (va_cwS 2 hts gX13_write_X13_head_ rfl rfl rfl (by decide +kernel) ⟨Nat.le_of_ble_eq_true rfl, Nat.le_of_ble_eq_true rfl⟩) ⟨zB_blind, (zPre hPc hDc hKc hS hFc hZ hN)⟩ rfl rfl hl.1 rfl (lv_room (Nat.le_of_ble_eq_true rfl)) dX13_write_157 ⟨Nat.le_of_ble_eq_true rfl, Nat.le_of_ble_eq_true rfl⟩) hS (fun q _ h => hFc q h) hFc (fun u ra t H1 locs ht hvm hw hB hz1 hk1 hS => ?_)
  obtain ⟨q21, hra, hP1, hK1, hD1⟩ := hB
  subst hra
  rw [ht] at hP1
  have hK1 := va_K.moved hvm.symm hK1
  obtain ⟨hP, hD⟩ := va_join (wr := [(q0, .inr (15, [.ref q1, .ref q2, .ref q3, .ref q4, .ref q5, .ref q6, .int 0, .int 1, .ref q7, .int 0, .ref q8, .null, .ref q9, .null, .ref q10, .ref q11, .ref q12, .ref q13, .ref q14, .int 0, .ref q15, .ref q16, .ref q17, .ref q18, .ref q19, .int 0, .int 0]))]) (w1 := []) hP hD [] [0] rfl rfl (by decide) (by decide) hk1 hFc hP1 hD1
  have hK := (hK.sub (tys' := []) [] rfl).app hK1
  generalize H1 = H at hP hS ⊢
  have hP : va_P (dC, dI) vwCl [(q0, .inr (15, [.ref q1, .ref q2, .ref q3, .ref q4, .ref q5, .ref q6, .int 0, .int 1, .ref q7, .int 0, .ref q8, .null, .ref q9, .null, .ref q10, .ref q11, .ref q12, .ref q13, .ref q14, .int 0, .ref q15, .ref q16, .ref q17, .ref q18, .ref q19, .int 0, .int 0]))] H := hP
  have hD : va_D A [(q0, .inr (15, [.ref q1, .ref q2, .ref q3, .ref q4, .ref q5, .ref q6, .int 0, .int 1, .ref q7, .int 0, .ref q8, .null, .ref q9, .null, .ref q10, .ref q11, .ref q12, .ref q13, .ref q14, .int 0, .ref q15, .ref q16, .ref q17, .ref q18, .ref q19, .int 0, .int 0]))] := hD
  have hK : va_K (dC, dI) vwCl [] s := hK
  refine W.widen (k := 2) (n := 15360) (Nat.le_of_ble_eq_true rfl) (Nat.le_of_ble_eq_true rfl) ?_
  refine va_put (D := (dC, dI)) (ci := 15) (v := .ref q21) (ty := (.array .int)) (C := RX13) (T := TX13) (N := 27) hx hb hts (fun _ h => List.mem_cons_of_mem _ (List.mem_append_left _ (List.mem_append_right _ h))) tyX13 tyX13_ok nmX13 hown hK hP hD hS 0 rfl rfl 13 (by decide) (hts (.fieldLink RX13 426 "SeekwellModel" "written" "[I") (by decide +kernel)) (fun _ h9 => h9) rfl (by decide +kernel) rfl rfl (Nat.le_of_ble_eq_true rfl) dX13_write_160 (fun H locs hP hD hS => ?_)
  have hP : va_P (dC, dI) vwCl [(q0, .inr (15, [.ref q1, .ref q2, .ref q3, .ref q4, .ref q5, .ref q6, .int 0, .int 1, .ref q7, .int 0, .ref q8, .null, .ref q9, .ref q21, .ref q10, .ref q11, .ref q12, .ref q13, .ref q14, .int 0, .ref q15, .ref q16, .ref q17, .ref q18, .ref q19, .int 0, .int 0]))] H := hP
  have hD : va_D A [(q0, .inr (15, [.ref q1, .ref q2, .ref q3, .ref q4, .ref q5, .ref q6, .int 0, .int 1, .ref q7, .int 0, .ref q8, .null, .ref q9, .ref q21, .ref q10, .ref q11, .ref q12, .ref q13, .ref q14, .int 0, .ref q15, .ref q16, .ref q17, .ref q18, .ref q19, .int 0, .int 0]))] := hD
  refine lv_iload_n hx hb dX13_write_163 rfl (lv_at hl 1 rfl) ?_
  have hP9 := hP.sub (ws' := []) [] rfl
  have hD9 := hD.sub (ws' := []) [] (by decide) rfl
  have hK9 := hK.sub (tys' := []) [] rfl
  exact W.iret (v := 0) hx hb hr (fun t ht hW => ⟨⟨0, (), rfl, rfl, ⟨by rw [ht]; exact hP9, va_K.moved hW.alike hK9, hD9⟩⟩, hS.F ht⟩) hS.2.2 dX13_write_164
set_option maxHeartbeats 4000000 in
set_option maxRecDepth 100000 in
theorem c_X11_writtenAt (l : Launch) (hfl : l.stackTraces = false) (dC : Nat → ClassId) (dI : Nat → Nat → Nat) (q0 : Nat) (sz : Nat) (p1 : Int32) (hc0 : p1 < 0) : vx_Met l yX11_writtenAt wsX11_writtenAt ({ frames := 6, cells := 1, slots := 6, locals := 90 }) (va_Pc [.ref q0, .int p1] (zB (dC, dI) [] [] sz)) (va_Qi (fun (_ : Int32) (_ : Unit) => False) (fun _ _ => True) (va_A [] sz)) (vx_X (fun (_ : Unit) => True) (fun E _ _ => "java/lang/IndexOutOfBoundsException" = E) (va_A [] sz)) 1 6 (va_A [] sz) := by
  refine vx_ofW (cc := cX11_writtenAt) (maxL := 2) (ret := (some .int)) (by decide) rfl ?_
  intro p e s m args below meth c s₁ B hml hnoex hv
  obtain ⟨rfl, hsz, hP, hK, hD0, hZ, hN⟩ := hv
  have hx := B.exec
  have hb := B.bytes
  have hr := B.returns
  have hts := atoms_spec (ws := wsX11_writtenAt) B.pre
  have hown : s.vm.findClass RX11 = some m.cls := findClass_of_methodNamed B.named
  have hlocks := B.notSynchronized
  subst hsz
  have hD := hD0.self (sz := s.heap.size)
  generalize hAe : va_A [] s.heap.size = A at hD hZ ⊢
  have hA : ∀ q : Nat, s.heap.size ≤ q → A q := fun q h => by rw [← hAe]; exact Or.inr h
  have hS : va_S A s.heap s.heap [] := va_S.rf
  have hP : va_P (dC, dI) vwCl [] s.heap := hP
  have hl := lv_entry ([.ref q0, .int p1]) (n := 2) (Nat.le_of_ble_eq_true rfl)
  rw [lg_entry_eq]
  generalize (lg_sl ([.ref q0, .int p1]) ++ List.replicate (2 - (lg_sl ([.ref q0, .int p1])).length) Slot.unset).toArray = ls at hl ⊢
  have hl : lv_has ls 2 [(0, .ref q0), (1, .int p1)] := hl
  refine lv_iload_n hx hb dX11_writtenAt_0 rfl (lv_at hl 1 rfl) ?_
  refine lv_if_lt (tgt := 15) hx hb dX11_writtenAt_1 (by decide) (fun _ => ?_) (fun h9 => absurd hc0 h9)
  obtain ⟨sa, hstr⟩ := hN.2.2.2.2.1 (RX11, 300, "no such byte was written") (by decide +kernel)
  refine vx_throwSW (A := A) (cls := "java/lang/IndexOutOfBoundsException") (names := ["java/lang/RuntimeException", "java/lang/Exception"]) (own := RX11) (text := "no such byte was written") hx hb hfl hown (by decide +kernel) (by decide +kernel) (hts (.classLink RX11 104 "java/lang/IndexOutOfBoundsException") (by decide +kernel)) (hts (.initialized "java/lang/IndexOutOfBoundsException") (by decide +kernel)) hstr (vx_hat (B := [Cond.castable "java/lang/IndexOutOfBoundsException" "java/lang/IndexOutOfBoundsException", Cond.declares (Bundle.initS "java/lang/RuntimeException"), Cond.declares (Bundle.initS "java/lang/Exception"), Cond.declares (Bundle.initS Bundle.tN)]) (fun w h => hts w (List.mem_cons_of_mem _ (List.mem_append_left _ (List.mem_append_right _ h)))) (by decide +kernel) (zthr hN (by decide +kernel))) (by decide +kernel) hZ.1 hZ.2 hS (hl.1.trans hml.symm) dX11_writtenAt_15 dX11_writtenAt_18 dX11_writtenAt_19 dX11_writtenAt_22 dX11_writtenAt_25 (fun x h => (hnoex x h).elim) (Nat.lt_of_succ_le (Nat.le_of_ble_eq_true rfl)) (Nat.le_of_ble_eq_true rfl) (Nat.le_of_ble_eq_true rfl) (Nat.le_of_ble_eq_true rfl) hlocks ?_ hS.2.2 (Nat.le_refl _) (Nat.le_refl _)
  exact fun t hvm hz hk => ⟨(), trivial, rfl, zF hS hz hk⟩
set_option maxHeartbeats 4000000 in
set_option maxRecDepth 100000 in
theorem c_L_writtenAt (l : Launch) (hfl : l.stackTraces = false) (dC : Nat → ClassId) (dI : Nat → Nat → Nat) (q0 q1 q2 q3 q4 q5 q6 q7 q8 q9 q10 q11 q12 q13 q14 : Nat) (sz : Nat) (p1 : Int32) (hc0 : p1 < 0) : Met l yL_writtenAt wsL_writtenAt ({ frames := 7, cells := 1, slots := 6, locals := 111 }) (va_Pc [.ref q0, .int p1, .ref q1] (zB (dC, dI) [] [(q0, .inr (13, [.ref q2, .ref q3, .ref q4, .ref q5, .ref q6, .ref q7, .ref q8, .ref q9, .int 0, .ref q10, .ref q11, .ref q12, .ref q13, .ref q14]))] sz)) (va_Qi (fun (r : Int32) (_ : Unit) => 1 = r) (fun _ t => zE (dC, dI) [] [] (va_A [(q0, .inr (13, [.ref q2, .ref q3, .ref q4, .ref q5, .ref q6, .ref q7, .ref q8, .ref q9, .int 0, .ref q10, .ref q11, .ref q12, .ref q13, .ref q14]))] sz) t) (va_A [(q0, .inr (13, [.ref q2, .ref q3, .ref q4, .ref q5, .ref q6, .ref q7, .ref q8, .ref q9, .int 0, .ref q10, .ref q11, .ref q12, .ref q13, .ref q14]))] sz)) 1 6 (va_A [(q0, .inr (13, [.ref q2, .ref q3, .ref q4, .ref q5, .ref q6, .ref q7, .ref q8, .ref q9, .int 0, .ref q10, .ref q11, .ref q12, .ref q13, .ref q14]))] sz) := by
  refine va_MetW (cc := cL_writtenAt) (maxL := 4) (ret := (some .int)) (by decide) rfl ?_
  intro p e s m args below meth c s₁ B hml hv
  obtain ⟨rfl, hsz, hP, hK, hD0, hZ, hN⟩ := hv
  have hx := B.exec
  have hb := B.bytes
  have hr := B.returns
  have hts := atoms_spec (ws := wsL_writtenAt) B.pre
  have hown : s.vm.findClass RL = some m.cls := findClass_of_methodNamed B.named
  have hlocks := B.notSynchronized
  have htab := vx_table (x := yL_writtenAt) B (hts (.codeWith yL_writtenAt cL_writtenAt 4 (some .int) [(0, 9, 12, 21)]) List.mem_cons_self)
  subst hsz
  have hD := hD0.self (sz := s.heap.size)
  generalize hAe : va_A [(q0, .inr (13, [.ref q2, .ref q3, .ref q4, .ref q5, .ref q6, .ref q7, .ref q8, .ref q9, .int 0, .ref q10, .ref q11, .ref q12, .ref q13, .ref q14]))] s.heap.size = A at hD hZ ⊢
  have hA : ∀ q : Nat, s.heap.size ≤ q → A q := fun q h => by rw [← hAe]; exact Or.inr h
  have hS : va_S A s.heap s.heap [] := va_S.rf
  have hP : va_P (dC, dI) vwCl [(q0, .inr (13, [.ref q2, .ref q3, .ref q4, .ref q5, .ref q6, .ref q7, .ref q8, .ref q9, .int 0, .ref q10, .ref q11, .ref q12, .ref q13, .ref q14]))] s.heap := hP
  have hl := lv_entry ([.ref q0, .int p1, .ref q1]) (n := 4) (Nat.le_of_ble_eq_true rfl)
  rw [lg_entry_eq]
  generalize (lg_sl ([.ref q0, .int p1, .ref q1]) ++ List.replicate (4 - (lg_sl ([.ref q0, .int p1, .ref q1])).length) Slot.unset).toArray = ls at hl ⊢
  have hl : lv_has ls 4 [(0, .ref q0), (1, .int p1), (2, .ref q1)] := hl
  refine lv_aload_n hx hb dL_writtenAt_0 rfl (lv_at hl 2 rfl) ?_
  refine lv_iconst (v := 0) hx hb dL_writtenAt_1 (by decide +kernel) ?_
  refine lv_aload_n hx hb dL_writtenAt_2 rfl (lv_at hl 0 rfl) ?_
  refine lv_iload_n hx hb dL_writtenAt_3 rfl (lv_at hl 1 rfl) ?_
  have hPc := hP.sub (ws' := []) [] rfl
  have hDc := hD.sub (ws' := []) [] (by decide) rfl
  have hKc := hK.sub (tys' := []) [] rfl
  have hFc := va_free (wc := []) hD hS hA [] rfl
  refine vx_calli (vx_runV (As := [.int p1]) (rest := [.int 0, .ref q1]) ⟨hx, hb, hml, hown, hts⟩ (c_X11_writtenAt l hfl dC dI q0 s.heap.size p1 hc0) (cwV 1 hts gL_writtenAt_X11_writtenAt rfl rfl rfl (by decide +kernel) ⟨Nat.le_of_ble_eq_true rfl, Nat.le_of_ble_eq_true rfl⟩) ⟨zB_blind, va_recv hK hP (ci := 13) (q0 := 0) rfl rfl, (zPre hPc hDc hKc hS hFc hZ hN)⟩ rfl rfl hl.1 rfl (lv_room (Nat.le_of_ble_eq_true rfl)) dL_writtenAt_4 ⟨Nat.le_of_ble_eq_true rfl, Nat.le_of_ble_eq_true rfl⟩) hS (fun q _ h => hFc q h) hFc (fun q _ h => hFc q h) (fun E ce qx u t H1 locs1 ht hvm hpx hBX hz1 hk1 hS hq9 hv9 hcl9 => ?_) (fun r u t H1 locs1 _ _ hw => hw.elim)
  subst hBX
  refine vx_catch (name := "java/lang/IndexOutOfBoundsException") hown [] ⟨0, 9, 12, 21⟩ [] (by rw [htab]; rfl) (fun z h => absurd h List.not_mem_nil) rfl (by decide) (hts (.classLink RL 21 "java/lang/IndexOutOfBoundsException") (by decide +kernel)) (va_Nw.use rfl (hN.2.1 "java/lang/IndexOutOfBoundsException" (by decide +kernel))) hq9 hv9 hcl9 ?_
  generalize H1 = H at hS ⊢
  refine W.widen (k := 1) (n := 6) (Nat.le_of_ble_eq_true rfl) (Nat.le_of_ble_eq_true rfl) ?_
  have hP : va_P (dC, dI) vwCl [] H := zP_nil
  have hD : va_D A [] := zD_nil
  have hK := hK.sub (tys' := []) [] rfl
  refine lv_astore_n (lv' := [(3, .ref qx), (0, .ref q0), (1, .int p1), (2, .ref q1)]) hx hb dL_writtenAt_12 rfl hl (by decide) rfl (fun ls hl => ?_)
  refine lv_iconst (v := 1) hx hb dL_writtenAt_13 (by decide +kernel) ?_
  have hP9 := hP.sub (ws' := []) [] rfl
  have hD9 := hD.sub (ws' := []) [] (by decide) rfl
  have hK9 := hK.sub (tys' := []) [] rfl
  exact W.iret (v := 1) hx hb hr (fun t ht hW => ⟨⟨1, (), rfl, rfl, ⟨by rw [ht]; exact hP9, va_K.moved hW.alike hK9, hD9⟩⟩, hS.F ht⟩) hS.2.2 dL_writtenAt_14
set_option maxHeartbeats 4000000 in
set_option maxRecDepth 100000 in
theorem c_X13_writtenAt (l : Launch) (dC : Nat → ClassId) (dI : Nat → Nat → Nat) (q0 q1 q2 q3 q4 q5 q6 q7 q8 q9 q10 q11 q12 q13 q14 q15 q16 q17 q18 q19 : Nat) (sz : Nat) (p1 : Int32) : Met l yX13_writtenAt wsX13_writtenAt ({ frames := 1, cells := 0, slots := 0, locals := 22 }) (va_Pc [.ref q0, .int p1] (zB (dC, dI) [] [(q0, .inr (15, [.ref q1, .ref q2, .ref q3, .ref q4, .ref q5, .ref q6, .int 0, .int 1, .ref q7, .int 0, .ref q8, .null, .ref q9, .null, .ref q10, .ref q11, .ref q12, .ref q13, .ref q14, .int 0, .ref q15, .ref q16, .ref q17, .ref q18, .ref q19, .int 0, .int 0]))] sz)) (va_Qi (fun (r : Int32) (_ : Unit) => 0 = r) (fun _ t => zE (dC, dI) [] [(q0, .inr (15, [.ref q1, .ref q2, .ref q3, .ref q4, .ref q5, .ref q6, .int 0, .int 1, .ref q7, .int 0, .ref q8, .null, .ref q9, .null, .ref q10, .ref q11, .ref q12, .ref q13, .ref q14, .int 1, .ref q15, .ref q16, .ref q17, .ref q18, .ref q19, .int 0, .int 0]))] (va_A [(q0, .inr (15, [.ref q1, .ref q2, .ref q3, .ref q4, .ref q5, .ref q6, .int 0, .int 1, .ref q7, .int 0, .ref q8, .null, .ref q9, .null, .ref q10, .ref q11, .ref q12, .ref q13, .ref q14, .int 0, .ref q15, .ref q16, .ref q17, .ref q18, .ref q19, .int 0, .int 0]))] sz) t) (va_A [(q0, .inr (15, [.ref q1, .ref q2, .ref q3, .ref q4, .ref q5, .ref q6, .int 0, .int 1, .ref q7, .int 0, .ref q8, .null, .ref q9, .null, .ref q10, .ref q11, .ref q12, .ref q13, .ref q14, .int 0, .ref q15, .ref q16, .ref q17, .ref q18, .ref q19, .int 0, .int 0]))] sz)) 0 0 (va_A [(q0, .inr (15, [.ref q1, .ref q2, .ref q3, .ref q4, .ref q5, .ref q6, .int 0, .int 1, .ref q7, .int 0, .ref q8, .null, .ref q9, .null, .ref q10, .ref q11, .ref q12, .ref q13, .ref q14, .int 0, .ref q15, .ref q16, .ref q17, .ref q18, .ref q19, .int 0, .int 0]))] sz) := by
  refine Met.ofW (cc := cX13_writtenAt) (maxL := 2) (ret := (some .int)) (by decide) rfl ?_
  intro p e s m args below meth c s₁ B hml hv
  obtain ⟨rfl, hsz, hP, hK, hD0, hZ, hN⟩ := hv
  have hx := B.exec
  have hb := B.bytes
  have hr := B.returns
  have hts := atoms_spec (ws := wsX13_writtenAt) B.pre
  have hown : s.vm.findClass RX13 = some m.cls := findClass_of_methodNamed B.named
  have hlocks := B.notSynchronized
  subst hsz
  have hD := hD0.self (sz := s.heap.size)
  generalize hAe : va_A [(q0, .inr (15, [.ref q1, .ref q2, .ref q3, .ref q4, .ref q5, .ref q6, .int 0, .int 1, .ref q7, .int 0, .ref q8, .null, .ref q9, .null, .ref q10, .ref q11, .ref q12, .ref q13, .ref q14, .int 0, .ref q15, .ref q16, .ref q17, .ref q18, .ref q19, .int 0, .int 0]))] s.heap.size = A at hD hZ ⊢
  have hA : ∀ q : Nat, s.heap.size ≤ q → A q := fun q h => by rw [← hAe]; exact Or.inr h
  have hS : va_S A s.heap s.heap [] := va_S.rf
  have hP : va_P (dC, dI) vwCl [(q0, .inr (15, [.ref q1, .ref q2, .ref q3, .ref q4, .ref q5, .ref q6, .int 0, .int 1, .ref q7, .int 0, .ref q8, .null, .ref q9, .null, .ref q10, .ref q11, .ref q12, .ref q13, .ref q14, .int 0, .ref q15, .ref q16, .ref q17, .ref q18, .ref q19, .int 0, .int 0]))] s.heap := hP
  have hl := lv_entry ([.ref q0, .int p1]) (n := 2) (Nat.le_of_ble_eq_true rfl)
  rw [lg_entry_eq]
  generalize (lg_sl ([.ref q0, .int p1]) ++ List.replicate (2 - (lg_sl ([.ref q0, .int p1])).length) Slot.unset).toArray = ls at hl ⊢
  have hl : lv_has ls 2 [(0, .ref q0), (1, .int p1)] := hl
  refine lv_aload_n hx hb dX13_writtenAt_0 rfl (lv_at hl 0 rfl) ?_
  refine lv_aload_n hx hb dX13_writtenAt_1 rfl (lv_at hl 0 rfl) ?_
  refine va_get (D := (dC, dI)) (ci := 15) (v := .null) (C := RX13) (T := TX13) (N := 27) hx hb hts (fun _ h => List.mem_cons_of_mem _ (List.mem_append_left _ (List.mem_append_right _ h))) hown hK hP 0 rfl rfl 13 (by decide) (hts (.fieldLink RX13 426 "SeekwellModel" "written" "[I") (by decide +kernel)) (fun _ h9 => h9) rfl dX13_writtenAt_2 ?_
  refine lv_ifnullN (tgt := 27) hx hb dX13_writtenAt_5 (by decide) ?_
  refine lv_iconst (v := 0) hx hb dX13_writtenAt_27 (by decide +kernel) ?_
  refine lv_iconst (v := 1) hx hb dX13_writtenAt_28 (by decide +kernel) ?_
  have hPc := hP.sub (ws' := [(q0, .inr (15, [.ref q1, .ref q2, .ref q3, .ref q4, .ref q5, .ref q6, .int 0, .int 1, .ref q7, .int 0, .ref q8, .null, .ref q9, .null, .ref q10, .ref q11, .ref q12, .ref q13, .ref q14, .int 0, .ref q15, .ref q16, .ref q17, .ref q18, .ref q19, .int 0, .int 0]))]) [0] rfl
  have hDc := hD.sub (ws' := [(q0, .inr (15, [.ref q1, .ref q2, .ref q3, .ref q4, .ref q5, .ref q6, .int 0, .int 1, .ref q7, .int 0, .ref q8, .null, .ref q9, .null, .ref q10, .ref q11, .ref q12, .ref q13, .ref q14, .int 0, .ref q15, .ref q16, .ref q17, .ref q18, .ref q19, .int 0, .int 0]))]) [0] (by decide) rfl
  have hKc := hK.sub (tys' := []) [] rfl
  have hFc := va_free (wc := [(q0, .inr (15, [.ref q1, .ref q2, .ref q3, .ref q4, .ref q5, .ref q6, .int 0, .int 1, .ref q7, .int 0, .ref q8, .null, .ref q9, .null, .ref q10, .ref q11, .ref q12, .ref q13, .ref q14, .int 0, .ref q15, .ref q16, .ref q17, .ref q18, .ref q19, .int 0, .int 0]))]) hD hS hA [0] rfl
  refine va_calli (va_runV (As := [.int 0, .int 1]) (rest := []) ⟨hx, hb, hml, hown, hts⟩ (c_X13_no l dC dI q0 q1 q2 q3 q4 q5 q6 q7 q8 q9 q10 q11 q12 q13 q14 q15 q16 q17 q18 q19 s.heap.size  ) (cwV 2 hts gX13_writtenAt_X13_no rfl rfl rfl (by decide +kernel) ⟨Nat.le_of_ble_eq_true rfl, Nat.le_of_ble_eq_true rfl⟩) ⟨zB_blind, va_recv hK hP (ci := 15) (q0 := 0) rfl rfl, (zPre hPc hDc hKc hS hFc hZ hN)⟩ rfl rfl hl.1 rfl (lv_room (Nat.le_of_ble_eq_true rfl)) dX13_writtenAt_29 ⟨Nat.le_of_ble_eq_true rfl, Nat.le_of_ble_eq_true rfl⟩) hS (fun q _ h => hFc q h) hFc (fun r u t H1 locs ht hvm hw hB hz1 hk1 hS => ?_)
  subst hw
  obtain ⟨hP1, hK1, hD1⟩ := hB
  rw [ht] at hP1
  have hK1 := va_K.moved hvm.symm hK1
  obtain ⟨hP, hD⟩ := va_join (wr := []) (w1 := [(q0, .inr (15, [.ref q1, .ref q2, .ref q3, .ref q4, .ref q5, .ref q6, .int 0, .int 1, .ref q7, .int 0, .ref q8, .null, .ref q9, .null, .ref q10, .ref q11, .ref q12, .ref q13, .ref q14, .int 1, .ref q15, .ref q16, .ref q17, .ref q18, .ref q19, .int 0, .int 0]))]) hP hD [0] [] rfl rfl (by decide) (by decide) hk1 hFc hP1 hD1
  have hK := (hK.sub (tys' := []) [] rfl).app hK1
  generalize H1 = H at hP hS ⊢
  have hP : va_P (dC, dI) vwCl [(q0, .inr (15, [.ref q1, .ref q2, .ref q3, .ref q4, .ref q5, .ref q6, .int 0, .int 1, .ref q7, .int 0, .ref q8, .null, .ref q9, .null, .ref q10, .ref q11, .ref q12, .ref q13, .ref q14, .int 1, .ref q15, .ref q16, .ref q17, .ref q18, .ref q19, .int 0, .int 0]))] H := hP
  have hD : va_D A [(q0, .inr (15, [.ref q1, .ref q2, .ref q3, .ref q4, .ref q5, .ref q6, .int 0, .int 1, .ref q7, .int 0, .ref q8, .null, .ref q9, .null, .ref q10, .ref q11, .ref q12, .ref q13, .ref q14, .int 1, .ref q15, .ref q16, .ref q17, .ref q18, .ref q19, .int 0, .int 0]))] := hD
  have hK : va_K (dC, dI) vwCl [] s := hK
  refine W.widen (k := 0) (n := 0) (Nat.le_of_ble_eq_true rfl) (Nat.le_of_ble_eq_true rfl) ?_
  refine lv_if_eq (tgt := 39) hx hb dX13_writtenAt_32 (by decide) (fun h9 => absurd h9 (show ¬ (1 : Int32) = (0 : Int32) by decide +kernel)) (fun _ => ?_)
  refine lv_iconst (v := 0) hx hb dX13_writtenAt_35 (by decide +kernel) ?_
  refine lv_goto (tgt := 45) hx hb dX13_writtenAt_36 (by decide) ?_
  have hP9 := hP.sub (ws' := [(q0, .inr (15, [.ref q1, .ref q2, .ref q3, .ref q4, .ref q5, .ref q6, .int 0, .int 1, .ref q7, .int 0, .ref q8, .null, .ref q9, .null, .ref q10, .ref q11, .ref q12, .ref q13, .ref q14, .int 1, .ref q15, .ref q16, .ref q17, .ref q18, .ref q19, .int 0, .int 0]))]) [0] rfl
  have hD9 := hD.sub (ws' := [(q0, .inr (15, [.ref q1, .ref q2, .ref q3, .ref q4, .ref q5, .ref q6, .int 0, .int 1, .ref q7, .int 0, .ref q8, .null, .ref q9, .null, .ref q10, .ref q11, .ref q12, .ref q13, .ref q14, .int 1, .ref q15, .ref q16, .ref q17, .ref q18, .ref q19, .int 0, .int 0]))]) [0] (by decide) rfl
  have hK9 := hK.sub (tys' := []) [] rfl
  exact W.iret (v := 0) hx hb hr (fun t ht hW => ⟨⟨0, (), rfl, rfl, ⟨by rw [ht]; exact hP9, va_K.moved hW.alike hK9, hD9⟩⟩, hS.F ht⟩) hS.2.2 dX13_writtenAt_45
set_option maxHeartbeats 4000000 in
set_option maxRecDepth 100000 in
theorem c_X11_writtenAt_2 (l : Launch) (hfl : l.stackTraces = false) (dC : Nat → ClassId) (dI : Nat → Nat → Nat) (q0 q1 q2 q3 q4 q5 q6 q7 q8 q9 q10 q11 q12 q13 q14 : Nat) (sz : Nat) (p1 : Int32) (hc0 : ¬ p1 < 0) : vx_Met l yX11_writtenAt wsX11_writtenAt ({ frames := 6, cells := 1, slots := 6, locals := 90 }) (va_Pc [.ref q0, .int p1] (zB (dC, dI) [] [(q0, .inr (13, [.ref q1, .ref q2, .ref q3, .ref q4, .ref q5, .ref q6, .ref q7, .ref q8, .int 0, .ref q9, .ref q10, .ref q11, .ref q12, .ref q13])), (q8, .inr (5, [.ref q14, .int 0, .int 0]))] sz)) (va_Qi (fun (_ : Int32) (_ : Unit) => False) (fun _ _ => True) (va_A [(q0, .inr (13, [.ref q1, .ref q2, .ref q3, .ref q4, .ref q5, .ref q6, .ref q7, .ref q8, .int 0, .ref q9, .ref q10, .ref q11, .ref q12, .ref q13])), (q8, .inr (5, [.ref q14, .int 0, .int 0]))] sz)) (vx_X (fun (_ : Unit) => True) (fun E _ _ => "java/lang/IndexOutOfBoundsException" = E) (va_A [(q0, .inr (13, [.ref q1, .ref q2, .ref q3, .ref q4, .ref q5, .ref q6, .ref q7, .ref q8, .int 0, .ref q9, .ref q10, .ref q11, .ref q12, .ref q13])), (q8, .inr (5, [.ref q14, .int 0, .int 0]))] sz)) 1 6 (va_A [(q0, .inr (13, [.ref q1, .ref q2, .ref q3, .ref q4, .ref q5, .ref q6, .ref q7, .ref q8, .int 0, .ref q9, .ref q10, .ref q11, .ref q12, .ref q13])), (q8, .inr (5, [.ref q14, .int 0, .int 0]))] sz) := by
  refine vx_ofW (cc := cX11_writtenAt) (maxL := 2) (ret := (some .int)) (by decide) rfl ?_
  intro p e s m args below meth c s₁ B hml hnoex hv
  obtain ⟨rfl, hsz, hP, hK, hD0, hZ, hN⟩ := hv
  have hx := B.exec
  have hb := B.bytes
  have hr := B.returns
  have hts := atoms_spec (ws := wsX11_writtenAt) B.pre
  have hown : s.vm.findClass RX11 = some m.cls := findClass_of_methodNamed B.named
  have hlocks := B.notSynchronized
  subst hsz
  have hD := hD0.self (sz := s.heap.size)
  generalize hAe : va_A [(q0, .inr (13, [.ref q1, .ref q2, .ref q3, .ref q4, .ref q5, .ref q6, .ref q7, .ref q8, .int 0, .ref q9, .ref q10, .ref q11, .ref q12, .ref q13])), (q8, .inr (5, [.ref q14, .int 0, .int 0]))] s.heap.size = A at hD hZ ⊢
  have hA : ∀ q : Nat, s.heap.size ≤ q → A q := fun q h => by rw [← hAe]; exact Or.inr h
  have hS : va_S A s.heap s.heap [] := va_S.rf
  have hP : va_P (dC, dI) vwCl [(q0, .inr (13, [.ref q1, .ref q2, .ref q3, .ref q4, .ref q5, .ref q6, .ref q7, .ref q8, .int 0, .ref q9, .ref q10, .ref q11, .ref q12, .ref q13])), (q8, .inr (5, [.ref q14, .int 0, .int 0]))] s.heap := hP
  have hl := lv_entry ([.ref q0, .int p1]) (n := 2) (Nat.le_of_ble_eq_true rfl)
  rw [lg_entry_eq]
  generalize (lg_sl ([.ref q0, .int p1]) ++ List.replicate (2 - (lg_sl ([.ref q0, .int p1])).length) Slot.unset).toArray = ls at hl ⊢
  have hl : lv_has ls 2 [(0, .ref q0), (1, .int p1)] := hl
  refine lv_iload_n hx hb dX11_writtenAt_0 rfl (lv_at hl 1 rfl) ?_
  refine lv_if_lt (tgt := 15) hx hb dX11_writtenAt_1 (by decide) (fun h9 => absurd h9 hc0) (fun _ => ?_)
  refine lv_iload_n hx hb dX11_writtenAt_4 rfl (lv_at hl 1 rfl) ?_
  refine lv_aload_n hx hb dX11_writtenAt_5 rfl (lv_at hl 0 rfl) ?_
  refine va_get (D := (dC, dI)) (ci := 13) (v := .ref q8) (C := RX11) (T := TX11) (N := 14) hx hb hts (fun _ h => List.mem_cons_of_mem _ (List.mem_append_left _ (List.mem_append_left _ (List.mem_append_left _ (List.mem_append_right _ h))))) hown hK hP 0 rfl rfl 7 (by decide) (hts (.fieldLink RX11 46 "Seekwell" "written" "LSeekwell$Bytes;") (by decide +kernel)) (fun _ h9 => h9) rfl dX11_writtenAt_6 ?_
  have hPc := hP.sub (ws' := [(q8, .inr (5, [.ref q14, .int 0, .int 0]))]) [1] rfl
  have hDc := hD.sub (ws' := [(q8, .inr (5, [.ref q14, .int 0, .int 0]))]) [1] (by decide) rfl
  have hKc := hK.sub (tys' := []) [] rfl
  have hFc := va_free (wc := [(q8, .inr (5, [.ref q14, .int 0, .int 0]))]) hD hS hA [1] rfl
  refine va_calli (va_runV (As := []) (rest := [.int p1]) ⟨hx, hb, hml, hown, hts⟩ (c_X2_size l dC dI q8 q14 s.heap.size  ) (cwV 0 hts gX11_writtenAt_X2_size rfl rfl rfl (by decide +kernel) ⟨Nat.le_of_ble_eq_true rfl, Nat.le_of_ble_eq_true rfl⟩) ⟨zB_blind, va_recv hK hP (ci := 5) (q0 := 1) rfl rfl, (zPre hPc hDc hKc hS hFc hZ hN)⟩ rfl rfl hl.1 rfl (lv_room (Nat.le_of_ble_eq_true rfl)) dX11_writtenAt_9 ⟨Nat.le_of_ble_eq_true rfl, Nat.le_of_ble_eq_true rfl⟩) hS (fun q _ h => hFc q h) hFc (fun r u t H1 locs ht hvm hw hB hz1 hk1 hS => ?_)
  subst hw
  obtain ⟨hP1, hK1, hD1⟩ := hB
  rw [ht] at hP1
  have hK1 := va_K.moved hvm.symm hK1
  obtain ⟨hP, hD⟩ := va_join (wr := []) (w1 := []) hP hD [1] [] rfl rfl (by decide) (by decide) hk1 hFc hP1 hD1
  have hK := (hK.sub (tys' := []) [] rfl).app hK1
  generalize H1 = H at hP hS ⊢
  have hP : va_P (dC, dI) vwCl [] H := hP
  have hD : va_D A [] := hD
  have hK : va_K (dC, dI) vwCl [] s := hK
  refine W.widen (k := 0) (n := 0) (Nat.le_of_ble_eq_true rfl) (Nat.le_of_ble_eq_true rfl) ?_
  refine lv_icmp_lt (tgt := 26) hx hb dX11_writtenAt_12 (by decide) (fun h9 => absurd h9 hc0) (fun _ => ?_)
  obtain ⟨sa, hstr⟩ := hN.2.2.2.2.1 (RX11, 300, "no such byte was written") (by decide +kernel)
  refine vx_throwSW (A := A) (cls := "java/lang/IndexOutOfBoundsException") (names := ["java/lang/RuntimeException", "java/lang/Exception"]) (own := RX11) (text := "no such byte was written") hx hb hfl hown (by decide +kernel) (by decide +kernel) (hts (.classLink RX11 104 "java/lang/IndexOutOfBoundsException") (by decide +kernel)) (hts (.initialized "java/lang/IndexOutOfBoundsException") (by decide +kernel)) hstr (vx_hat (B := [Cond.castable "java/lang/IndexOutOfBoundsException" "java/lang/IndexOutOfBoundsException", Cond.declares (Bundle.initS "java/lang/RuntimeException"), Cond.declares (Bundle.initS "java/lang/Exception"), Cond.declares (Bundle.initS Bundle.tN)]) (fun w h => hts w (List.mem_cons_of_mem _ (List.mem_append_left _ (List.mem_append_right _ h)))) (by decide +kernel) (zthr hN (by decide +kernel))) (by decide +kernel) hZ.1 hZ.2 hS (hl.1.trans hml.symm) dX11_writtenAt_15 dX11_writtenAt_18 dX11_writtenAt_19 dX11_writtenAt_22 dX11_writtenAt_25 (fun x h => (hnoex x h).elim) (Nat.lt_of_succ_le (Nat.le_of_ble_eq_true rfl)) (Nat.le_of_ble_eq_true rfl) (Nat.le_of_ble_eq_true rfl) (Nat.le_of_ble_eq_true rfl) hlocks ?_ hS.2.2 (Nat.le_refl _) (Nat.le_refl _)
  exact fun t hvm hz hk => ⟨(), trivial, rfl, zF hS hz hk⟩
set_option maxHeartbeats 4000000 in
set_option maxRecDepth 100000 in
theorem c_L_writtenAt_2 (l : Launch) (hfl : l.stackTraces = false) (dC : Nat → ClassId) (dI : Nat → Nat → Nat) (q0 q1 q2 q3 q4 q5 q6 q7 q8 q9 q10 q11 q12 q13 q14 q15 : Nat) (sz : Nat) (p1 : Int32) (hc0 : ¬ p1 < 0) : Met l yL_writtenAt wsL_writtenAt ({ frames := 7, cells := 1, slots := 6, locals := 111 }) (va_Pc [.ref q0, .int p1, .ref q1] (zB (dC, dI) [] [(q0, .inr (13, [.ref q2, .ref q3, .ref q4, .ref q5, .ref q6, .ref q7, .ref q8, .ref q9, .int 0, .ref q10, .ref q11, .ref q12, .ref q13, .ref q14])), (q9, .inr (5, [.ref q15, .int 0, .int 0]))] sz)) (va_Qi (fun (r : Int32) (_ : Unit) => 1 = r) (fun _ t => zE (dC, dI) [] [] (va_A [(q0, .inr (13, [.ref q2, .ref q3, .ref q4, .ref q5, .ref q6, .ref q7, .ref q8, .ref q9, .int 0, .ref q10, .ref q11, .ref q12, .ref q13, .ref q14])), (q9, .inr (5, [.ref q15, .int 0, .int 0]))] sz) t) (va_A [(q0, .inr (13, [.ref q2, .ref q3, .ref q4, .ref q5, .ref q6, .ref q7, .ref q8, .ref q9, .int 0, .ref q10, .ref q11, .ref q12, .ref q13, .ref q14])), (q9, .inr (5, [.ref q15, .int 0, .int 0]))] sz)) 1 6 (va_A [(q0, .inr (13, [.ref q2, .ref q3, .ref q4, .ref q5, .ref q6, .ref q7, .ref q8, .ref q9, .int 0, .ref q10, .ref q11, .ref q12, .ref q13, .ref q14])), (q9, .inr (5, [.ref q15, .int 0, .int 0]))] sz) := by
  refine va_MetW (cc := cL_writtenAt) (maxL := 4) (ret := (some .int)) (by decide) rfl ?_
  intro p e s m args below meth c s₁ B hml hv
  obtain ⟨rfl, hsz, hP, hK, hD0, hZ, hN⟩ := hv
  have hx := B.exec
  have hb := B.bytes
  have hr := B.returns
  have hts := atoms_spec (ws := wsL_writtenAt) B.pre
  have hown : s.vm.findClass RL = some m.cls := findClass_of_methodNamed B.named
  have hlocks := B.notSynchronized
  have htab := vx_table (x := yL_writtenAt) B (hts (.codeWith yL_writtenAt cL_writtenAt 4 (some .int) [(0, 9, 12, 21)]) List.mem_cons_self)
  subst hsz
  have hD := hD0.self (sz := s.heap.size)
  generalize hAe : va_A [(q0, .inr (13, [.ref q2, .ref q3, .ref q4, .ref q5, .ref q6, .ref q7, .ref q8, .ref q9, .int 0, .ref q10, .ref q11, .ref q12, .ref q13, .ref q14])), (q9, .inr (5, [.ref q15, .int 0, .int 0]))] s.heap.size = A at hD hZ ⊢
  have hA : ∀ q : Nat, s.heap.size ≤ q → A q := fun q h => by rw [← hAe]; exact Or.inr h
  have hS : va_S A s.heap s.heap [] := va_S.rf
  have hP : va_P (dC, dI) vwCl [(q0, .inr (13, [.ref q2, .ref q3, .ref q4, .ref q5, .ref q6, .ref q7, .ref q8, .ref q9, .int 0, .ref q10, .ref q11, .ref q12, .ref q13, .ref q14])), (q9, .inr (5, [.ref q15, .int 0, .int 0]))] s.heap := hP
  have hl := lv_entry ([.ref q0, .int p1, .ref q1]) (n := 4) (Nat.le_of_ble_eq_true rfl)
  rw [lg_entry_eq]
  generalize (lg_sl ([.ref q0, .int p1, .ref q1]) ++ List.replicate (4 - (lg_sl ([.ref q0, .int p1, .ref q1])).length) Slot.unset).toArray = ls at hl ⊢
  have hl : lv_has ls 4 [(0, .ref q0), (1, .int p1), (2, .ref q1)] := hl
  refine lv_aload_n hx hb dL_writtenAt_0 rfl (lv_at hl 2 rfl) ?_
  refine lv_iconst (v := 0) hx hb dL_writtenAt_1 (by decide +kernel) ?_
  refine lv_aload_n hx hb dL_writtenAt_2 rfl (lv_at hl 0 rfl) ?_
  refine lv_iload_n hx hb dL_writtenAt_3 rfl (lv_at hl 1 rfl) ?_
  have hPc := hP.sub (ws' := [(q0, .inr (13, [.ref q2, .ref q3, .ref q4, .ref q5, .ref q6, .ref q7, .ref q8, .ref q9, .int 0, .ref q10, .ref q11, .ref q12, .ref q13, .ref q14])), (q9, .inr (5, [.ref q15, .int 0, .int 0]))]) [0, 1] rfl
  have hDc := hD.sub (ws' := [(q0, .inr (13, [.ref q2, .ref q3, .ref q4, .ref q5, .ref q6, .ref q7, .ref q8, .ref q9, .int 0, .ref q10, .ref q11, .ref q12, .ref q13, .ref q14])), (q9, .inr (5, [.ref q15, .int 0, .int 0]))]) [0, 1] (by decide) rfl
  have hKc := hK.sub (tys' := []) [] rfl
  have hFc := va_free (wc := [(q0, .inr (13, [.ref q2, .ref q3, .ref q4, .ref q5, .ref q6, .ref q7, .ref q8, .ref q9, .int 0, .ref q10, .ref q11, .ref q12, .ref q13, .ref q14])), (q9, .inr (5, [.ref q15, .int 0, .int 0]))]) hD hS hA [0, 1] rfl
  refine vx_calli (vx_runV (As := [.int p1]) (rest := [.int 0, .ref q1]) ⟨hx, hb, hml, hown, hts⟩ (c_X11_writtenAt_2 l hfl dC dI q0 q2 q3 q4 q5 q6 q7 q8 q9 q10 q11 q12 q13 q14 q15 s.heap.size p1 hc0) (cwV 1 hts gL_writtenAt_X11_writtenAt rfl rfl rfl (by decide +kernel) ⟨Nat.le_of_ble_eq_true rfl, Nat.le_of_ble_eq_true rfl⟩) ⟨zB_blind, va_recv hK hP (ci := 13) (q0 := 0) rfl rfl, (zPre hPc hDc hKc hS hFc hZ hN)⟩ rfl rfl hl.1 rfl (lv_room (Nat.le_of_ble_eq_true rfl)) dL_writtenAt_4 ⟨Nat.le_of_ble_eq_true rfl, Nat.le_of_ble_eq_true rfl⟩) hS (fun q _ h => hFc q h) hFc (fun q _ h => hFc q h) (fun E ce qx u t H1 locs1 ht hvm hpx hBX hz1 hk1 hS hq9 hv9 hcl9 => ?_) (fun r u t H1 locs1 _ _ hw => hw.elim)
  subst hBX
  refine vx_catch (name := "java/lang/IndexOutOfBoundsException") hown [] ⟨0, 9, 12, 21⟩ [] (by rw [htab]; rfl) (fun z h => absurd h List.not_mem_nil) rfl (by decide) (hts (.classLink RL 21 "java/lang/IndexOutOfBoundsException") (by decide +kernel)) (va_Nw.use rfl (hN.2.1 "java/lang/IndexOutOfBoundsException" (by decide +kernel))) hq9 hv9 hcl9 ?_
  generalize H1 = H at hS ⊢
  refine W.widen (k := 1) (n := 6) (Nat.le_of_ble_eq_true rfl) (Nat.le_of_ble_eq_true rfl) ?_
  have hP : va_P (dC, dI) vwCl [] H := zP_nil
  have hD : va_D A [] := zD_nil
  have hK := hK.sub (tys' := []) [] rfl
  refine lv_astore_n (lv' := [(3, .ref qx), (0, .ref q0), (1, .int p1), (2, .ref q1)]) hx hb dL_writtenAt_12 rfl hl (by decide) rfl (fun ls hl => ?_)
  refine lv_iconst (v := 1) hx hb dL_writtenAt_13 (by decide +kernel) ?_
  have hP9 := hP.sub (ws' := []) [] rfl
  have hD9 := hD.sub (ws' := []) [] (by decide) rfl
  have hK9 := hK.sub (tys' := []) [] rfl
  exact W.iret (v := 1) hx hb hr (fun t ht hW => ⟨⟨1, (), rfl, rfl, ⟨by rw [ht]; exact hP9, va_K.moved hW.alike hK9, hD9⟩⟩, hS.F ht⟩) hS.2.2 dL_writtenAt_14
set_option maxHeartbeats 4000000 in
set_option maxRecDepth 100000 in
theorem c_X11_reread (l : Launch) (hfl : l.stackTraces = false) (dC : Nat → ClassId) (dI : Nat → Nat → Nat) (q0 q1 q2 q3 q4 q5 q6 q7 q8 q9 q10 q11 q12 q13 : Nat) (sz : Nat) : vx_Met l yX11_reread wsX11_reread ({ frames := 6, cells := 1, slots := 6, locals := 90 }) (va_Pc [.ref q0] (zB (dC, dI) [] [(q0, .inr (13, [.ref q1, .ref q2, .ref q3, .ref q4, .ref q5, .ref q6, .ref q7, .ref q8, .int 0, .ref q9, .ref q10, .ref q11, .ref q12, .ref q13]))] sz)) (va_Qi (fun (_ : Int32) (_ : Unit) => False) (fun _ _ => True) (va_A [(q0, .inr (13, [.ref q1, .ref q2, .ref q3, .ref q4, .ref q5, .ref q6, .ref q7, .ref q8, .int 0, .ref q9, .ref q10, .ref q11, .ref q12, .ref q13]))] sz)) (vx_X (fun (_ : Unit) => True) (fun E _ _ => "java/util/NoSuchElementException" = E) (va_A [(q0, .inr (13, [.ref q1, .ref q2, .ref q3, .ref q4, .ref q5, .ref q6, .ref q7, .ref q8, .int 0, .ref q9, .ref q10, .ref q11, .ref q12, .ref q13]))] sz)) 1 6 (va_A [(q0, .inr (13, [.ref q1, .ref q2, .ref q3, .ref q4, .ref q5, .ref q6, .ref q7, .ref q8, .int 0, .ref q9, .ref q10, .ref q11, .ref q12, .ref q13]))] sz) := by
  refine vx_ofW (cc := cX11_reread) (maxL := 1) (ret := (some .int)) (by decide) rfl ?_
  intro p e s m args below meth c s₁ B hml hnoex hv
  obtain ⟨rfl, hsz, hP, hK, hD0, hZ, hN⟩ := hv
  have hx := B.exec
  have hb := B.bytes
  have hr := B.returns
  have hts := atoms_spec (ws := wsX11_reread) B.pre
  have hown : s.vm.findClass RX11 = some m.cls := findClass_of_methodNamed B.named
  have hlocks := B.notSynchronized
  subst hsz
  have hD := hD0.self (sz := s.heap.size)
  generalize hAe : va_A [(q0, .inr (13, [.ref q1, .ref q2, .ref q3, .ref q4, .ref q5, .ref q6, .ref q7, .ref q8, .int 0, .ref q9, .ref q10, .ref q11, .ref q12, .ref q13]))] s.heap.size = A at hD hZ ⊢
  have hA : ∀ q : Nat, s.heap.size ≤ q → A q := fun q h => by rw [← hAe]; exact Or.inr h
  have hS : va_S A s.heap s.heap [] := va_S.rf
  have hP : va_P (dC, dI) vwCl [(q0, .inr (13, [.ref q1, .ref q2, .ref q3, .ref q4, .ref q5, .ref q6, .ref q7, .ref q8, .int 0, .ref q9, .ref q10, .ref q11, .ref q12, .ref q13]))] s.heap := hP
  have hl := lv_entry ([.ref q0]) (n := 1) (Nat.le_of_ble_eq_true rfl)
  rw [lg_entry_eq]
  generalize (lg_sl ([.ref q0]) ++ List.replicate (1 - (lg_sl ([.ref q0])).length) Slot.unset).toArray = ls at hl ⊢
  have hl : lv_has ls 1 [(0, .ref q0)] := hl
  refine lv_aload_n hx hb dX11_reread_0 rfl (lv_at hl 0 rfl) ?_
  refine va_get (D := (dC, dI)) (ci := 13) (v := .int 0) (C := RX11) (T := TX11) (N := 14) hx hb hts (fun _ h => List.mem_cons_of_mem _ (List.mem_append_left _ (List.mem_append_left _ (List.mem_append_left _ (List.mem_append_left _ (List.mem_append_left _ (List.mem_append_left _ (List.mem_append_left _ (List.mem_append_left _ (List.mem_append_right _ h)))))))))) hown hK hP 0 rfl rfl 8 (by decide) (hts (.fieldLink RX11 49 "Seekwell" "hasWritten" "Z") (by decide +kernel)) (fun _ h9 => h9) rfl dX11_reread_1 ?_
  refine lv_if_ne (tgt := 18) hx hb dX11_reread_4 (by decide) (fun h9 => absurd (show (0 : Int32) = (0 : Int32) by decide +kernel) h9) (fun _ => ?_)
  obtain ⟨sa, hstr⟩ := hN.2.2.2.2.1 (RX11, 302, "nothing was written") (by decide +kernel)
  refine z_throwSXW (ix := 13) (rx := prog_42_method_4_code) (A := A) (cls := "java/util/NoSuchElementException") (names := ["java/lang/RuntimeException", "java/lang/Exception"]) (own := RX11) (text := "nothing was written") hx hb hfl (by decide +kernel) (by decide +kernel) (by decide +kernel) (by decide +kernel) hown (by decide +kernel) (by decide +kernel) (hts (.classLink RX11 195 "java/util/NoSuchElementException") (by decide +kernel)) (hts (.initialized "java/util/NoSuchElementException") (by decide +kernel)) hstr (vx_hat (B := [Cond.castable "java/util/NoSuchElementException" "java/util/NoSuchElementException", Cond.declares (Bundle.initS "java/lang/RuntimeException"), Cond.declares (Bundle.initS "java/lang/Exception"), Cond.declares (Bundle.initS Bundle.tN)]) (fun w h => hts w (List.mem_cons_of_mem _ (List.mem_append_left _ (List.mem_append_right _ h)))) (by decide +kernel) (zthr hN (by decide +kernel))) (by decide +kernel) hZ.1 hZ.2 hS (hl.1.trans hml.symm) dX11_reread_7 dX11_reread_10 dX11_reread_11 dX11_reread_14 dX11_reread_17 (fun x h => (hnoex x h).elim) (Nat.lt_of_succ_le (Nat.le_of_ble_eq_true rfl)) (Nat.le_of_ble_eq_true rfl) (Nat.le_of_ble_eq_true rfl) (Nat.le_of_ble_eq_true rfl) hlocks ?_ hS.2.2 (Nat.le_refl _) (Nat.le_refl _)
  exact fun t hvm hz hk => ⟨(), trivial, rfl, zF hS hz hk⟩
set_option maxHeartbeats 4000000 in
set_option maxRecDepth 100000 in
theorem c_L_reread (l : Launch) (hfl : l.stackTraces = false) (dC : Nat → ClassId) (dI : Nat → Nat → Nat) (q0 q1 q2 q3 q4 q5 q6 q7 q8 q9 q10 q11 q12 q13 q14 : Nat) (sz : Nat) : Met l yL_reread wsL_reread ({ frames := 7, cells := 1, slots := 6, locals := 110 }) (va_Pc [.ref q0, .ref q1] (zB (dC, dI) [] [(q0, .inr (13, [.ref q2, .ref q3, .ref q4, .ref q5, .ref q6, .ref q7, .ref q8, .ref q9, .int 0, .ref q10, .ref q11, .ref q12, .ref q13, .ref q14]))] sz)) (va_Qi (fun (r : Int32) (_ : Unit) => 1 = r) (fun _ t => zE (dC, dI) [] [] (va_A [(q0, .inr (13, [.ref q2, .ref q3, .ref q4, .ref q5, .ref q6, .ref q7, .ref q8, .ref q9, .int 0, .ref q10, .ref q11, .ref q12, .ref q13, .ref q14]))] sz) t) (va_A [(q0, .inr (13, [.ref q2, .ref q3, .ref q4, .ref q5, .ref q6, .ref q7, .ref q8, .ref q9, .int 0, .ref q10, .ref q11, .ref q12, .ref q13, .ref q14]))] sz)) 1 6 (va_A [(q0, .inr (13, [.ref q2, .ref q3, .ref q4, .ref q5, .ref q6, .ref q7, .ref q8, .ref q9, .int 0, .ref q10, .ref q11, .ref q12, .ref q13, .ref q14]))] sz) := by
  refine va_MetW (cc := cL_reread) (maxL := 3) (ret := (some .int)) (by decide) rfl ?_
  intro p e s m args below meth c s₁ B hml hv
  obtain ⟨rfl, hsz, hP, hK, hD0, hZ, hN⟩ := hv
  have hx := B.exec
  have hb := B.bytes
  have hr := B.returns
  have hts := atoms_spec (ws := wsL_reread) B.pre
  have hown : s.vm.findClass RL = some m.cls := findClass_of_methodNamed B.named
  have hlocks := B.notSynchronized
  have htab := vx_table (x := yL_reread) B (hts (.codeWith yL_reread cL_reread 3 (some .int) [(0, 8, 11, 31)]) List.mem_cons_self)
  subst hsz
  have hD := hD0.self (sz := s.heap.size)
  generalize hAe : va_A [(q0, .inr (13, [.ref q2, .ref q3, .ref q4, .ref q5, .ref q6, .ref q7, .ref q8, .ref q9, .int 0, .ref q10, .ref q11, .ref q12, .ref q13, .ref q14]))] s.heap.size = A at hD hZ ⊢
  have hA : ∀ q : Nat, s.heap.size ≤ q → A q := fun q h => by rw [← hAe]; exact Or.inr h
  have hS : va_S A s.heap s.heap [] := va_S.rf
  have hP : va_P (dC, dI) vwCl [(q0, .inr (13, [.ref q2, .ref q3, .ref q4, .ref q5, .ref q6, .ref q7, .ref q8, .ref q9, .int 0, .ref q10, .ref q11, .ref q12, .ref q13, .ref q14]))] s.heap := hP
  have hl := lv_entry ([.ref q0, .ref q1]) (n := 3) (Nat.le_of_ble_eq_true rfl)
  rw [lg_entry_eq]
  generalize (lg_sl ([.ref q0, .ref q1]) ++ List.replicate (3 - (lg_sl ([.ref q0, .ref q1])).length) Slot.unset).toArray = ls at hl ⊢
  have hl : lv_has ls 3 [(0, .ref q0), (1, .ref q1)] := hl
  refine lv_aload_n hx hb dL_reread_0 rfl (lv_at hl 1 rfl) ?_
  refine lv_iconst (v := 0) hx hb dL_reread_1 (by decide +kernel) ?_
  refine lv_aload_n hx hb dL_reread_2 rfl (lv_at hl 0 rfl) ?_
  have hPc := hP.sub (ws' := [(q0, .inr (13, [.ref q2, .ref q3, .ref q4, .ref q5, .ref q6, .ref q7, .ref q8, .ref q9, .int 0, .ref q10, .ref q11, .ref q12, .ref q13, .ref q14]))]) [0] rfl
  have hDc := hD.sub (ws' := [(q0, .inr (13, [.ref q2, .ref q3, .ref q4, .ref q5, .ref q6, .ref q7, .ref q8, .ref q9, .int 0, .ref q10, .ref q11, .ref q12, .ref q13, .ref q14]))]) [0] (by decide) rfl
  have hKc := hK.sub (tys' := []) [] rfl
  have hFc := va_free (wc := [(q0, .inr (13, [.ref q2, .ref q3, .ref q4, .ref q5, .ref q6, .ref q7, .ref q8, .ref q9, .int 0, .ref q10, .ref q11, .ref q12, .ref q13, .ref q14]))]) hD hS hA [0] rfl
  refine vx_calli (vx_runV (As := []) (rest := [.int 0, .ref q1]) ⟨hx, hb, hml, hown, hts⟩ (c_X11_reread l hfl dC dI q0 q2 q3 q4 q5 q6 q7 q8 q9 q10 q11 q12 q13 q14 s.heap.size  ) (cwV 0 hts gL_reread_X11_reread rfl rfl rfl (by decide +kernel) ⟨Nat.le_of_ble_eq_true rfl, Nat.le_of_ble_eq_true rfl⟩) ⟨zB_blind, va_recv hK hP (ci := 13) (q0 := 0) rfl rfl, (zPre hPc hDc hKc hS hFc hZ hN)⟩ rfl rfl hl.1 rfl (lv_room (Nat.le_of_ble_eq_true rfl)) dL_reread_3 ⟨Nat.le_of_ble_eq_true rfl, Nat.le_of_ble_eq_true rfl⟩) hS (fun q _ h => hFc q h) hFc (fun q _ h => hFc q h) (fun E ce qx u t H1 locs1 ht hvm hpx hBX hz1 hk1 hS hq9 hv9 hcl9 => ?_) (fun r u t H1 locs1 _ _ hw => hw.elim)
  subst hBX
  refine vx_catch (name := "java/util/NoSuchElementException") hown [] ⟨0, 8, 11, 31⟩ [] (by rw [htab]; rfl) (fun z h => absurd h List.not_mem_nil) rfl (by decide) (hts (.classLink RL 31 "java/util/NoSuchElementException") (by decide +kernel)) (va_Nw.use rfl (hN.2.1 "java/util/NoSuchElementException" (by decide +kernel))) hq9 hv9 hcl9 ?_
  generalize H1 = H at hS ⊢
  refine W.widen (k := 1) (n := 6) (Nat.le_of_ble_eq_true rfl) (Nat.le_of_ble_eq_true rfl) ?_
  have hP : va_P (dC, dI) vwCl [] H := zP_nil
  have hD : va_D A [] := zD_nil
  have hK := hK.sub (tys' := []) [] rfl
  refine lv_astore_n (lv' := [(2, .ref qx), (0, .ref q0), (1, .ref q1)]) hx hb dL_reread_11 rfl hl (by decide) rfl (fun ls hl => ?_)
  refine lv_iconst (v := 1) hx hb dL_reread_12 (by decide +kernel) ?_
  have hP9 := hP.sub (ws' := []) [] rfl
  have hD9 := hD.sub (ws' := []) [] (by decide) rfl
  have hK9 := hK.sub (tys' := []) [] rfl
  exact W.iret (v := 1) hx hb hr (fun t ht hW => ⟨⟨1, (), rfl, rfl, ⟨by rw [ht]; exact hP9, va_K.moved hW.alike hK9, hD9⟩⟩, hS.F ht⟩) hS.2.2 dL_reread_13
set_option maxHeartbeats 4000000 in
set_option maxRecDepth 100000 in
theorem c_X13_reread (l : Launch) (dC : Nat → ClassId) (dI : Nat → Nat → Nat) (q0 q1 q2 q3 q4 q5 q6 q7 q8 q9 q10 q11 q12 q13 q14 q15 q16 q17 q18 q19 : Nat) (sz : Nat) : Met l yX13_reread wsX13_reread ({ frames := 1, cells := 0, slots := 0, locals := 22 }) (va_Pc [.ref q0] (zB (dC, dI) [] [(q0, .inr (15, [.ref q1, .ref q2, .ref q3, .ref q4, .ref q5, .ref q6, .int 0, .int 1, .ref q7, .int 0, .ref q8, .null, .ref q9, .null, .ref q10, .ref q11, .ref q12, .ref q13, .ref q14, .int 0, .ref q15, .ref q16, .ref q17, .ref q18, .ref q19, .int 0, .int 0]))] sz)) (va_Qi (fun (r : Int32) (_ : Unit) => 0 = r) (fun _ t => zE (dC, dI) [] [(q0, .inr (15, [.ref q1, .ref q2, .ref q3, .ref q4, .ref q5, .ref q6, .int 0, .int 1, .ref q7, .int 0, .ref q8, .null, .ref q9, .null, .ref q10, .ref q11, .ref q12, .ref q13, .ref q14, .int 1, .ref q15, .ref q16, .ref q17, .ref q18, .ref q19, .int 0, .int 0]))] (va_A [(q0, .inr (15, [.ref q1, .ref q2, .ref q3, .ref q4, .ref q5, .ref q6, .int 0, .int 1, .ref q7, .int 0, .ref q8, .null, .ref q9, .null, .ref q10, .ref q11, .ref q12, .ref q13, .ref q14, .int 0, .ref q15, .ref q16, .ref q17, .ref q18, .ref q19, .int 0, .int 0]))] sz) t) (va_A [(q0, .inr (15, [.ref q1, .ref q2, .ref q3, .ref q4, .ref q5, .ref q6, .int 0, .int 1, .ref q7, .int 0, .ref q8, .null, .ref q9, .null, .ref q10, .ref q11, .ref q12, .ref q13, .ref q14, .int 0, .ref q15, .ref q16, .ref q17, .ref q18, .ref q19, .int 0, .int 0]))] sz)) 0 0 (va_A [(q0, .inr (15, [.ref q1, .ref q2, .ref q3, .ref q4, .ref q5, .ref q6, .int 0, .int 1, .ref q7, .int 0, .ref q8, .null, .ref q9, .null, .ref q10, .ref q11, .ref q12, .ref q13, .ref q14, .int 0, .ref q15, .ref q16, .ref q17, .ref q18, .ref q19, .int 0, .int 0]))] sz) := by
  refine Met.ofW (cc := cX13_reread) (maxL := 2) (ret := (some .int)) (by decide) rfl ?_
  intro p e s m args below meth c s₁ B hml hv
  obtain ⟨rfl, hsz, hP, hK, hD0, hZ, hN⟩ := hv
  have hx := B.exec
  have hb := B.bytes
  have hr := B.returns
  have hts := atoms_spec (ws := wsX13_reread) B.pre
  have hown : s.vm.findClass RX13 = some m.cls := findClass_of_methodNamed B.named
  have hlocks := B.notSynchronized
  subst hsz
  have hD := hD0.self (sz := s.heap.size)
  generalize hAe : va_A [(q0, .inr (15, [.ref q1, .ref q2, .ref q3, .ref q4, .ref q5, .ref q6, .int 0, .int 1, .ref q7, .int 0, .ref q8, .null, .ref q9, .null, .ref q10, .ref q11, .ref q12, .ref q13, .ref q14, .int 0, .ref q15, .ref q16, .ref q17, .ref q18, .ref q19, .int 0, .int 0]))] s.heap.size = A at hD hZ ⊢
  have hA : ∀ q : Nat, s.heap.size ≤ q → A q := fun q h => by rw [← hAe]; exact Or.inr h
  have hS : va_S A s.heap s.heap [] := va_S.rf
  have hP : va_P (dC, dI) vwCl [(q0, .inr (15, [.ref q1, .ref q2, .ref q3, .ref q4, .ref q5, .ref q6, .int 0, .int 1, .ref q7, .int 0, .ref q8, .null, .ref q9, .null, .ref q10, .ref q11, .ref q12, .ref q13, .ref q14, .int 0, .ref q15, .ref q16, .ref q17, .ref q18, .ref q19, .int 0, .int 0]))] s.heap := hP
  have hl := lv_entry ([.ref q0]) (n := 2) (Nat.le_of_ble_eq_true rfl)
  rw [lg_entry_eq]
  generalize (lg_sl ([.ref q0]) ++ List.replicate (2 - (lg_sl ([.ref q0])).length) Slot.unset).toArray = ls at hl ⊢
  have hl : lv_has ls 2 [(0, .ref q0)] := hl
  refine lv_aload_n hx hb dX13_reread_0 rfl (lv_at hl 0 rfl) ?_
  refine lv_aload_n hx hb dX13_reread_1 rfl (lv_at hl 0 rfl) ?_
  refine va_get (D := (dC, dI)) (ci := 15) (v := .null) (C := RX13) (T := TX13) (N := 27) hx hb hts (fun _ h => List.mem_cons_of_mem _ (List.mem_append_left _ (List.mem_append_right _ h))) hown hK hP 0 rfl rfl 13 (by decide) (hts (.fieldLink RX13 426 "SeekwellModel" "written" "[I") (by decide +kernel)) (fun _ h9 => h9) rfl dX13_reread_2 ?_
  refine lv_ifnullN (tgt := 12) hx hb dX13_reread_5 (by decide) ?_
  refine lv_iconst (v := 0) hx hb dX13_reread_12 (by decide +kernel) ?_
  refine lv_iconst (v := 1) hx hb dX13_reread_13 (by decide +kernel) ?_
  have hPc := hP.sub (ws' := [(q0, .inr (15, [.ref q1, .ref q2, .ref q3, .ref q4, .ref q5, .ref q6, .int 0, .int 1, .ref q7, .int 0, .ref q8, .null, .ref q9, .null, .ref q10, .ref q11, .ref q12, .ref q13, .ref q14, .int 0, .ref q15, .ref q16, .ref q17, .ref q18, .ref q19, .int 0, .int 0]))]) [0] rfl
  have hDc := hD.sub (ws' := [(q0, .inr (15, [.ref q1, .ref q2, .ref q3, .ref q4, .ref q5, .ref q6, .int 0, .int 1, .ref q7, .int 0, .ref q8, .null, .ref q9, .null, .ref q10, .ref q11, .ref q12, .ref q13, .ref q14, .int 0, .ref q15, .ref q16, .ref q17, .ref q18, .ref q19, .int 0, .int 0]))]) [0] (by decide) rfl
  have hKc := hK.sub (tys' := []) [] rfl
  have hFc := va_free (wc := [(q0, .inr (15, [.ref q1, .ref q2, .ref q3, .ref q4, .ref q5, .ref q6, .int 0, .int 1, .ref q7, .int 0, .ref q8, .null, .ref q9, .null, .ref q10, .ref q11, .ref q12, .ref q13, .ref q14, .int 0, .ref q15, .ref q16, .ref q17, .ref q18, .ref q19, .int 0, .int 0]))]) hD hS hA [0] rfl
  refine va_calli (va_runV (As := [.int 0, .int 1]) (rest := []) ⟨hx, hb, hml, hown, hts⟩ (c_X13_no l dC dI q0 q1 q2 q3 q4 q5 q6 q7 q8 q9 q10 q11 q12 q13 q14 q15 q16 q17 q18 q19 s.heap.size  ) (cwV 2 hts gX13_reread_X13_no rfl rfl rfl (by decide +kernel) ⟨Nat.le_of_ble_eq_true rfl, Nat.le_of_ble_eq_true rfl⟩) ⟨zB_blind, va_recv hK hP (ci := 15) (q0 := 0) rfl rfl, (zPre hPc hDc hKc hS hFc hZ hN)⟩ rfl rfl hl.1 rfl (lv_room (Nat.le_of_ble_eq_true rfl)) dX13_reread_14 ⟨Nat.le_of_ble_eq_true rfl, Nat.le_of_ble_eq_true rfl⟩) hS (fun q _ h => hFc q h) hFc (fun r u t H1 locs ht hvm hw hB hz1 hk1 hS => ?_)
  subst hw
  obtain ⟨hP1, hK1, hD1⟩ := hB
  rw [ht] at hP1
  have hK1 := va_K.moved hvm.symm hK1
  obtain ⟨hP, hD⟩ := va_join (wr := []) (w1 := [(q0, .inr (15, [.ref q1, .ref q2, .ref q3, .ref q4, .ref q5, .ref q6, .int 0, .int 1, .ref q7, .int 0, .ref q8, .null, .ref q9, .null, .ref q10, .ref q11, .ref q12, .ref q13, .ref q14, .int 1, .ref q15, .ref q16, .ref q17, .ref q18, .ref q19, .int 0, .int 0]))]) hP hD [0] [] rfl rfl (by decide) (by decide) hk1 hFc hP1 hD1
  have hK := (hK.sub (tys' := []) [] rfl).app hK1
  generalize H1 = H at hP hS ⊢
  have hP : va_P (dC, dI) vwCl [(q0, .inr (15, [.ref q1, .ref q2, .ref q3, .ref q4, .ref q5, .ref q6, .int 0, .int 1, .ref q7, .int 0, .ref q8, .null, .ref q9, .null, .ref q10, .ref q11, .ref q12, .ref q13, .ref q14, .int 1, .ref q15, .ref q16, .ref q17, .ref q18, .ref q19, .int 0, .int 0]))] H := hP
  have hD : va_D A [(q0, .inr (15, [.ref q1, .ref q2, .ref q3, .ref q4, .ref q5, .ref q6, .int 0, .int 1, .ref q7, .int 0, .ref q8, .null, .ref q9, .null, .ref q10, .ref q11, .ref q12, .ref q13, .ref q14, .int 1, .ref q15, .ref q16, .ref q17, .ref q18, .ref q19, .int 0, .int 0]))] := hD
  have hK : va_K (dC, dI) vwCl [] s := hK
  refine W.widen (k := 0) (n := 0) (Nat.le_of_ble_eq_true rfl) (Nat.le_of_ble_eq_true rfl) ?_
  refine lv_if_eq (tgt := 22) hx hb dX13_reread_17 (by decide) (fun h9 => absurd h9 (show ¬ (1 : Int32) = (0 : Int32) by decide +kernel)) (fun _ => ?_)
  refine lv_iconst (v := 0) hx hb dX13_reread_20 (by decide +kernel) ?_
  have hP9 := hP.sub (ws' := [(q0, .inr (15, [.ref q1, .ref q2, .ref q3, .ref q4, .ref q5, .ref q6, .int 0, .int 1, .ref q7, .int 0, .ref q8, .null, .ref q9, .null, .ref q10, .ref q11, .ref q12, .ref q13, .ref q14, .int 1, .ref q15, .ref q16, .ref q17, .ref q18, .ref q19, .int 0, .int 0]))]) [0] rfl
  have hD9 := hD.sub (ws' := [(q0, .inr (15, [.ref q1, .ref q2, .ref q3, .ref q4, .ref q5, .ref q6, .int 0, .int 1, .ref q7, .int 0, .ref q8, .null, .ref q9, .null, .ref q10, .ref q11, .ref q12, .ref q13, .ref q14, .int 1, .ref q15, .ref q16, .ref q17, .ref q18, .ref q19, .int 0, .int 0]))]) [0] (by decide) rfl
  have hK9 := hK.sub (tys' := []) [] rfl
  exact W.iret (v := 0) hx hb hr (fun t ht hW => ⟨⟨0, (), rfl, rfl, ⟨by rw [ht]; exact hP9, va_K.moved hW.alike hK9, hD9⟩⟩, hS.F ht⟩) hS.2.2 dX13_reread_21
set_option maxHeartbeats 4000000 in
set_option maxRecDepth 100000 in
theorem c_X8_countIn_3 (l : Launch) (dC : Nat → ClassId) (dI : Nat → Nat → Nat) (q0 q1 : Nat) (sz : Nat) : Met l yX8_countIn wsX8_countIn ({ frames := 0, cells := 0, slots := 0, locals := 0 }) (va_Pc [.ref q0, .int 0] (zB (dC, dI) [] [(q0, .inr (11, [.ref q1, .int 0, .int 1]))] sz)) (va_Qi (fun (r : Int32) (_ : Unit) => 0 = r) (fun _ t => zE (dC, dI) [] [(q0, .inr (11, [.ref q1, .int 0, .int 1]))] (va_A [(q0, .inr (11, [.ref q1, .int 0, .int 1]))] sz) t) (va_A [(q0, .inr (11, [.ref q1, .int 0, .int 1]))] sz)) 0 0 (va_A [(q0, .inr (11, [.ref q1, .int 0, .int 1]))] sz) := by
  refine Met.ofW (cc := cX8_countIn) (maxL := 5) (ret := (some .int)) (by decide) rfl ?_
  intro p e s m args below meth c s₁ B hml hv
  obtain ⟨rfl, hsz, hP, hK, hD0, hZ, hN⟩ := hv
  have hx := B.exec
  have hb := B.bytes
  have hr := B.returns
  have hts := atoms_spec (ws := wsX8_countIn) B.pre
  have hown : s.vm.findClass RX8 = some m.cls := findClass_of_methodNamed B.named
  have hlocks := B.notSynchronized
  subst hsz
  have hD := hD0.self (sz := s.heap.size)
  generalize hAe : va_A [(q0, .inr (11, [.ref q1, .int 0, .int 1]))] s.heap.size = A at hD hZ ⊢
  have hA : ∀ q : Nat, s.heap.size ≤ q → A q := fun q h => by rw [← hAe]; exact Or.inr h
  have hS : va_S A s.heap s.heap [] := va_S.rf
  have hP : va_P (dC, dI) vwCl [(q0, .inr (11, [.ref q1, .int 0, .int 1]))] s.heap := hP
  have hl := lv_entry ([.ref q0, .int 0]) (n := 5) (Nat.le_of_ble_eq_true rfl)
  rw [lg_entry_eq]
  generalize (lg_sl ([.ref q0, .int 0]) ++ List.replicate (5 - (lg_sl ([.ref q0, .int 0])).length) Slot.unset).toArray = ls at hl ⊢
  have hl : lv_has ls 5 [(0, .ref q0), (1, .int 0)] := hl
  refine lv_iconst (v := 0) hx hb dX8_countIn_0 (by decide +kernel) ?_
  refine lv_istore_n (lv' := [(2, .int 0), (0, .ref q0), (1, .int 0)]) hx hb dX8_countIn_1 rfl hl (by decide) rfl (fun ls hl => ?_)
  refine lv_iconst (v := 0) hx hb dX8_countIn_2 (by decide +kernel) ?_
  refine lv_istore_n (lv' := [(3, .int 0), (2, .int 0), (0, .ref q0), (1, .int 0)]) hx hb dX8_countIn_3 rfl hl (by decide) rfl (fun ls hl => ?_)
  refine lv_iload_n hx hb dX8_countIn_4 rfl (lv_at hl 0 rfl) ?_
  refine lv_aload_n hx hb dX8_countIn_5 rfl (lv_at hl 2 rfl) ?_
  refine va_get (D := (dC, dI)) (ci := 11) (v := .int 0) (C := RX8) (T := TX8) (N := 3) hx hb hts (fun _ h => List.mem_cons_of_mem _ (List.mem_append_left _ (List.mem_append_right _ h))) hown hK hP 0 rfl rfl 1 (by decide) (hts (.fieldLink RX8 17 "Seekwell$Shelf" "came" "I") (by decide +kernel)) (fun _ h9 => h9) rfl dX8_countIn_6 ?_
  refine lv_icmp_ge (tgt := 42) hx hb dX8_countIn_9 (by decide) (fun _ => ?_) (fun h9 => absurd (show (0 : Int32) ≤ (0 : Int32) by decide +kernel) h9)
  refine lv_iload_n hx hb dX8_countIn_42 rfl (lv_at hl 1 rfl) ?_
  have hP9 := hP.sub (ws' := [(q0, .inr (11, [.ref q1, .int 0, .int 1]))]) [0] rfl
  have hD9 := hD.sub (ws' := [(q0, .inr (11, [.ref q1, .int 0, .int 1]))]) [0] (by decide) rfl
  have hK9 := hK.sub (tys' := []) [] rfl
  exact W.iret (v := 0) hx hb hr (fun t ht hW => ⟨⟨0, (), rfl, rfl, ⟨by rw [ht]; exact hP9, va_K.moved hW.alike hK9, hD9⟩⟩, hS.F ht⟩) hS.2.2 dX8_countIn_43
