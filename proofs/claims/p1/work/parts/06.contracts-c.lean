/-! contracts, written by program -/
set_option maxHeartbeats 4000000 in
set_option maxRecDepth 100000 in
theorem c_X13_no_3 (l : Launch) (dC : Nat → ClassId) (dI : Nat → Nat → Nat) (q0 q1 q2 q3 q4 q5 q6 q7 q8 q9 q10 q11 q12 q13 q14 q15 q16 q17 q18 q19 : Nat) (sz : Nat) : Met l yX13_no wsX13_no ({ frames := 0, cells := 0, slots := 0, locals := 0 }) (va_Pc [.ref q0, .int 1, .int 2] (zB (dC, dI) [] [(q0, .inr (15, [.ref q1, .ref q2, .ref q3, .ref q4, .ref q5, .ref q6, .int 0, .int 1, .ref q7, .int 0, .ref q8, .null, .ref q9, .null, .ref q10, .ref q11, .ref q12, .ref q13, .ref q14, .int 0, .ref q15, .ref q16, .ref q17, .ref q18, .ref q19, .int 0, .int 0]))] sz)) (va_Qi (fun (r : Int32) (_ : Unit) => 0 = r) (fun _ t => zE (dC, dI) [] [(q0, .inr (15, [.ref q1, .ref q2, .ref q3, .ref q4, .ref q5, .ref q6, .int 0, .int 1, .ref q7, .int 0, .ref q8, .null, .ref q9, .null, .ref q10, .ref q11, .ref q12, .ref q13, .ref q14, .int 0, .ref q15, .ref q16, .ref q17, .ref q18, .ref q19, .int 0, .int 0]))] (va_A [(q0, .inr (15, [.ref q1, .ref q2, .ref q3, .ref q4, .ref q5, .ref q6, .int 0, .int 1, .ref q7, .int 0, .ref q8, .null, .ref q9, .null, .ref q10, .ref q11, .ref q12, .ref q13, .ref q14, .int 0, .ref q15, .ref q16, .ref q17, .ref q18, .ref q19, .int 0, .int 0]))] sz) t) (va_A [(q0, .inr (15, [.ref q1, .ref q2, .ref q3, .ref q4, .ref q5, .ref q6, .int 0, .int 1, .ref q7, .int 0, .ref q8, .null, .ref q9, .null, .ref q10, .ref q11, .ref q12, .ref q13, .ref q14, .int 0, .ref q15, .ref q16, .ref q17, .ref q18, .ref q19, .int 0, .int 0]))] sz)) 0 0 (va_A [(q0, .inr (15, [.ref q1, .ref q2, .ref q3, .ref q4, .ref q5, .ref q6, .int 0, .int 1, .ref q7, .int 0, .ref q8, .null, .ref q9, .null, .ref q10, .ref q11, .ref q12, .ref q13, .ref q14, .int 0, .ref q15, .ref q16, .ref q17, .ref q18, .ref q19, .int 0, .int 0]))] sz) := by
  refine Met.ofW (cc := cX13_no) (maxL := 3) (ret := (some .boolean)) (by decide) rfl ?_
  intro p e s m args below meth c s₁ B hml hv
  obtain ⟨rfl, hsz, hP, hK, hD0, hZ, hN⟩ := hv
  have hx := B.exec
  have hb := B.bytes
  have hr := B.returns
  have hts := atoms_spec (ws := wsX13_no) B.pre
  have hown : s.vm.findClass RX13 = some m.cls := findClass_of_methodNamed B.named
  have hlocks := B.notSynchronized
  subst hsz
  have hD := hD0.self (sz := s.heap.size)
  generalize hAe : va_A [(q0, .inr (15, [.ref q1, .ref q2, .ref q3, .ref q4, .ref q5, .ref q6, .int 0, .int 1, .ref q7, .int 0, .ref q8, .null, .ref q9, .null, .ref q10, .ref q11, .ref q12, .ref q13, .ref q14, .int 0, .ref q15, .ref q16, .ref q17, .ref q18, .ref q19, .int 0, .int 0]))] s.heap.size = A at hD hZ ⊢
  have hA : ∀ q : Nat, s.heap.size ≤ q → A q := fun q h => by rw [← hAe]; exact Or.inr h
  have hS : va_S A s.heap s.heap [] := va_S.rf
  have hP : va_P (dC, dI) vwCl [(q0, .inr (15, [.ref q1, .ref q2, .ref q3, .ref q4, .ref q5, .ref q6, .int 0, .int 1, .ref q7, .int 0, .ref q8, .null, .ref q9, .null, .ref q10, .ref q11, .ref q12, .ref q13, .ref q14, .int 0, .ref q15, .ref q16, .ref q17, .ref q18, .ref q19, .int 0, .int 0]))] s.heap := hP
  have hl := lv_entry ([.ref q0, .int 1, .int 2]) (n := 3) (Nat.le_of_ble_eq_true rfl)
  rw [lg_entry_eq]
  generalize (lg_sl ([.ref q0, .int 1, .int 2]) ++ List.replicate (3 - (lg_sl ([.ref q0, .int 1, .int 2])).length) Slot.unset).toArray = ls at hl ⊢
  have hl : lv_has ls 3 [(0, .ref q0), (1, .int 1), (2, .int 2)] := hl
  refine lv_aload_n hx hb dX13_no_0 rfl (lv_at hl 0 rfl) ?_
  refine lv_iload_n hx hb dX13_no_1 rfl (lv_at hl 1 rfl) ?_
  refine lv_if_eq (tgt := 9) hx hb dX13_no_2 (by decide) (fun h9 => absurd h9 (show ¬ (1 : Int32) = (0 : Int32) by decide +kernel)) (fun _ => ?_)
  refine lv_iconst (v := 0) hx hb dX13_no_5 (by decide +kernel) ?_
  refine lv_goto (tgt := 10) hx hb dX13_no_6 (by decide) ?_
  refine va_put (D := (dC, dI)) (ci := 15) (v := .int 0) (ty := .int) (C := RX13) (T := TX13) (N := 27) hx hb hts (fun _ h => List.mem_cons_of_mem _ (List.mem_append_right _ h)) tyX13 tyX13_ok nmX13 hown hK hP hD hS 0 rfl rfl 19 (by decide) (hts (.fieldLink RX13 82 "SeekwellModel" "thrown" "I") (by decide +kernel)) (fun _ h9 => h9) rfl (by decide +kernel) rfl rfl (Nat.le_of_ble_eq_true rfl) dX13_no_10 (fun H locs hP hD hS => ?_)
  have hP : va_P (dC, dI) vwCl [(q0, .inr (15, [.ref q1, .ref q2, .ref q3, .ref q4, .ref q5, .ref q6, .int 0, .int 1, .ref q7, .int 0, .ref q8, .null, .ref q9, .null, .ref q10, .ref q11, .ref q12, .ref q13, .ref q14, .int 0, .ref q15, .ref q16, .ref q17, .ref q18, .ref q19, .int 0, .int 0]))] H := hP
  have hD : va_D A [(q0, .inr (15, [.ref q1, .ref q2, .ref q3, .ref q4, .ref q5, .ref q6, .int 0, .int 1, .ref q7, .int 0, .ref q8, .null, .ref q9, .null, .ref q10, .ref q11, .ref q12, .ref q13, .ref q14, .int 0, .ref q15, .ref q16, .ref q17, .ref q18, .ref q19, .int 0, .int 0]))] := hD
  refine lv_iload_n hx hb dX13_no_13 rfl (lv_at hl 1 rfl) ?_
  refine lv_if_ne (tgt := 21) hx hb dX13_no_14 (by decide) (fun _ => ?_) (fun h9 => absurd h9 (show ¬ (1 : Int32) = (0 : Int32) by decide +kernel))
  refine lv_iconst (v := 0) hx hb dX13_no_21 (by decide +kernel) ?_
  have hP9 := hP.sub (ws' := [(q0, .inr (15, [.ref q1, .ref q2, .ref q3, .ref q4, .ref q5, .ref q6, .int 0, .int 1, .ref q7, .int 0, .ref q8, .null, .ref q9, .null, .ref q10, .ref q11, .ref q12, .ref q13, .ref q14, .int 0, .ref q15, .ref q16, .ref q17, .ref q18, .ref q19, .int 0, .int 0]))]) [0] rfl
  have hD9 := hD.sub (ws' := [(q0, .inr (15, [.ref q1, .ref q2, .ref q3, .ref q4, .ref q5, .ref q6, .int 0, .int 1, .ref q7, .int 0, .ref q8, .null, .ref q9, .null, .ref q10, .ref q11, .ref q12, .ref q13, .ref q14, .int 0, .ref q15, .ref q16, .ref q17, .ref q18, .ref q19, .int 0, .int 0]))]) [0] (by decide) rfl
  have hK9 := hK.sub (tys' := []) [] rfl
  exact W.zret (v := 0) hx hb hr (by decide +kernel) (fun t ht hW => ⟨⟨0, (), rfl, rfl, ⟨by rw [ht]; exact hP9, va_K.moved hW.alike hK9, hD9⟩⟩, hS.F ht⟩) hS.2.2 dX13_no_22
set_option maxHeartbeats 4000000 in
set_option maxRecDepth 100000 in
theorem c_X13_adds (l : Launch) (dC : Nat → ClassId) (dI : Nat → Nat → Nat) (q0 q1 q2 q3 q4 q5 q6 q7 q8 q9 q10 q11 q12 q13 q14 q15 q16 q17 q18 q19 : Nat) (k0 : ClassId) (sz : Nat) (p1 : Int32) : Met l yX13_adds wsX13_adds ({ frames := 0, cells := 0, slots := 0, locals := 0 }) (va_Pc [.ref q0, .int p1] (zB (dC, dI) [(k0, .int)] [(q0, .inr (15, [.ref q1, .ref q2, .ref q3, .ref q4, .ref q5, .ref q6, .int 0, .int 1, .ref q7, .int 0, .ref q8, .null, .ref q9, .null, .ref q10, .ref q11, .ref q12, .ref q13, .ref q14, .int 0, .ref q15, .ref q16, .ref q17, .ref q18, .ref q19, .int 0, .int 0])), (q7, .inl (k0, 4000, .inl (fun _ => 0)))] sz)) (va_Qv (fun (_ : Unit) => True) (fun _ t => zE (dC, dI) [] [(q0, .inr (15, [.ref q1, .ref q2, .ref q3, .ref q4, .ref q5, .ref q6, .int 0, .int 1, .ref q7, .int 1, .ref q8, .null, .ref q9, .null, .ref q10, .ref q11, .ref q12, .ref q13, .ref q14, .int 0, .ref q15, .ref q16, .ref q17, .ref q18, .ref q19, .int 0, .int 0]))] (va_A [(q0, .inr (15, [.ref q1, .ref q2, .ref q3, .ref q4, .ref q5, .ref q6, .int 0, .int 1, .ref q7, .int 0, .ref q8, .null, .ref q9, .null, .ref q10, .ref q11, .ref q12, .ref q13, .ref q14, .int 0, .ref q15, .ref q16, .ref q17, .ref q18, .ref q19, .int 0, .int 0])), (q7, .inl (k0, 4000, .inl (fun _ => 0)))] sz) t) (va_A [(q0, .inr (15, [.ref q1, .ref q2, .ref q3, .ref q4, .ref q5, .ref q6, .int 0, .int 1, .ref q7, .int 0, .ref q8, .null, .ref q9, .null, .ref q10, .ref q11, .ref q12, .ref q13, .ref q14, .int 0, .ref q15, .ref q16, .ref q17, .ref q18, .ref q19, .int 0, .int 0])), (q7, .inl (k0, 4000, .inl (fun _ => 0)))] sz)) 0 0 (va_A [(q0, .inr (15, [.ref q1, .ref q2, .ref q3, .ref q4, .ref q5, .ref q6, .int 0, .int 1, .ref q7, .int 0, .ref q8, .null, .ref q9, .null, .ref q10, .ref q11, .ref q12, .ref q13, .ref q14, .int 0, .ref q15, .ref q16, .ref q17, .ref q18, .ref q19, .int 0, .int 0])), (q7, .inl (k0, 4000, .inl (fun _ => 0)))] sz) := by
  refine Met.ofW (cc := cX13_adds) (maxL := 2) (ret := none) (by decide) rfl ?_
  intro p e s m args below meth c s₁ B hml hv
  obtain ⟨rfl, hsz, hP, hK, hD0, hZ, hN⟩ := hv
  have hx := B.exec
  have hb := B.bytes
  have hr := B.returns
  have hts := atoms_spec (ws := wsX13_adds) B.pre
  have hown : s.vm.findClass RX13 = some m.cls := findClass_of_methodNamed B.named
  have hlocks := B.notSynchronized
  subst hsz
  have hD := hD0.self (sz := s.heap.size)
  generalize hAe : va_A [(q0, .inr (15, [.ref q1, .ref q2, .ref q3, .ref q4, .ref q5, .ref q6, .int 0, .int 1, .ref q7, .int 0, .ref q8, .null, .ref q9, .null, .ref q10, .ref q11, .ref q12, .ref q13, .ref q14, .int 0, .ref q15, .ref q16, .ref q17, .ref q18, .ref q19, .int 0, .int 0])), (q7, .inl (k0, 4000, .inl (fun _ => 0)))] s.heap.size = A at hD hZ ⊢
  have hA : ∀ q : Nat, s.heap.size ≤ q → A q := fun q h => by rw [← hAe]; exact Or.inr h
  have hS : va_S A s.heap s.heap [] := va_S.rf
  have hP : va_P (dC, dI) vwCl [(q0, .inr (15, [.ref q1, .ref q2, .ref q3, .ref q4, .ref q5, .ref q6, .int 0, .int 1, .ref q7, .int 0, .ref q8, .null, .ref q9, .null, .ref q10, .ref q11, .ref q12, .ref q13, .ref q14, .int 0, .ref q15, .ref q16, .ref q17, .ref q18, .ref q19, .int 0, .int 0])), (q7, .inl (k0, 4000, .inl (fun _ => 0)))] s.heap := hP
  have hl := lv_entry ([.ref q0, .int p1]) (n := 2) (Nat.le_of_ble_eq_true rfl)
  rw [lg_entry_eq]
  generalize (lg_sl ([.ref q0, .int p1]) ++ List.replicate (2 - (lg_sl ([.ref q0, .int p1])).length) Slot.unset).toArray = ls at hl ⊢
  have hl : lv_has ls 2 [(0, .ref q0), (1, .int p1)] := hl
  refine lv_aload_n hx hb dX13_adds_0 rfl (lv_at hl 0 rfl) ?_
  refine va_get (D := (dC, dI)) (ci := 15) (v := .ref q7) (C := RX13) (T := TX13) (N := 27) hx hb hts (fun _ h => List.mem_cons_of_mem _ (List.mem_append_left _ (List.mem_append_right _ h))) hown hK hP 0 rfl rfl 8 (by decide) (hts (.fieldLink RX13 37 "SeekwellModel" "signs" "[I") (by decide +kernel)) (fun _ h9 => h9) rfl dX13_adds_1 ?_
  refine lv_aload_n hx hb dX13_adds_4 rfl (lv_at hl 0 rfl) ?_
  refine va_get (D := (dC, dI)) (ci := 15) (v := .int 0) (C := RX13) (T := TX13) (N := 27) hx hb hts (fun _ h => List.mem_cons_of_mem _ (List.mem_append_left _ (List.mem_append_right _ h))) hown hK hP 0 rfl rfl 9 (by decide) (hts (.fieldLink RX13 132 "SeekwellModel" "typed" "I") (by decide +kernel)) (fun _ h9 => h9) rfl dX13_adds_5 ?_
  refine lv_iload_n hx hb dX13_adds_8 rfl (lv_at hl 1 rfl) ?_
  refine va_iast (D := (dC, dI)) hx hb hK hP hD hS 1 0 rfl rfl (i := 0) (x := p1) (zin (by decide +kernel)) dX13_adds_9 (fun H locs hP hD hS => ?_)
  have hP : va_P (dC, dI) vwCl [(q0, .inr (15, [.ref q1, .ref q2, .ref q3, .ref q4, .ref q5, .ref q6, .int 0, .int 1, .ref q7, .int 0, .ref q8, .null, .ref q9, .null, .ref q10, .ref q11, .ref q12, .ref q13, .ref q14, .int 0, .ref q15, .ref q16, .ref q17, .ref q18, .ref q19, .int 0, .int 0])), (q7, .inl (k0, 4000, .inl (upd (fun _ => 0) (0 : Int32).toNatClampNeg p1)))] H := hP
  have hD : va_D A [(q0, .inr (15, [.ref q1, .ref q2, .ref q3, .ref q4, .ref q5, .ref q6, .int 0, .int 1, .ref q7, .int 0, .ref q8, .null, .ref q9, .null, .ref q10, .ref q11, .ref q12, .ref q13, .ref q14, .int 0, .ref q15, .ref q16, .ref q17, .ref q18, .ref q19, .int 0, .int 0])), (q7, .inl (k0, 4000, .inl (upd (fun _ => 0) (0 : Int32).toNatClampNeg p1)))] := hD
  refine lv_aload_n hx hb dX13_adds_10 rfl (lv_at hl 0 rfl) ?_
  refine lv_dup hx hb dX13_adds_11 rfl ?_
  refine va_get (D := (dC, dI)) (ci := 15) (v := .int 0) (C := RX13) (T := TX13) (N := 27) hx hb hts (fun _ h => List.mem_cons_of_mem _ (List.mem_append_left _ (List.mem_append_right _ h))) hown hK hP 0 rfl rfl 9 (by decide) (hts (.fieldLink RX13 132 "SeekwellModel" "typed" "I") (by decide +kernel)) (fun _ h9 => h9) rfl dX13_adds_12 ?_
  refine lv_iconst (v := 1) hx hb dX13_adds_15 (by decide +kernel) ?_
  refine lv_iadd hx hb dX13_adds_16 ?_
  refine zt_i (v := 1) (by decide +kernel) ?_
  refine va_put (D := (dC, dI)) (ci := 15) (v := .int 1) (ty := .int) (C := RX13) (T := TX13) (N := 27) hx hb hts (fun _ h => List.mem_cons_of_mem _ (List.mem_append_left _ (List.mem_append_right _ h))) tyX13 tyX13_ok nmX13 hown hK hP hD hS 0 rfl rfl 9 (by decide) (hts (.fieldLink RX13 132 "SeekwellModel" "typed" "I") (by decide +kernel)) (fun _ h9 => h9) rfl (by decide +kernel) rfl rfl (Nat.le_of_ble_eq_true rfl) dX13_adds_17 (fun H locs hP hD hS => ?_)
  have hP : va_P (dC, dI) vwCl [(q0, .inr (15, [.ref q1, .ref q2, .ref q3, .ref q4, .ref q5, .ref q6, .int 0, .int 1, .ref q7, .int 1, .ref q8, .null, .ref q9, .null, .ref q10, .ref q11, .ref q12, .ref q13, .ref q14, .int 0, .ref q15, .ref q16, .ref q17, .ref q18, .ref q19, .int 0, .int 0])), (q7, .inl (k0, 4000, .inl (upd (fun _ => 0) (0 : Int32).toNatClampNeg p1)))] H := hP
  have hD : va_D A [(q0, .inr (15, [.ref q1, .ref q2, .ref q3, .ref q4, .ref q5, .ref q6, .int 0, .int 1, .ref q7, .int 1, .ref q8, .null, .ref q9, .null, .ref q10, .ref q11, .ref q12, .ref q13, .ref q14, .int 0, .ref q15, .ref q16, .ref q17, .ref q18, .ref q19, .int 0, .int 0])), (q7, .inl (k0, 4000, .inl (upd (fun _ => 0) (0 : Int32).toNatClampNeg p1)))] := hD
  have hP9 := hP.sub (ws' := [(q0, .inr (15, [.ref q1, .ref q2, .ref q3, .ref q4, .ref q5, .ref q6, .int 0, .int 1, .ref q7, .int 1, .ref q8, .null, .ref q9, .null, .ref q10, .ref q11, .ref q12, .ref q13, .ref q14, .int 0, .ref q15, .ref q16, .ref q17, .ref q18, .ref q19, .int 0, .int 0]))]) [0] rfl
  have hD9 := hD.sub (ws' := [(q0, .inr (15, [.ref q1, .ref q2, .ref q3, .ref q4, .ref q5, .ref q6, .int 0, .int 1, .ref q7, .int 1, .ref q8, .null, .ref q9, .null, .ref q10, .ref q11, .ref q12, .ref q13, .ref q14, .int 0, .ref q15, .ref q16, .ref q17, .ref q18, .ref q19, .int 0, .int 0]))]) [0] (by decide) rfl
  have hK9 := hK.sub (tys' := []) [] rfl
  exact W.vret hx hb hr (fun t ht hW => ⟨⟨(), rfl, trivial, ⟨by rw [ht]; exact hP9, va_K.moved hW.alike hK9, hD9⟩⟩, hS.F ht⟩) hS.2.2 dX13_adds_20
set_option maxHeartbeats 4000000 in
set_option maxRecDepth 100000 in
theorem c_X13_type_2 (l : Launch) (dC : Nat → ClassId) (dI : Nat → Nat → Nat) (q0 q1 q2 q3 q4 q5 q6 q7 q8 q9 q10 q11 q12 q13 q14 q15 q16 q17 q18 q19 : Nat) (k0 : ClassId) (sz : Nat) (p1 : Int32) (hc0 : ¬ p1 < 32) (hc1 : ¬ (126 : Int32) < p1) : Met l yX13_type wsX13_type ({ frames := 1, cells := 0, slots := 0, locals := 22 }) (va_Pc [.ref q0, .int p1] (zB (dC, dI) [(k0, .int)] [(q0, .inr (15, [.ref q1, .ref q2, .ref q3, .ref q4, .ref q5, .ref q6, .int 0, .int 1, .ref q7, .int 0, .ref q8, .null, .ref q9, .null, .ref q10, .ref q11, .ref q12, .ref q13, .ref q14, .int 0, .ref q15, .ref q16, .ref q17, .ref q18, .ref q19, .int 0, .int 0])), (q7, .inl (k0, 4000, .inl (fun _ => 0)))] sz)) (va_Qi (fun (r : Int32) (_ : Unit) => 1 = r) (fun _ t => zE (dC, dI) [] [(q0, .inr (15, [.ref q1, .ref q2, .ref q3, .ref q4, .ref q5, .ref q6, .int 0, .int 1, .ref q7, .int 1, .ref q8, .null, .ref q9, .null, .ref q10, .ref q11, .ref q12, .ref q13, .ref q14, .int 0, .ref q15, .ref q16, .ref q17, .ref q18, .ref q19, .int 0, .int 0]))] (va_A [(q0, .inr (15, [.ref q1, .ref q2, .ref q3, .ref q4, .ref q5, .ref q6, .int 0, .int 1, .ref q7, .int 0, .ref q8, .null, .ref q9, .null, .ref q10, .ref q11, .ref q12, .ref q13, .ref q14, .int 0, .ref q15, .ref q16, .ref q17, .ref q18, .ref q19, .int 0, .int 0])), (q7, .inl (k0, 4000, .inl (fun _ => 0)))] sz) t) (va_A [(q0, .inr (15, [.ref q1, .ref q2, .ref q3, .ref q4, .ref q5, .ref q6, .int 0, .int 1, .ref q7, .int 0, .ref q8, .null, .ref q9, .null, .ref q10, .ref q11, .ref q12, .ref q13, .ref q14, .int 0, .ref q15, .ref q16, .ref q17, .ref q18, .ref q19, .int 0, .int 0])), (q7, .inl (k0, 4000, .inl (fun _ => 0)))] sz)) 0 0 (va_A [(q0, .inr (15, [.ref q1, .ref q2, .ref q3, .ref q4, .ref q5, .ref q6, .int 0, .int 1, .ref q7, .int 0, .ref q8, .null, .ref q9, .null, .ref q10, .ref q11, .ref q12, .ref q13, .ref q14, .int 0, .ref q15, .ref q16, .ref q17, .ref q18, .ref q19, .int 0, .int 0])), (q7, .inl (k0, 4000, .inl (fun _ => 0)))] sz) := by
  refine Met.ofW (cc := cX13_type) (maxL := 2) (ret := (some .int)) (by decide) rfl ?_
  intro p e s m args below meth c s₁ B hml hv
  obtain ⟨rfl, hsz, hP, hK, hD0, hZ, hN⟩ := hv
  have hx := B.exec
  have hb := B.bytes
  have hr := B.returns
  have hts := atoms_spec (ws := wsX13_type) B.pre
  have hown : s.vm.findClass RX13 = some m.cls := findClass_of_methodNamed B.named
  have hlocks := B.notSynchronized
  subst hsz
  have hD := hD0.self (sz := s.heap.size)
  generalize hAe : va_A [(q0, .inr (15, [.ref q1, .ref q2, .ref q3, .ref q4, .ref q5, .ref q6, .int 0, .int 1, .ref q7, .int 0, .ref q8, .null, .ref q9, .null, .ref q10, .ref q11, .ref q12, .ref q13, .ref q14, .int 0, .ref q15, .ref q16, .ref q17, .ref q18, .ref q19, .int 0, .int 0])), (q7, .inl (k0, 4000, .inl (fun _ => 0)))] s.heap.size = A at hD hZ ⊢
  have hA : ∀ q : Nat, s.heap.size ≤ q → A q := fun q h => by rw [← hAe]; exact Or.inr h
  have hS : va_S A s.heap s.heap [] := va_S.rf
  have hP : va_P (dC, dI) vwCl [(q0, .inr (15, [.ref q1, .ref q2, .ref q3, .ref q4, .ref q5, .ref q6, .int 0, .int 1, .ref q7, .int 0, .ref q8, .null, .ref q9, .null, .ref q10, .ref q11, .ref q12, .ref q13, .ref q14, .int 0, .ref q15, .ref q16, .ref q17, .ref q18, .ref q19, .int 0, .int 0])), (q7, .inl (k0, 4000, .inl (fun _ => 0)))] s.heap := hP
  have hl := lv_entry ([.ref q0, .int p1]) (n := 2) (Nat.le_of_ble_eq_true rfl)
  rw [lg_entry_eq]
  generalize (lg_sl ([.ref q0, .int p1]) ++ List.replicate (2 - (lg_sl ([.ref q0, .int p1])).length) Slot.unset).toArray = ls at hl ⊢
  have hl : lv_has ls 2 [(0, .ref q0), (1, .int p1)] := hl
  refine lv_aload_n hx hb dX13_type_0 rfl (lv_at hl 0 rfl) ?_
  refine lv_iload_n hx hb dX13_type_1 rfl (lv_at hl 1 rfl) ?_
  refine lv_bipush (v := 32) hx hb dX13_type_2 (by decide +kernel) ?_
  refine lv_bipush (v := 126) hx hb dX13_type_4 (by decide +kernel) ?_
  have hPc := hP.sub (ws' := []) [] rfl
  have hDc := hD.sub (ws' := []) [] (by decide) rfl
  have hKc := hK.sub (tys' := []) [] rfl
  have hFc := va_free (wc := []) hD hS hA [] rfl
  refine va_calli (va_runS (As := [.int p1, .int 32, .int 126]) (rest := [.ref q0]) ⟨hx, hb, hml, hown, hts⟩ (c_X13_in_2 l dC dI  s.heap.size p1 hc0 hc1) (va_cwS 3 hts gX13_type_X13_in rfl rfl rfl (by decide +kernel) ⟨Nat.le_of_ble_eq_true rfl, Nat.le_of_ble_eq_true rfl⟩) ⟨zB_blind, (zPre hPc hDc hKc hS hFc hZ hN)⟩ rfl rfl hl.1 rfl (lv_room (Nat.le_of_ble_eq_true rfl)) dX13_type_6 ⟨Nat.le_of_ble_eq_true rfl, Nat.le_of_ble_eq_true rfl⟩) hS (fun q _ h => hFc q h) hFc (fun r u t H1 locs ht hvm hw hB hz1 hk1 hS => ?_)
  subst hw
  obtain ⟨hP1, hK1, hD1⟩ := hB
  rw [ht] at hP1
  have hK1 := va_K.moved hvm.symm hK1
  obtain ⟨hP, hD⟩ := va_join (wr := [(q0, .inr (15, [.ref q1, .ref q2, .ref q3, .ref q4, .ref q5, .ref q6, .int 0, .int 1, .ref q7, .int 0, .ref q8, .null, .ref q9, .null, .ref q10, .ref q11, .ref q12, .ref q13, .ref q14, .int 0, .ref q15, .ref q16, .ref q17, .ref q18, .ref q19, .int 0, .int 0])), (q7, .inl (k0, 4000, .inl (fun _ => 0)))]) (w1 := []) hP hD [] [0, 1] rfl rfl (by decide) (by decide) hk1 hFc hP1 hD1
  have hK := (hK.sub (tys' := [(k0, .int)]) [0] rfl).app hK1
  generalize H1 = H at hP hS ⊢
  have hP : va_P (dC, dI) vwCl [(q0, .inr (15, [.ref q1, .ref q2, .ref q3, .ref q4, .ref q5, .ref q6, .int 0, .int 1, .ref q7, .int 0, .ref q8, .null, .ref q9, .null, .ref q10, .ref q11, .ref q12, .ref q13, .ref q14, .int 0, .ref q15, .ref q16, .ref q17, .ref q18, .ref q19, .int 0, .int 0])), (q7, .inl (k0, 4000, .inl (fun _ => 0)))] H := hP
  have hD : va_D A [(q0, .inr (15, [.ref q1, .ref q2, .ref q3, .ref q4, .ref q5, .ref q6, .int 0, .int 1, .ref q7, .int 0, .ref q8, .null, .ref q9, .null, .ref q10, .ref q11, .ref q12, .ref q13, .ref q14, .int 0, .ref q15, .ref q16, .ref q17, .ref q18, .ref q19, .int 0, .int 0])), (q7, .inl (k0, 4000, .inl (fun _ => 0)))] := hD
  have hK : va_K (dC, dI) vwCl [(k0, .int)] s := hK
  refine W.widen (k := 0) (n := 0) (Nat.le_of_ble_eq_true rfl) (Nat.le_of_ble_eq_true rfl) ?_
  refine lv_iconst (v := 1) hx hb dX13_type_9 (by decide +kernel) ?_
  have hPc := hP.sub (ws' := [(q0, .inr (15, [.ref q1, .ref q2, .ref q3, .ref q4, .ref q5, .ref q6, .int 0, .int 1, .ref q7, .int 0, .ref q8, .null, .ref q9, .null, .ref q10, .ref q11, .ref q12, .ref q13, .ref q14, .int 0, .ref q15, .ref q16, .ref q17, .ref q18, .ref q19, .int 0, .int 0]))]) [0] rfl
  have hDc := hD.sub (ws' := [(q0, .inr (15, [.ref q1, .ref q2, .ref q3, .ref q4, .ref q5, .ref q6, .int 0, .int 1, .ref q7, .int 0, .ref q8, .null, .ref q9, .null, .ref q10, .ref q11, .ref q12, .ref q13, .ref q14, .int 0, .ref q15, .ref q16, .ref q17, .ref q18, .ref q19, .int 0, .int 0]))]) [0] (by decide) rfl
  have hKc := hK.sub (tys' := []) [] rfl
  have hFc := va_free (wc := [(q0, .inr (15, [.ref q1, .ref q2, .ref q3, .ref q4, .ref q5, .ref q6, .int 0, .int 1, .ref q7, .int 0, .ref q8, .null, .ref q9, .null, .ref q10, .ref q11, .ref q12, .ref q13, .ref q14, .int 0, .ref q15, .ref q16, .ref q17, .ref q18, .ref q19, .int 0, .int 0]))]) hD hS hA [0] rfl
  refine va_calli (va_runV (As := [.int 1, .int 1]) (rest := []) ⟨hx, hb, hml, hown, hts⟩ (c_X13_no_2 l dC dI q0 q1 q2 q3 q4 q5 q6 q7 q8 q9 q10 q11 q12 q13 q14 q15 q16 q17 q18 q19 H.size  ) (cwV 2 hts gX13_type_X13_no rfl rfl rfl (by decide +kernel) ⟨Nat.le_of_ble_eq_true rfl, Nat.le_of_ble_eq_true rfl⟩) ⟨zB_blind, va_recv hK hP (ci := 15) (q0 := 0) rfl rfl, (zPre hPc hDc hKc hS hFc hZ hN)⟩ rfl rfl hl.1 rfl (lv_room (Nat.le_of_ble_eq_true rfl)) dX13_type_10 ⟨Nat.le_of_ble_eq_true rfl, Nat.le_of_ble_eq_true rfl⟩) hS (fun q _ h => hFc q h) hFc (fun r u t H1 locs ht hvm hw hB hz1 hk1 hS => ?_)
  subst hw
  obtain ⟨hP1, hK1, hD1⟩ := hB
  rw [ht] at hP1
  have hK1 := va_K.moved hvm.symm hK1
  obtain ⟨hP, hD⟩ := va_join (wr := [(q7, .inl (k0, 4000, .inl (fun _ => 0)))]) (w1 := [(q0, .inr (15, [.ref q1, .ref q2, .ref q3, .ref q4, .ref q5, .ref q6, .int 0, .int 1, .ref q7, .int 0, .ref q8, .null, .ref q9, .null, .ref q10, .ref q11, .ref q12, .ref q13, .ref q14, .int 0, .ref q15, .ref q16, .ref q17, .ref q18, .ref q19, .int 0, .int 0]))]) hP hD [0] [1] rfl rfl (by decide) (by decide) hk1 hFc hP1 hD1
  have hK := (hK.sub (tys' := [(k0, .int)]) [0] rfl).app hK1
  generalize H1 = H at hP hS ⊢
  have hP : va_P (dC, dI) vwCl [(q7, .inl (k0, 4000, .inl (fun _ => 0))), (q0, .inr (15, [.ref q1, .ref q2, .ref q3, .ref q4, .ref q5, .ref q6, .int 0, .int 1, .ref q7, .int 0, .ref q8, .null, .ref q9, .null, .ref q10, .ref q11, .ref q12, .ref q13, .ref q14, .int 0, .ref q15, .ref q16, .ref q17, .ref q18, .ref q19, .int 0, .int 0]))] H := hP
  have hD : va_D A [(q7, .inl (k0, 4000, .inl (fun _ => 0))), (q0, .inr (15, [.ref q1, .ref q2, .ref q3, .ref q4, .ref q5, .ref q6, .int 0, .int 1, .ref q7, .int 0, .ref q8, .null, .ref q9, .null, .ref q10, .ref q11, .ref q12, .ref q13, .ref q14, .int 0, .ref q15, .ref q16, .ref q17, .ref q18, .ref q19, .int 0, .int 0]))] := hD
  have hK : va_K (dC, dI) vwCl [(k0, .int)] s := hK
  refine W.widen (k := 0) (n := 0) (Nat.le_of_ble_eq_true rfl) (Nat.le_of_ble_eq_true rfl) ?_
  refine lv_if_ne (tgt := 39) hx hb dX13_type_13 (by decide) (fun h9 => absurd (show (0 : Int32) = (0 : Int32) by decide +kernel) h9) (fun _ => ?_)
  refine lv_aload_n hx hb dX13_type_16 rfl (lv_at hl 0 rfl) ?_
  refine lv_aload_n hx hb dX13_type_17 rfl (lv_at hl 0 rfl) ?_
  refine va_get (D := (dC, dI)) (ci := 15) (v := .int 0) (C := RX13) (T := TX13) (N := 27) hx hb hts (fun _ h => List.mem_cons_of_mem _ (List.mem_append_left _ (List.mem_append_right _ h))) hown hK hP 1 rfl rfl 9 (by decide) (hts (.fieldLink RX13 132 "SeekwellModel" "typed" "I") (by decide +kernel)) (fun _ h9 => h9) rfl dX13_type_18 ?_
  refine lv_sipush (v := 160) hx hb dX13_type_21 (by decide +kernel) ?_
  refine lv_icmp_ge (tgt := 31) hx hb dX13_type_24 (by decide) (fun h9 => absurd h9 (show ¬ (160 : Int32) ≤ (0 : Int32) by decide +kernel)) (fun _ => ?_)
  refine lv_iconst (v := 1) hx hb dX13_type_27 (by decide +kernel) ?_
  refine lv_goto (tgt := 32) hx hb dX13_type_28 (by decide) ?_
  refine lv_iconst (v := 2) hx hb dX13_type_32 (by decide +kernel) ?_
  have hPc := hP.sub (ws' := [(q0, .inr (15, [.ref q1, .ref q2, .ref q3, .ref q4, .ref q5, .ref q6, .int 0, .int 1, .ref q7, .int 0, .ref q8, .null, .ref q9, .null, .ref q10, .ref q11, .ref q12, .ref q13, .ref q14, .int 0, .ref q15, .ref q16, .ref q17, .ref q18, .ref q19, .int 0, .int 0]))]) [1] rfl
  have hDc := hD.sub (ws' := [(q0, .inr (15, [.ref q1, .ref q2, .ref q3, .ref q4, .ref q5, .ref q6, .int 0, .int 1, .ref q7, .int 0, .ref q8, .null, .ref q9, .null, .ref q10, .ref q11, .ref q12, .ref q13, .ref q14, .int 0, .ref q15, .ref q16, .ref q17, .ref q18, .ref q19, .int 0, .int 0]))]) [1] (by decide) rfl
  have hKc := hK.sub (tys' := []) [] rfl
  have hFc := va_free (wc := [(q0, .inr (15, [.ref q1, .ref q2, .ref q3, .ref q4, .ref q5, .ref q6, .int 0, .int 1, .ref q7, .int 0, .ref q8, .null, .ref q9, .null, .ref q10, .ref q11, .ref q12, .ref q13, .ref q14, .int 0, .ref q15, .ref q16, .ref q17, .ref q18, .ref q19, .int 0, .int 0]))]) hD hS hA [1] rfl
  refine va_calli (va_runV (As := [.int 1, .int 2]) (rest := []) ⟨hx, hb, hml, hown, hts⟩ (c_X13_no_3 l dC dI q0 q1 q2 q3 q4 q5 q6 q7 q8 q9 q10 q11 q12 q13 q14 q15 q16 q17 q18 q19 H.size  ) (cwV 2 hts gX13_type_X13_no rfl rfl rfl (by decide +kernel) ⟨Nat.le_of_ble_eq_true rfl, Nat.le_of_ble_eq_true rfl⟩) ⟨zB_blind, va_recv hK hP (ci := 15) (q0 := 1) rfl rfl, (zPre hPc hDc hKc hS hFc hZ hN)⟩ rfl rfl hl.1 rfl (lv_room (Nat.le_of_ble_eq_true rfl)) dX13_type_33 ⟨Nat.le_of_ble_eq_true rfl, Nat.le_of_ble_eq_true rfl⟩) hS (fun q _ h => hFc q h) hFc (fun r u t H1 locs ht hvm hw hB hz1 hk1 hS => ?_)
  subst hw
  obtain ⟨hP1, hK1, hD1⟩ := hB
  rw [ht] at hP1
  have hK1 := va_K.moved hvm.symm hK1
  obtain ⟨hP, hD⟩ := va_join (wr := [(q7, .inl (k0, 4000, .inl (fun _ => 0)))]) (w1 := [(q0, .inr (15, [.ref q1, .ref q2, .ref q3, .ref q4, .ref q5, .ref q6, .int 0, .int 1, .ref q7, .int 0, .ref q8, .null, .ref q9, .null, .ref q10, .ref q11, .ref q12, .ref q13, .ref q14, .int 0, .ref q15, .ref q16, .ref q17, .ref q18, .ref q19, .int 0, .int 0]))]) hP hD [1] [0] rfl rfl (by decide) (by decide) hk1 hFc hP1 hD1
  have hK := (hK.sub (tys' := [(k0, .int)]) [0] rfl).app hK1
  generalize H1 = H at hP hS ⊢
  have hP : va_P (dC, dI) vwCl [(q7, .inl (k0, 4000, .inl (fun _ => 0))), (q0, .inr (15, [.ref q1, .ref q2, .ref q3, .ref q4, .ref q5, .ref q6, .int 0, .int 1, .ref q7, .int 0, .ref q8, .null, .ref q9, .null, .ref q10, .ref q11, .ref q12, .ref q13, .ref q14, .int 0, .ref q15, .ref q16, .ref q17, .ref q18, .ref q19, .int 0, .int 0]))] H := hP
  have hD : va_D A [(q7, .inl (k0, 4000, .inl (fun _ => 0))), (q0, .inr (15, [.ref q1, .ref q2, .ref q3, .ref q4, .ref q5, .ref q6, .int 0, .int 1, .ref q7, .int 0, .ref q8, .null, .ref q9, .null, .ref q10, .ref q11, .ref q12, .ref q13, .ref q14, .int 0, .ref q15, .ref q16, .ref q17, .ref q18, .ref q19, .int 0, .int 0]))] := hD
  have hK : va_K (dC, dI) vwCl [(k0, .int)] s := hK
  refine W.widen (k := 0) (n := 0) (Nat.le_of_ble_eq_true rfl) (Nat.le_of_ble_eq_true rfl) ?_
  refine lv_if_eq (tgt := 41) hx hb dX13_type_36 (by decide) (fun _ => ?_) (fun h9 => absurd (show (0 : Int32) = (0 : Int32) by decide +kernel) h9)
  refine lv_aload_n hx hb dX13_type_41 rfl (lv_at hl 0 rfl) ?_
  refine lv_iload_n hx hb dX13_type_42 rfl (lv_at hl 1 rfl) ?_
  have hPc := hP.sub (ws' := [(q0, .inr (15, [.ref q1, .ref q2, .ref q3, .ref q4, .ref q5, .ref q6, .int 0, .int 1, .ref q7, .int 0, .ref q8, .null, .ref q9, .null, .ref q10, .ref q11, .ref q12, .ref q13, .ref q14, .int 0, .ref q15, .ref q16, .ref q17, .ref q18, .ref q19, .int 0, .int 0])), (q7, .inl (k0, 4000, .inl (fun _ => 0)))]) [1, 0] rfl
  have hDc := hD.sub (ws' := [(q0, .inr (15, [.ref q1, .ref q2, .ref q3, .ref q4, .ref q5, .ref q6, .int 0, .int 1, .ref q7, .int 0, .ref q8, .null, .ref q9, .null, .ref q10, .ref q11, .ref q12, .ref q13, .ref q14, .int 0, .ref q15, .ref q16, .ref q17, .ref q18, .ref q19, .int 0, .int 0])), (q7, .inl (k0, 4000, .inl (fun _ => 0)))]) [1, 0] (by decide) rfl
  have hKc := hK.sub (tys' := [(k0, .int)]) [0] rfl
  have hFc := va_free (wc := [(q0, .inr (15, [.ref q1, .ref q2, .ref q3, .ref q4, .ref q5, .ref q6, .int 0, .int 1, .ref q7, .int 0, .ref q8, .null, .ref q9, .null, .ref q10, .ref q11, .ref q12, .ref q13, .ref q14, .int 0, .ref q15, .ref q16, .ref q17, .ref q18, .ref q19, .int 0, .int 0])), (q7, .inl (k0, 4000, .inl (fun _ => 0)))]) hD hS hA [1, 0] rfl
  refine va_callv (va_runV (As := [.int p1]) (rest := []) ⟨hx, hb, hml, hown, hts⟩ (c_X13_adds l dC dI q0 q1 q2 q3 q4 q5 q6 q7 q8 q9 q10 q11 q12 q13 q14 q15 q16 q17 q18 q19 k0 H.size p1 ) (cwV 1 hts gX13_type_X13_adds rfl rfl rfl (by decide +kernel) ⟨Nat.le_of_ble_eq_true rfl, Nat.le_of_ble_eq_true rfl⟩) ⟨zB_blind, va_recv hK hP (ci := 15) (q0 := 1) rfl rfl, (zPre hPc hDc hKc hS hFc hZ hN)⟩ rfl rfl hl.1 rfl (lv_room (Nat.le_of_ble_eq_true rfl)) dX13_type_43 ⟨Nat.le_of_ble_eq_true rfl, Nat.le_of_ble_eq_true rfl⟩) hS (fun q _ h => hFc q h) hFc (fun u t H1 locs ht hvm hw hB hz1 hk1 hS => ?_)
  obtain ⟨hP1, hK1, hD1⟩ := hB
  rw [ht] at hP1
  have hK1 := va_K.moved hvm.symm hK1
  obtain ⟨hP, hD⟩ := va_join (wr := []) (w1 := [(q0, .inr (15, [.ref q1, .ref q2, .ref q3, .ref q4, .ref q5, .ref q6, .int 0, .int 1, .ref q7, .int 1, .ref q8, .null, .ref q9, .null, .ref q10, .ref q11, .ref q12, .ref q13, .ref q14, .int 0, .ref q15, .ref q16, .ref q17, .ref q18, .ref q19, .int 0, .int 0]))]) hP hD [1, 0] [] rfl rfl (by decide) (by decide) hk1 hFc hP1 hD1
  have hK := (hK.sub (tys' := []) [] rfl).app hK1
  generalize H1 = H at hP hS ⊢
  have hP : va_P (dC, dI) vwCl [(q0, .inr (15, [.ref q1, .ref q2, .ref q3, .ref q4, .ref q5, .ref q6, .int 0, .int 1, .ref q7, .int 1, .ref q8, .null, .ref q9, .null, .ref q10, .ref q11, .ref q12, .ref q13, .ref q14, .int 0, .ref q15, .ref q16, .ref q17, .ref q18, .ref q19, .int 0, .int 0]))] H := hP
  have hD : va_D A [(q0, .inr (15, [.ref q1, .ref q2, .ref q3, .ref q4, .ref q5, .ref q6, .int 0, .int 1, .ref q7, .int 1, .ref q8, .null, .ref q9, .null, .ref q10, .ref q11, .ref q12, .ref q13, .ref q14, .int 0, .ref q15, .ref q16, .ref q17, .ref q18, .ref q19, .int 0, .int 0]))] := hD
  have hK : va_K (dC, dI) vwCl [] s := hK
  refine W.widen (k := 0) (n := 0) (Nat.le_of_ble_eq_true rfl) (Nat.le_of_ble_eq_true rfl) ?_
  refine lv_aload_n hx hb dX13_type_46 rfl (lv_at hl 0 rfl) ?_
  refine va_get (D := (dC, dI)) (ci := 15) (v := .int 1) (C := RX13) (T := TX13) (N := 27) hx hb hts (fun _ h => List.mem_cons_of_mem _ (List.mem_append_left _ (List.mem_append_right _ h))) hown hK hP 0 rfl rfl 9 (by decide) (hts (.fieldLink RX13 132 "SeekwellModel" "typed" "I") (by decide +kernel)) (fun _ h9 => h9) rfl dX13_type_47 ?_
  have hP9 := hP.sub (ws' := [(q0, .inr (15, [.ref q1, .ref q2, .ref q3, .ref q4, .ref q5, .ref q6, .int 0, .int 1, .ref q7, .int 1, .ref q8, .null, .ref q9, .null, .ref q10, .ref q11, .ref q12, .ref q13, .ref q14, .int 0, .ref q15, .ref q16, .ref q17, .ref q18, .ref q19, .int 0, .int 0]))]) [0] rfl
  have hD9 := hD.sub (ws' := [(q0, .inr (15, [.ref q1, .ref q2, .ref q3, .ref q4, .ref q5, .ref q6, .int 0, .int 1, .ref q7, .int 1, .ref q8, .null, .ref q9, .null, .ref q10, .ref q11, .ref q12, .ref q13, .ref q14, .int 0, .ref q15, .ref q16, .ref q17, .ref q18, .ref q19, .int 0, .int 0]))]) [0] (by decide) rfl
  have hK9 := hK.sub (tys' := []) [] rfl
  exact W.iret (v := 1) hx hb hr (fun t ht hW => ⟨⟨1, (), rfl, rfl, ⟨by rw [ht]; exact hP9, va_K.moved hW.alike hK9, hD9⟩⟩, hS.F ht⟩) hS.2.2 dX13_type_50
set_option maxHeartbeats 4000000 in
set_option maxRecDepth 100000 in
theorem c_X13_thrown_2 (l : Launch) (dC : Nat → ClassId) (dI : Nat → Nat → Nat) (q0 q1 q2 q3 q4 q5 q6 q7 q8 q9 q10 q11 q12 q13 q14 q15 q16 q17 q18 q19 : Nat) (sz : Nat) : Met l yX13_thrown wsX13_thrown ({ frames := 0, cells := 0, slots := 0, locals := 0 }) (va_Pc [.ref q0] (zB (dC, dI) [] [(q0, .inr (15, [.ref q1, .ref q2, .ref q3, .ref q4, .ref q5, .ref q6, .int 0, .int 1, .ref q7, .int 1, .ref q8, .null, .ref q9, .null, .ref q10, .ref q11, .ref q12, .ref q13, .ref q14, .int 0, .ref q15, .ref q16, .ref q17, .ref q18, .ref q19, .int 0, .int 0]))] sz)) (va_Qi (fun (r : Int32) (_ : Unit) => 0 = r) (fun _ t => zE (dC, dI) [] [] (va_A [(q0, .inr (15, [.ref q1, .ref q2, .ref q3, .ref q4, .ref q5, .ref q6, .int 0, .int 1, .ref q7, .int 1, .ref q8, .null, .ref q9, .null, .ref q10, .ref q11, .ref q12, .ref q13, .ref q14, .int 0, .ref q15, .ref q16, .ref q17, .ref q18, .ref q19, .int 0, .int 0]))] sz) t) (va_A [(q0, .inr (15, [.ref q1, .ref q2, .ref q3, .ref q4, .ref q5, .ref q6, .int 0, .int 1, .ref q7, .int 1, .ref q8, .null, .ref q9, .null, .ref q10, .ref q11, .ref q12, .ref q13, .ref q14, .int 0, .ref q15, .ref q16, .ref q17, .ref q18, .ref q19, .int 0, .int 0]))] sz)) 0 0 (va_A [(q0, .inr (15, [.ref q1, .ref q2, .ref q3, .ref q4, .ref q5, .ref q6, .int 0, .int 1, .ref q7, .int 1, .ref q8, .null, .ref q9, .null, .ref q10, .ref q11, .ref q12, .ref q13, .ref q14, .int 0, .ref q15, .ref q16, .ref q17, .ref q18, .ref q19, .int 0, .int 0]))] sz) := by
  refine Met.ofW (cc := cX13_thrown) (maxL := 1) (ret := (some .int)) (by decide) rfl ?_
  intro p e s m args below meth c s₁ B hml hv
  obtain ⟨rfl, hsz, hP, hK, hD0, hZ, hN⟩ := hv
  have hx := B.exec
  have hb := B.bytes
  have hr := B.returns
  have hts := atoms_spec (ws := wsX13_thrown) B.pre
  have hown : s.vm.findClass RX13 = some m.cls := findClass_of_methodNamed B.named
  have hlocks := B.notSynchronized
  subst hsz
  have hD := hD0.self (sz := s.heap.size)
  generalize hAe : va_A [(q0, .inr (15, [.ref q1, .ref q2, .ref q3, .ref q4, .ref q5, .ref q6, .int 0, .int 1, .ref q7, .int 1, .ref q8, .null, .ref q9, .null, .ref q10, .ref q11, .ref q12, .ref q13, .ref q14, .int 0, .ref q15, .ref q16, .ref q17, .ref q18, .ref q19, .int 0, .int 0]))] s.heap.size = A at hD hZ ⊢
  have hA : ∀ q : Nat, s.heap.size ≤ q → A q := fun q h => by rw [← hAe]; exact Or.inr h
  have hS : va_S A s.heap s.heap [] := va_S.rf
  have hP : va_P (dC, dI) vwCl [(q0, .inr (15, [.ref q1, .ref q2, .ref q3, .ref q4, .ref q5, .ref q6, .int 0, .int 1, .ref q7, .int 1, .ref q8, .null, .ref q9, .null, .ref q10, .ref q11, .ref q12, .ref q13, .ref q14, .int 0, .ref q15, .ref q16, .ref q17, .ref q18, .ref q19, .int 0, .int 0]))] s.heap := hP
  have hl := lv_entry ([.ref q0]) (n := 1) (Nat.le_of_ble_eq_true rfl)
  rw [lg_entry_eq]
  generalize (lg_sl ([.ref q0]) ++ List.replicate (1 - (lg_sl ([.ref q0])).length) Slot.unset).toArray = ls at hl ⊢
  have hl : lv_has ls 1 [(0, .ref q0)] := hl
  refine lv_aload_n hx hb dX13_thrown_0 rfl (lv_at hl 0 rfl) ?_
  refine va_get (D := (dC, dI)) (ci := 15) (v := .int 0) (C := RX13) (T := TX13) (N := 27) hx hb hts (fun _ h => List.mem_cons_of_mem _ (List.mem_append_right _ h)) hown hK hP 0 rfl rfl 19 (by decide) (hts (.fieldLink RX13 82 "SeekwellModel" "thrown" "I") (by decide +kernel)) (fun _ h9 => h9) rfl dX13_thrown_1 ?_
  have hP9 := hP.sub (ws' := []) [] rfl
  have hD9 := hD.sub (ws' := []) [] (by decide) rfl
  have hK9 := hK.sub (tys' := []) [] rfl
  exact W.iret (v := 0) hx hb hr (fun t ht hW => ⟨⟨0, (), rfl, rfl, ⟨by rw [ht]; exact hP9, va_K.moved hW.alike hK9, hD9⟩⟩, hS.F ht⟩) hS.2.2 dX13_thrown_4
set_option maxHeartbeats 4000000 in
set_option maxRecDepth 100000 in
theorem c_X11_type_3 (l : Launch) (hfl : l.stackTraces = false) (dC : Nat → ClassId) (dI : Nat → Nat → Nat) (q0 : Nat) (sz : Nat) (p1 : Int32) (hc0 : ¬ p1 < 32) (hc1 : ¬ p1 ≤ 126) : vx_Met l yX11_type wsX11_type ({ frames := 6, cells := 1, slots := 6, locals := 90 }) (va_Pc [.ref q0, .int p1] (zB (dC, dI) [] [] sz)) (va_Qi (fun (_ : Int32) (_ : Unit) => False) (fun _ _ => True) (va_A [] sz)) (vx_X (fun (_ : Unit) => True) (fun E _ _ => "java/lang/IllegalArgumentException" = E) (va_A [] sz)) 1 6 (va_A [] sz) := by
  refine vx_ofW (cc := cX11_type) (maxL := 2) (ret := (some .int)) (by decide) rfl ?_
  intro p e s m args below meth c s₁ B hml hnoex hv
  obtain ⟨rfl, hsz, hP, hK, hD0, hZ, hN⟩ := hv
  have hx := B.exec
  have hb := B.bytes
  have hr := B.returns
  have hts := atoms_spec (ws := wsX11_type) B.pre
  have hown : s.vm.findClass RX11 = some m.cls := findClass_of_methodNamed B.named
  have hlocks := B.notSynchronized
  subst hsz
  have hD := hD0.self (sz := s.heap.size)
  generalize hAe : va_A [] s.heap.size = A at hD hZ ⊢
  have hA : ∀ q : Nat, s.heap.size ≤ q → A q := fun q h => by rw [← hAe]; exact Or.inr h
  have hS : va_S A s.heap s.heap [] := va_S.rf
  have hP : va_P (dC, dI) vwCl [] s.heap := hP
  have hl := lv_entry ([.ref q0, .int p1]) (n := 2) (Nat.le_of_ble_eq_true rfl)
  rw [lg_entry_eq]
  generalize (lg_sl ([.ref q0, .int p1]) ++ List.replicate (2 - (lg_sl ([.ref q0, .int p1])).length) Slot.unset).toArray = ls at hl ⊢
  have hl : lv_has ls 2 [(0, .ref q0), (1, .int p1)] := hl
  refine lv_iload_n hx hb dX11_type_0 rfl (lv_at hl 1 rfl) ?_
  refine lv_bipush (v := 32) hx hb dX11_type_1 (by decide +kernel) ?_
  refine lv_icmp_lt (tgt := 12) hx hb dX11_type_3 (by decide) (fun h9 => absurd h9 hc0) (fun _ => ?_)
  refine lv_iload_n hx hb dX11_type_6 rfl (lv_at hl 1 rfl) ?_
  refine lv_bipush (v := 126) hx hb dX11_type_7 (by decide +kernel) ?_
  refine lv_icmp_le (tgt := 22) hx hb dX11_type_9 (by decide) (fun h9 => absurd h9 hc1) (fun _ => ?_)
  obtain ⟨sa, hstr⟩ := hN.2.2.2.2.1 (RX11, 83, "no such sign can be typed") (by decide +kernel)
  refine vx_throwS (A := A) (cls := "java/lang/IllegalArgumentException") (names := ["java/lang/RuntimeException", "java/lang/Exception"]) (own := RX11) (text := "no such sign can be typed") hx hb hfl hown (by decide +kernel) (by decide +kernel) (hts (.classLink RX11 81 "java/lang/IllegalArgumentException") (by decide +kernel)) (hts (.initialized "java/lang/IllegalArgumentException") (by decide +kernel)) hstr (vx_hat (B := [Cond.castable "java/lang/IllegalArgumentException" "java/lang/IllegalArgumentException", Cond.declares (Bundle.initS "java/lang/RuntimeException"), Cond.declares (Bundle.initS "java/lang/Exception"), Cond.declares (Bundle.initS Bundle.tN)]) (fun w h => hts w (List.mem_cons_of_mem _ (List.mem_append_left _ (List.mem_append_left _ (List.mem_append_right _ h))))) (by decide +kernel) (zthr hN (by decide +kernel))) (by decide +kernel) hZ.1 hZ.2 hS (hl.1.trans hml.symm) dX11_type_12 dX11_type_15 dX11_type_16 dX11_type_18 dX11_type_21 (fun x h => (hnoex x h).elim) (Nat.lt_of_succ_le (Nat.le_of_ble_eq_true rfl)) (Nat.le_of_ble_eq_true rfl) (Nat.le_of_ble_eq_true rfl) (Nat.le_of_ble_eq_true rfl) hlocks ?_ hS.2.2 (Nat.le_refl _) (Nat.le_refl _)
  exact fun t hvm hz hk => ⟨(), trivial, rfl, zF hS hz hk⟩
set_option maxHeartbeats 4000000 in
set_option maxRecDepth 100000 in
theorem c_L_type_3 (l : Launch) (hfl : l.stackTraces = false) (dC : Nat → ClassId) (dI : Nat → Nat → Nat) (q0 q1 q2 q3 q4 q5 q6 q7 q8 q9 q10 q11 q12 q13 q14 : Nat) (sz : Nat) (p1 : Int32) (hc0 : ¬ p1 < 32) (hc1 : ¬ p1 ≤ 126) : Met l yL_type wsL_type ({ frames := 7, cells := 1, slots := 6, locals := 111 }) (va_Pc [.ref q0, .int p1, .ref q1] (zB (dC, dI) [] [(q0, .inr (13, [.ref q2, .ref q3, .ref q4, .ref q5, .ref q6, .ref q7, .ref q8, .ref q9, .int 0, .ref q10, .ref q11, .ref q12, .ref q13, .ref q14]))] sz)) (va_Qi (fun (r : Int32) (_ : Unit) => 1 = r) (fun _ t => zE (dC, dI) [] [] (va_A [(q0, .inr (13, [.ref q2, .ref q3, .ref q4, .ref q5, .ref q6, .ref q7, .ref q8, .ref q9, .int 0, .ref q10, .ref q11, .ref q12, .ref q13, .ref q14]))] sz) t) (va_A [(q0, .inr (13, [.ref q2, .ref q3, .ref q4, .ref q5, .ref q6, .ref q7, .ref q8, .ref q9, .int 0, .ref q10, .ref q11, .ref q12, .ref q13, .ref q14]))] sz)) 1 6 (va_A [(q0, .inr (13, [.ref q2, .ref q3, .ref q4, .ref q5, .ref q6, .ref q7, .ref q8, .ref q9, .int 0, .ref q10, .ref q11, .ref q12, .ref q13, .ref q14]))] sz) := by
  refine va_MetW (cc := cL_type) (maxL := 4) (ret := (some .int)) (by decide) rfl ?_
  intro p e s m args below meth c s₁ B hml hv
  obtain ⟨rfl, hsz, hP, hK, hD0, hZ, hN⟩ := hv
  have hx := B.exec
  have hb := B.bytes
  have hr := B.returns
  have hts := atoms_spec (ws := wsL_type) B.pre
  have hown : s.vm.findClass RL = some m.cls := findClass_of_methodNamed B.named
  have hlocks := B.notSynchronized
  have htab := vx_table (x := yL_type) B (hts (.codeWith yL_type cL_type 4 (some .int) [(0, 9, 12, 13), (0, 9, 15, 15)]) List.mem_cons_self)
  subst hsz
  have hD := hD0.self (sz := s.heap.size)
  generalize hAe : va_A [(q0, .inr (13, [.ref q2, .ref q3, .ref q4, .ref q5, .ref q6, .ref q7, .ref q8, .ref q9, .int 0, .ref q10, .ref q11, .ref q12, .ref q13, .ref q14]))] s.heap.size = A at hD hZ ⊢
  have hA : ∀ q : Nat, s.heap.size ≤ q → A q := fun q h => by rw [← hAe]; exact Or.inr h
  have hS : va_S A s.heap s.heap [] := va_S.rf
  have hP : va_P (dC, dI) vwCl [(q0, .inr (13, [.ref q2, .ref q3, .ref q4, .ref q5, .ref q6, .ref q7, .ref q8, .ref q9, .int 0, .ref q10, .ref q11, .ref q12, .ref q13, .ref q14]))] s.heap := hP
  have hl := lv_entry ([.ref q0, .int p1, .ref q1]) (n := 4) (Nat.le_of_ble_eq_true rfl)
  rw [lg_entry_eq]
  generalize (lg_sl ([.ref q0, .int p1, .ref q1]) ++ List.replicate (4 - (lg_sl ([.ref q0, .int p1, .ref q1])).length) Slot.unset).toArray = ls at hl ⊢
  have hl : lv_has ls 4 [(0, .ref q0), (1, .int p1), (2, .ref q1)] := hl
  refine lv_aload_n hx hb dL_type_0 rfl (lv_at hl 2 rfl) ?_
  refine lv_iconst (v := 0) hx hb dL_type_1 (by decide +kernel) ?_
  refine lv_aload_n hx hb dL_type_2 rfl (lv_at hl 0 rfl) ?_
  refine lv_iload_n hx hb dL_type_3 rfl (lv_at hl 1 rfl) ?_
  have hPc := hP.sub (ws' := []) [] rfl
  have hDc := hD.sub (ws' := []) [] (by decide) rfl
  have hKc := hK.sub (tys' := []) [] rfl
  have hFc := va_free (wc := []) hD hS hA [] rfl
  refine vx_calli (vx_runV (As := [.int p1]) (rest := [.int 0, .ref q1]) ⟨hx, hb, hml, hown, hts⟩ (c_X11_type_3 l hfl dC dI q0 s.heap.size p1 hc0 hc1) (cwV 1 hts gL_type_X11_type rfl rfl rfl (by decide +kernel) ⟨Nat.le_of_ble_eq_true rfl, Nat.le_of_ble_eq_true rfl⟩) ⟨zB_blind, va_recv hK hP (ci := 13) (q0 := 0) rfl rfl, (zPre hPc hDc hKc hS hFc hZ hN)⟩ rfl rfl hl.1 rfl (lv_room (Nat.le_of_ble_eq_true rfl)) dL_type_4 ⟨Nat.le_of_ble_eq_true rfl, Nat.le_of_ble_eq_true rfl⟩) hS (fun q _ h => hFc q h) hFc (fun q _ h => hFc q h) (fun E ce qx u t H1 locs1 ht hvm hpx hBX hz1 hk1 hS hq9 hv9 hcl9 => ?_) (fun r u t H1 locs1 _ _ hw => hw.elim)
  subst hBX
  refine vx_catch (name := "java/lang/IllegalArgumentException") hown [] ⟨0, 9, 12, 13⟩ [⟨0, 9, 15, 15⟩] (by rw [htab]; rfl) (fun z h => absurd h List.not_mem_nil) rfl (by decide) (hts (.classLink RL 13 "java/lang/IllegalArgumentException") (by decide +kernel)) (va_Nw.use rfl (hN.2.1 "java/lang/IllegalArgumentException" (by decide +kernel))) hq9 hv9 hcl9 ?_
  generalize H1 = H at hS ⊢
  refine W.widen (k := 1) (n := 6) (Nat.le_of_ble_eq_true rfl) (Nat.le_of_ble_eq_true rfl) ?_
  have hP : va_P (dC, dI) vwCl [] H := zP_nil
  have hD : va_D A [] := zD_nil
  have hK := hK.sub (tys' := []) [] rfl
  refine lv_astore_n (lv' := [(3, .ref qx), (0, .ref q0), (1, .int p1), (2, .ref q1)]) hx hb dL_type_12 rfl hl (by decide) rfl (fun ls hl => ?_)
  refine lv_iconst (v := 1) hx hb dL_type_13 (by decide +kernel) ?_
  have hP9 := hP.sub (ws' := []) [] rfl
  have hD9 := hD.sub (ws' := []) [] (by decide) rfl
  have hK9 := hK.sub (tys' := []) [] rfl
  exact W.iret (v := 1) hx hb hr (fun t ht hW => ⟨⟨1, (), rfl, rfl, ⟨by rw [ht]; exact hP9, va_K.moved hW.alike hK9, hD9⟩⟩, hS.F ht⟩) hS.2.2 dL_type_14
set_option maxHeartbeats 4000000 in
set_option maxRecDepth 100000 in
theorem c_X13_in_3 (l : Launch) (dC : Nat → ClassId) (dI : Nat → Nat → Nat) (sz : Nat) (p0 : Int32) (hc0 : ¬ p0 < 32) (hc1 : (126 : Int32) < p0) : Met l yX13_in wsX13_in ({ frames := 0, cells := 0, slots := 0, locals := 0 }) (va_Pc [.int p0, .int 32, .int 126] (zB (dC, dI) [] [] sz)) (va_Qi (fun (r : Int32) (_ : Unit) => 0 = r) (fun _ t => zE (dC, dI) [] [] (va_A [] sz) t) (va_A [] sz)) 0 0 (va_A [] sz) := by
  refine Met.ofW (cc := cX13_in) (maxL := 3) (ret := (some .boolean)) (by decide) rfl ?_
  intro p e s m args below meth c s₁ B hml hv
  obtain ⟨rfl, hsz, hP, hK, hD0, hZ, hN⟩ := hv
  have hx := B.exec
  have hb := B.bytes
  have hr := B.returns
  have hts := atoms_spec (ws := wsX13_in) B.pre
  have hown : s.vm.findClass RX13 = some m.cls := findClass_of_methodNamed B.named
  have hlocks := B.notSynchronized
  subst hsz
  have hD := hD0.self (sz := s.heap.size)
  generalize hAe : va_A [] s.heap.size = A at hD hZ ⊢
  have hA : ∀ q : Nat, s.heap.size ≤ q → A q := fun q h => by rw [← hAe]; exact Or.inr h
  have hS : va_S A s.heap s.heap [] := va_S.rf
  have hP : va_P (dC, dI) vwCl [] s.heap := hP
  have hl := lv_entry ([.int p0, .int 32, .int 126]) (n := 3) (Nat.le_of_ble_eq_true rfl)
  rw [lg_entry_eq]
  generalize (lg_sl ([.int p0, .int 32, .int 126]) ++ List.replicate (3 - (lg_sl ([.int p0, .int 32, .int 126])).length) Slot.unset).toArray = ls at hl ⊢
  have hl : lv_has ls 3 [(0, .int p0), (1, .int 32), (2, .int 126)] := hl
  refine lv_iload_n hx hb dX13_in_0 rfl (lv_at hl 0 rfl) ?_
  refine lv_iload_n hx hb dX13_in_1 rfl (lv_at hl 1 rfl) ?_
  refine lv_icmp_lt (tgt := 14) hx hb dX13_in_2 (by decide) (fun h9 => absurd h9 hc0) (fun _ => ?_)
  refine lv_iload_n hx hb dX13_in_5 rfl (lv_at hl 0 rfl) ?_
  refine lv_iload_n hx hb dX13_in_6 rfl (lv_at hl 2 rfl) ?_
  refine lv_icmp_gt (tgt := 14) hx hb dX13_in_7 (by decide) (fun _ => ?_) (fun h9 => absurd hc1 h9)
  refine lv_iconst (v := 0) hx hb dX13_in_14 (by decide +kernel) ?_
  have hP9 := hP.sub (ws' := []) [] rfl
  have hD9 := hD.sub (ws' := []) [] (by decide) rfl
  have hK9 := hK.sub (tys' := []) [] rfl
  exact W.zret (v := 0) hx hb hr (by decide +kernel) (fun t ht hW => ⟨⟨0, (), rfl, rfl, ⟨by rw [ht]; exact hP9, va_K.moved hW.alike hK9, hD9⟩⟩, hS.F ht⟩) hS.2.2 dX13_in_15
set_option maxHeartbeats 4000000 in
set_option maxRecDepth 100000 in
theorem c_X13_type_3 (l : Launch) (dC : Nat → ClassId) (dI : Nat → Nat → Nat) (q0 q1 q2 q3 q4 q5 q6 q7 q8 q9 q10 q11 q12 q13 q14 q15 q16 q17 q18 q19 : Nat) (sz : Nat) (p1 : Int32) (hc0 : ¬ p1 < 32) (hc1 : (126 : Int32) < p1) : Met l yX13_type wsX13_type ({ frames := 1, cells := 0, slots := 0, locals := 22 }) (va_Pc [.ref q0, .int p1] (zB (dC, dI) [] [(q0, .inr (15, [.ref q1, .ref q2, .ref q3, .ref q4, .ref q5, .ref q6, .int 0, .int 1, .ref q7, .int 0, .ref q8, .null, .ref q9, .null, .ref q10, .ref q11, .ref q12, .ref q13, .ref q14, .int 0, .ref q15, .ref q16, .ref q17, .ref q18, .ref q19, .int 0, .int 0]))] sz)) (va_Qi (fun (r : Int32) (_ : Unit) => 0 = r) (fun _ t => zE (dC, dI) [] [(q0, .inr (15, [.ref q1, .ref q2, .ref q3, .ref q4, .ref q5, .ref q6, .int 0, .int 1, .ref q7, .int 0, .ref q8, .null, .ref q9, .null, .ref q10, .ref q11, .ref q12, .ref q13, .ref q14, .int 1, .ref q15, .ref q16, .ref q17, .ref q18, .ref q19, .int 0, .int 0]))] (va_A [(q0, .inr (15, [.ref q1, .ref q2, .ref q3, .ref q4, .ref q5, .ref q6, .int 0, .int 1, .ref q7, .int 0, .ref q8, .null, .ref q9, .null, .ref q10, .ref q11, .ref q12, .ref q13, .ref q14, .int 0, .ref q15, .ref q16, .ref q17, .ref q18, .ref q19, .int 0, .int 0]))] sz) t) (va_A [(q0, .inr (15, [.ref q1, .ref q2, .ref q3, .ref q4, .ref q5, .ref q6, .int 0, .int 1, .ref q7, .int 0, .ref q8, .null, .ref q9, .null, .ref q10, .ref q11, .ref q12, .ref q13, .ref q14, .int 0, .ref q15, .ref q16, .ref q17, .ref q18, .ref q19, .int 0, .int 0]))] sz)) 0 0 (va_A [(q0, .inr (15, [.ref q1, .ref q2, .ref q3, .ref q4, .ref q5, .ref q6, .int 0, .int 1, .ref q7, .int 0, .ref q8, .null, .ref q9, .null, .ref q10, .ref q11, .ref q12, .ref q13, .ref q14, .int 0, .ref q15, .ref q16, .ref q17, .ref q18, .ref q19, .int 0, .int 0]))] sz) := by
  refine Met.ofW (cc := cX13_type) (maxL := 2) (ret := (some .int)) (by decide) rfl ?_
  intro p e s m args below meth c s₁ B hml hv
  obtain ⟨rfl, hsz, hP, hK, hD0, hZ, hN⟩ := hv
  have hx := B.exec
  have hb := B.bytes
  have hr := B.returns
  have hts := atoms_spec (ws := wsX13_type) B.pre
  have hown : s.vm.findClass RX13 = some m.cls := findClass_of_methodNamed B.named
  have hlocks := B.notSynchronized
  subst hsz
  have hD := hD0.self (sz := s.heap.size)
  generalize hAe : va_A [(q0, .inr (15, [.ref q1, .ref q2, .ref q3, .ref q4, .ref q5, .ref q6, .int 0, .int 1, .ref q7, .int 0, .ref q8, .null, .ref q9, .null, .ref q10, .ref q11, .ref q12, .ref q13, .ref q14, .int 0, .ref q15, .ref q16, .ref q17, .ref q18, .ref q19, .int 0, .int 0]))] s.heap.size = A at hD hZ ⊢
  have hA : ∀ q : Nat, s.heap.size ≤ q → A q := fun q h => by rw [← hAe]; exact Or.inr h
  have hS : va_S A s.heap s.heap [] := va_S.rf
  have hP : va_P (dC, dI) vwCl [(q0, .inr (15, [.ref q1, .ref q2, .ref q3, .ref q4, .ref q5, .ref q6, .int 0, .int 1, .ref q7, .int 0, .ref q8, .null, .ref q9, .null, .ref q10, .ref q11, .ref q12, .ref q13, .ref q14, .int 0, .ref q15, .ref q16, .ref q17, .ref q18, .ref q19, .int 0, .int 0]))] s.heap := hP
  have hl := lv_entry ([.ref q0, .int p1]) (n := 2) (Nat.le_of_ble_eq_true rfl)
  rw [lg_entry_eq]
  generalize (lg_sl ([.ref q0, .int p1]) ++ List.replicate (2 - (lg_sl ([.ref q0, .int p1])).length) Slot.unset).toArray = ls at hl ⊢
  have hl : lv_has ls 2 [(0, .ref q0), (1, .int p1)] := hl
  refine lv_aload_n hx hb dX13_type_0 rfl (lv_at hl 0 rfl) ?_
  refine lv_iload_n hx hb dX13_type_1 rfl (lv_at hl 1 rfl) ?_
  refine lv_bipush (v := 32) hx hb dX13_type_2 (by decide +kernel) ?_
  refine lv_bipush (v := 126) hx hb dX13_type_4 (by decide +kernel) ?_
  have hPc := hP.sub (ws' := []) [] rfl
  have hDc := hD.sub (ws' := []) [] (by decide) rfl
  have hKc := hK.sub (tys' := []) [] rfl
  have hFc := va_free (wc := []) hD hS hA [] rfl
  refine va_calli (va_runS (As := [.int p1, .int 32, .int 126]) (rest := [.ref q0]) ⟨hx, hb, hml, hown, hts⟩ (c_X13_in_3 l dC dI  s.heap.size p1 hc0 hc1) (va_cwS 3 hts gX13_type_X13_in rfl rfl rfl (by decide +kernel) ⟨Nat.le_of_ble_eq_true rfl, Nat.le_of_ble_eq_true rfl⟩) ⟨zB_blind, (zPre hPc hDc hKc hS hFc hZ hN)⟩ rfl rfl hl.1 rfl (lv_room (Nat.le_of_ble_eq_true rfl)) dX13_type_6 ⟨Nat.le_of_ble_eq_true rfl, Nat.le_of_ble_eq_true rfl⟩) hS (fun q _ h => hFc q h) hFc (fun r u t H1 locs ht hvm hw hB hz1 hk1 hS => ?_)
  subst hw
  obtain ⟨hP1, hK1, hD1⟩ := hB
  rw [ht] at hP1
  have hK1 := va_K.moved hvm.symm hK1
  obtain ⟨hP, hD⟩ := va_join (wr := [(q0, .inr (15, [.ref q1, .ref q2, .ref q3, .ref q4, .ref q5, .ref q6, .int 0, .int 1, .ref q7, .int 0, .ref q8, .null, .ref q9, .null, .ref q10, .ref q11, .ref q12, .ref q13, .ref q14, .int 0, .ref q15, .ref q16, .ref q17, .ref q18, .ref q19, .int 0, .int 0]))]) (w1 := []) hP hD [] [0] rfl rfl (by decide) (by decide) hk1 hFc hP1 hD1
  have hK := (hK.sub (tys' := []) [] rfl).app hK1
  generalize H1 = H at hP hS ⊢
  have hP : va_P (dC, dI) vwCl [(q0, .inr (15, [.ref q1, .ref q2, .ref q3, .ref q4, .ref q5, .ref q6, .int 0, .int 1, .ref q7, .int 0, .ref q8, .null, .ref q9, .null, .ref q10, .ref q11, .ref q12, .ref q13, .ref q14, .int 0, .ref q15, .ref q16, .ref q17, .ref q18, .ref q19, .int 0, .int 0]))] H := hP
  have hD : va_D A [(q0, .inr (15, [.ref q1, .ref q2, .ref q3, .ref q4, .ref q5, .ref q6, .int 0, .int 1, .ref q7, .int 0, .ref q8, .null, .ref q9, .null, .ref q10, .ref q11, .ref q12, .ref q13, .ref q14, .int 0, .ref q15, .ref q16, .ref q17, .ref q18, .ref q19, .int 0, .int 0]))] := hD
  have hK : va_K (dC, dI) vwCl [] s := hK
  refine W.widen (k := 0) (n := 0) (Nat.le_of_ble_eq_true rfl) (Nat.le_of_ble_eq_true rfl) ?_
  refine lv_iconst (v := 1) hx hb dX13_type_9 (by decide +kernel) ?_
  have hPc := hP.sub (ws' := [(q0, .inr (15, [.ref q1, .ref q2, .ref q3, .ref q4, .ref q5, .ref q6, .int 0, .int 1, .ref q7, .int 0, .ref q8, .null, .ref q9, .null, .ref q10, .ref q11, .ref q12, .ref q13, .ref q14, .int 0, .ref q15, .ref q16, .ref q17, .ref q18, .ref q19, .int 0, .int 0]))]) [0] rfl
  have hDc := hD.sub (ws' := [(q0, .inr (15, [.ref q1, .ref q2, .ref q3, .ref q4, .ref q5, .ref q6, .int 0, .int 1, .ref q7, .int 0, .ref q8, .null, .ref q9, .null, .ref q10, .ref q11, .ref q12, .ref q13, .ref q14, .int 0, .ref q15, .ref q16, .ref q17, .ref q18, .ref q19, .int 0, .int 0]))]) [0] (by decide) rfl
  have hKc := hK.sub (tys' := []) [] rfl
  have hFc := va_free (wc := [(q0, .inr (15, [.ref q1, .ref q2, .ref q3, .ref q4, .ref q5, .ref q6, .int 0, .int 1, .ref q7, .int 0, .ref q8, .null, .ref q9, .null, .ref q10, .ref q11, .ref q12, .ref q13, .ref q14, .int 0, .ref q15, .ref q16, .ref q17, .ref q18, .ref q19, .int 0, .int 0]))]) hD hS hA [0] rfl
  refine va_calli (va_runV (As := [.int 0, .int 1]) (rest := []) ⟨hx, hb, hml, hown, hts⟩ (c_X13_no l dC dI q0 q1 q2 q3 q4 q5 q6 q7 q8 q9 q10 q11 q12 q13 q14 q15 q16 q17 q18 q19 H.size  ) (cwV 2 hts gX13_type_X13_no rfl rfl rfl (by decide +kernel) ⟨Nat.le_of_ble_eq_true rfl, Nat.le_of_ble_eq_true rfl⟩) ⟨zB_blind, va_recv hK hP (ci := 15) (q0 := 0) rfl rfl, (zPre hPc hDc hKc hS hFc hZ hN)⟩ rfl rfl hl.1 rfl (lv_room (Nat.le_of_ble_eq_true rfl)) dX13_type_10 ⟨Nat.le_of_ble_eq_true rfl, Nat.le_of_ble_eq_true rfl⟩) hS (fun q _ h => hFc q h) hFc (fun r u t H1 locs ht hvm hw hB hz1 hk1 hS => ?_)
  subst hw
  obtain ⟨hP1, hK1, hD1⟩ := hB
  rw [ht] at hP1
  have hK1 := va_K.moved hvm.symm hK1
  obtain ⟨hP, hD⟩ := va_join (wr := []) (w1 := [(q0, .inr (15, [.ref q1, .ref q2, .ref q3, .ref q4, .ref q5, .ref q6, .int 0, .int 1, .ref q7, .int 0, .ref q8, .null, .ref q9, .null, .ref q10, .ref q11, .ref q12, .ref q13, .ref q14, .int 1, .ref q15, .ref q16, .ref q17, .ref q18, .ref q19, .int 0, .int 0]))]) hP hD [0] [] rfl rfl (by decide) (by decide) hk1 hFc hP1 hD1
  have hK := (hK.sub (tys' := []) [] rfl).app hK1
  generalize H1 = H at hP hS ⊢
  have hP : va_P (dC, dI) vwCl [(q0, .inr (15, [.ref q1, .ref q2, .ref q3, .ref q4, .ref q5, .ref q6, .int 0, .int 1, .ref q7, .int 0, .ref q8, .null, .ref q9, .null, .ref q10, .ref q11, .ref q12, .ref q13, .ref q14, .int 1, .ref q15, .ref q16, .ref q17, .ref q18, .ref q19, .int 0, .int 0]))] H := hP
  have hD : va_D A [(q0, .inr (15, [.ref q1, .ref q2, .ref q3, .ref q4, .ref q5, .ref q6, .int 0, .int 1, .ref q7, .int 0, .ref q8, .null, .ref q9, .null, .ref q10, .ref q11, .ref q12, .ref q13, .ref q14, .int 1, .ref q15, .ref q16, .ref q17, .ref q18, .ref q19, .int 0, .int 0]))] := hD
  have hK : va_K (dC, dI) vwCl [] s := hK
  refine W.widen (k := 0) (n := 0) (Nat.le_of_ble_eq_true rfl) (Nat.le_of_ble_eq_true rfl) ?_
  refine lv_if_ne (tgt := 39) hx hb dX13_type_13 (by decide) (fun _ => ?_) (fun h9 => absurd h9 (show ¬ (1 : Int32) = (0 : Int32) by decide +kernel))
  refine lv_iconst (v := 0) hx hb dX13_type_39 (by decide +kernel) ?_
  have hP9 := hP.sub (ws' := [(q0, .inr (15, [.ref q1, .ref q2, .ref q3, .ref q4, .ref q5, .ref q6, .int 0, .int 1, .ref q7, .int 0, .ref q8, .null, .ref q9, .null, .ref q10, .ref q11, .ref q12, .ref q13, .ref q14, .int 1, .ref q15, .ref q16, .ref q17, .ref q18, .ref q19, .int 0, .int 0]))]) [0] rfl
  have hD9 := hD.sub (ws' := [(q0, .inr (15, [.ref q1, .ref q2, .ref q3, .ref q4, .ref q5, .ref q6, .int 0, .int 1, .ref q7, .int 0, .ref q8, .null, .ref q9, .null, .ref q10, .ref q11, .ref q12, .ref q13, .ref q14, .int 1, .ref q15, .ref q16, .ref q17, .ref q18, .ref q19, .int 0, .int 0]))]) [0] (by decide) rfl
  have hK9 := hK.sub (tys' := []) [] rfl
  exact W.iret (v := 0) hx hb hr (fun t ht hW => ⟨⟨0, (), rfl, rfl, ⟨by rw [ht]; exact hP9, va_K.moved hW.alike hK9, hD9⟩⟩, hS.F ht⟩) hS.2.2 dX13_type_40
set_option maxHeartbeats 4000000 in
set_option maxRecDepth 100000 in
theorem c_X4_clear (l : Launch) (dC : Nat → ClassId) (dI : Nat → Nat → Nat) (q0 q1 : Nat) (sz : Nat) : Met l yX4_clear wsX4_clear ({ frames := 0, cells := 0, slots := 0, locals := 0 }) (va_Pc [.ref q0] (zB (dC, dI) [] [(q0, .inr (7, [.ref q1, .int 0]))] sz)) (va_Qv (fun (_ : Unit) => True) (fun _ t => zE (dC, dI) [] [] (va_A [(q0, .inr (7, [.ref q1, .int 0]))] sz) t) (va_A [(q0, .inr (7, [.ref q1, .int 0]))] sz)) 0 0 (va_A [(q0, .inr (7, [.ref q1, .int 0]))] sz) := by
  refine Met.ofW (cc := cX4_clear) (maxL := 1) (ret := none) (by decide) rfl ?_
  intro p e s m args below meth c s₁ B hml hv
  obtain ⟨rfl, hsz, hP, hK, hD0, hZ, hN⟩ := hv
  have hx := B.exec
  have hb := B.bytes
  have hr := B.returns
  have hts := atoms_spec (ws := wsX4_clear) B.pre
  have hown : s.vm.findClass RX4 = some m.cls := findClass_of_methodNamed B.named
  have hlocks := B.notSynchronized
  subst hsz
  have hD := hD0.self (sz := s.heap.size)
  generalize hAe : va_A [(q0, .inr (7, [.ref q1, .int 0]))] s.heap.size = A at hD hZ ⊢
  have hA : ∀ q : Nat, s.heap.size ≤ q → A q := fun q h => by rw [← hAe]; exact Or.inr h
  have hS : va_S A s.heap s.heap [] := va_S.rf
  have hP : va_P (dC, dI) vwCl [(q0, .inr (7, [.ref q1, .int 0]))] s.heap := hP
  have hl := lv_entry ([.ref q0]) (n := 1) (Nat.le_of_ble_eq_true rfl)
  rw [lg_entry_eq]
  generalize (lg_sl ([.ref q0]) ++ List.replicate (1 - (lg_sl ([.ref q0])).length) Slot.unset).toArray = ls at hl ⊢
  have hl : lv_has ls 1 [(0, .ref q0)] := hl
  refine lv_aload_n hx hb dX4_clear_0 rfl (lv_at hl 0 rfl) ?_
  refine lv_iconst (v := 0) hx hb dX4_clear_1 (by decide +kernel) ?_
  refine va_put (D := (dC, dI)) (ci := 7) (v := .int 0) (ty := .int) (C := RX4) (T := TX4) (N := 2) hx hb hts (fun _ h => List.mem_cons_of_mem _ (List.mem_append_right _ h)) tyX4 tyX4_ok nmX4 hown hK hP hD hS 0 rfl rfl 1 (by decide) (hts (.fieldLink RX4 15 "Seekwell$Line" "size" "I") (by decide +kernel)) (fun _ h9 => h9) rfl (by decide +kernel) rfl rfl (Nat.le_of_ble_eq_true rfl) dX4_clear_2 (fun H locs hP hD hS => ?_)
  have hP : va_P (dC, dI) vwCl [(q0, .inr (7, [.ref q1, .int 0]))] H := hP
  have hD : va_D A [(q0, .inr (7, [.ref q1, .int 0]))] := hD
  have hP9 := hP.sub (ws' := []) [] rfl
  have hD9 := hD.sub (ws' := []) [] (by decide) rfl
  have hK9 := hK.sub (tys' := []) [] rfl
  exact W.vret hx hb hr (fun t ht hW => ⟨⟨(), rfl, trivial, ⟨by rw [ht]; exact hP9, va_K.moved hW.alike hK9, hD9⟩⟩, hS.F ht⟩) hS.2.2 dX4_clear_5
set_option maxHeartbeats 4000000 in
set_option maxRecDepth 100000 in
theorem c_X11_erase (l : Launch) (dC : Nat → ClassId) (dI : Nat → Nat → Nat) (q0 q1 q2 q3 q4 q5 q6 q7 q8 q9 q10 q11 q12 q13 q14 : Nat) (sz : Nat) : Met l yX11_erase wsX11_erase ({ frames := 1, cells := 0, slots := 0, locals := 20 }) (va_Pc [.ref q0] (zB (dC, dI) [] [(q0, .inr (13, [.ref q1, .ref q2, .ref q3, .ref q4, .ref q5, .ref q6, .ref q7, .ref q8, .int 0, .ref q9, .ref q10, .ref q11, .ref q12, .ref q13])), (q1, .inr (7, [.ref q14, .int 0]))] sz)) (va_Qi (fun (r : Int32) (_ : Unit) => 0 = r) (fun _ t => zE (dC, dI) [] [] (va_A [(q0, .inr (13, [.ref q1, .ref q2, .ref q3, .ref q4, .ref q5, .ref q6, .ref q7, .ref q8, .int 0, .ref q9, .ref q10, .ref q11, .ref q12, .ref q13])), (q1, .inr (7, [.ref q14, .int 0]))] sz) t) (va_A [(q0, .inr (13, [.ref q1, .ref q2, .ref q3, .ref q4, .ref q5, .ref q6, .ref q7, .ref q8, .int 0, .ref q9, .ref q10, .ref q11, .ref q12, .ref q13])), (q1, .inr (7, [.ref q14, .int 0]))] sz)) 0 0 (va_A [(q0, .inr (13, [.ref q1, .ref q2, .ref q3, .ref q4, .ref q5, .ref q6, .ref q7, .ref q8, .int 0, .ref q9, .ref q10, .ref q11, .ref q12, .ref q13])), (q1, .inr (7, [.ref q14, .int 0]))] sz) := by
  refine Met.ofW (cc := cX11_erase) (maxL := 2) (ret := (some .int)) (by decide) rfl ?_
  intro p e s m args below meth c s₁ B hml hv
  obtain ⟨rfl, hsz, hP, hK, hD0, hZ, hN⟩ := hv
  have hx := B.exec
  have hb := B.bytes
  have hr := B.returns
  have hts := atoms_spec (ws := wsX11_erase) B.pre
  have hown : s.vm.findClass RX11 = some m.cls := findClass_of_methodNamed B.named
  have hlocks := B.notSynchronized
  subst hsz
  have hD := hD0.self (sz := s.heap.size)
  generalize hAe : va_A [(q0, .inr (13, [.ref q1, .ref q2, .ref q3, .ref q4, .ref q5, .ref q6, .ref q7, .ref q8, .int 0, .ref q9, .ref q10, .ref q11, .ref q12, .ref q13])), (q1, .inr (7, [.ref q14, .int 0]))] s.heap.size = A at hD hZ ⊢
  have hA : ∀ q : Nat, s.heap.size ≤ q → A q := fun q h => by rw [← hAe]; exact Or.inr h
  have hS : va_S A s.heap s.heap [] := va_S.rf
  have hP : va_P (dC, dI) vwCl [(q0, .inr (13, [.ref q1, .ref q2, .ref q3, .ref q4, .ref q5, .ref q6, .ref q7, .ref q8, .int 0, .ref q9, .ref q10, .ref q11, .ref q12, .ref q13])), (q1, .inr (7, [.ref q14, .int 0]))] s.heap := hP
  have hl := lv_entry ([.ref q0]) (n := 2) (Nat.le_of_ble_eq_true rfl)
  rw [lg_entry_eq]
  generalize (lg_sl ([.ref q0]) ++ List.replicate (2 - (lg_sl ([.ref q0])).length) Slot.unset).toArray = ls at hl ⊢
  have hl : lv_has ls 2 [(0, .ref q0)] := hl
  refine lv_aload_n hx hb dX11_erase_0 rfl (lv_at hl 0 rfl) ?_
  refine va_get (D := (dC, dI)) (ci := 13) (v := .ref q1) (C := RX11) (T := TX11) (N := 14) hx hb hts (fun _ h => List.mem_cons_of_mem _ (List.mem_append_left _ (List.mem_append_right _ h))) hown hK hP 0 rfl rfl 0 (by decide) (hts (.fieldLink RX11 10 "Seekwell" "text" "LSeekwell$Line;") (by decide +kernel)) (fun _ h9 => h9) rfl dX11_erase_1 ?_
  have hPc := hP.sub (ws' := [(q1, .inr (7, [.ref q14, .int 0]))]) [1] rfl
  have hDc := hD.sub (ws' := [(q1, .inr (7, [.ref q14, .int 0]))]) [1] (by decide) rfl
  have hKc := hK.sub (tys' := []) [] rfl
  have hFc := va_free (wc := [(q1, .inr (7, [.ref q14, .int 0]))]) hD hS hA [1] rfl
  refine va_calli (va_runV (As := []) (rest := []) ⟨hx, hb, hml, hown, hts⟩ (c_X4_size l dC dI q1 q14 s.heap.size  ) (cwV 0 hts gX11_erase_X4_size rfl rfl rfl (by decide +kernel) ⟨Nat.le_of_ble_eq_true rfl, Nat.le_of_ble_eq_true rfl⟩) ⟨zB_blind, va_recv hK hP (ci := 7) (q0 := 1) rfl rfl, (zPre hPc hDc hKc hS hFc hZ hN)⟩ rfl rfl hl.1 rfl (lv_room (Nat.le_of_ble_eq_true rfl)) dX11_erase_4 ⟨Nat.le_of_ble_eq_true rfl, Nat.le_of_ble_eq_true rfl⟩) hS (fun q _ h => hFc q h) hFc (fun r u t H1 locs ht hvm hw hB hz1 hk1 hS => ?_)
  subst hw
  obtain ⟨hP1, hK1, hD1⟩ := hB
  rw [ht] at hP1
  have hK1 := va_K.moved hvm.symm hK1
  obtain ⟨hP, hD⟩ := va_join (wr := [(q0, .inr (13, [.ref q1, .ref q2, .ref q3, .ref q4, .ref q5, .ref q6, .ref q7, .ref q8, .int 0, .ref q9, .ref q10, .ref q11, .ref q12, .ref q13]))]) (w1 := [(q1, .inr (7, [.ref q14, .int 0]))]) hP hD [1] [0] rfl rfl (by decide) (by decide) hk1 hFc hP1 hD1
  have hK := (hK.sub (tys' := []) [] rfl).app hK1
  generalize H1 = H at hP hS ⊢
  have hP : va_P (dC, dI) vwCl [(q0, .inr (13, [.ref q1, .ref q2, .ref q3, .ref q4, .ref q5, .ref q6, .ref q7, .ref q8, .int 0, .ref q9, .ref q10, .ref q11, .ref q12, .ref q13])), (q1, .inr (7, [.ref q14, .int 0]))] H := hP
  have hD : va_D A [(q0, .inr (13, [.ref q1, .ref q2, .ref q3, .ref q4, .ref q5, .ref q6, .ref q7, .ref q8, .int 0, .ref q9, .ref q10, .ref q11, .ref q12, .ref q13])), (q1, .inr (7, [.ref q14, .int 0]))] := hD
  have hK : va_K (dC, dI) vwCl [] s := hK
  refine W.widen (k := 0) (n := 0) (Nat.le_of_ble_eq_true rfl) (Nat.le_of_ble_eq_true rfl) ?_
  refine lv_istore_n (lv' := [(1, .int 0), (0, .ref q0)]) hx hb dX11_erase_7 rfl hl (by decide) rfl (fun ls hl => ?_)
  refine lv_aload_n hx hb dX11_erase_8 rfl (lv_at hl 1 rfl) ?_
  refine va_get (D := (dC, dI)) (ci := 13) (v := .ref q1) (C := RX11) (T := TX11) (N := 14) hx hb hts (fun _ h => List.mem_cons_of_mem _ (List.mem_append_left _ (List.mem_append_right _ h))) hown hK hP 0 rfl rfl 0 (by decide) (hts (.fieldLink RX11 10 "Seekwell" "text" "LSeekwell$Line;") (by decide +kernel)) (fun _ h9 => h9) rfl dX11_erase_9 ?_
  have hPc := hP.sub (ws' := [(q1, .inr (7, [.ref q14, .int 0]))]) [1] rfl
  have hDc := hD.sub (ws' := [(q1, .inr (7, [.ref q14, .int 0]))]) [1] (by decide) rfl
  have hKc := hK.sub (tys' := []) [] rfl
  have hFc := va_free (wc := [(q1, .inr (7, [.ref q14, .int 0]))]) hD hS hA [1] rfl
  refine va_callv (va_runV (As := []) (rest := []) ⟨hx, hb, hml, hown, hts⟩ (c_X4_clear l dC dI q1 q14 H.size  ) (cwV 0 hts gX11_erase_X4_clear rfl rfl rfl (by decide +kernel) ⟨Nat.le_of_ble_eq_true rfl, Nat.le_of_ble_eq_true rfl⟩) ⟨zB_blind, va_recv hK hP (ci := 7) (q0 := 1) rfl rfl, (zPre hPc hDc hKc hS hFc hZ hN)⟩ rfl rfl hl.1 rfl (lv_room (Nat.le_of_ble_eq_true rfl)) dX11_erase_12 ⟨Nat.le_of_ble_eq_true rfl, Nat.le_of_ble_eq_true rfl⟩) hS (fun q _ h => hFc q h) hFc (fun u t H1 locs ht hvm hw hB hz1 hk1 hS => ?_)
  obtain ⟨hP1, hK1, hD1⟩ := hB
  rw [ht] at hP1
  have hK1 := va_K.moved hvm.symm hK1
  obtain ⟨hP, hD⟩ := va_join (wr := []) (w1 := []) hP hD [1] [] rfl rfl (by decide) (by decide) hk1 hFc hP1 hD1
  have hK := (hK.sub (tys' := []) [] rfl).app hK1
  generalize H1 = H at hP hS ⊢
  have hP : va_P (dC, dI) vwCl [] H := hP
  have hD : va_D A [] := hD
  have hK : va_K (dC, dI) vwCl [] s := hK
  refine W.widen (k := 0) (n := 0) (Nat.le_of_ble_eq_true rfl) (Nat.le_of_ble_eq_true rfl) ?_
  refine lv_iload_n hx hb dX11_erase_15 rfl (lv_at hl 0 rfl) ?_
  have hP9 := hP.sub (ws' := []) [] rfl
  have hD9 := hD.sub (ws' := []) [] (by decide) rfl
  have hK9 := hK.sub (tys' := []) [] rfl
  exact W.iret (v := 0) hx hb hr (fun t ht hW => ⟨⟨0, (), rfl, rfl, ⟨by rw [ht]; exact hP9, va_K.moved hW.alike hK9, hD9⟩⟩, hS.F ht⟩) hS.2.2 dX11_erase_16
set_option maxHeartbeats 4000000 in
set_option maxRecDepth 100000 in
theorem c_X13_erase (l : Launch) (dC : Nat → ClassId) (dI : Nat → Nat → Nat) (q0 q1 q2 q3 q4 q5 q6 q7 q8 q9 q10 q11 q12 q13 q14 q15 q16 q17 q18 q19 : Nat) (sz : Nat) : Met l yX13_erase wsX13_erase ({ frames := 0, cells := 0, slots := 0, locals := 0 }) (va_Pc [.ref q0] (zB (dC, dI) [] [(q0, .inr (15, [.ref q1, .ref q2, .ref q3, .ref q4, .ref q5, .ref q6, .int 0, .int 1, .ref q7, .int 0, .ref q8, .null, .ref q9, .null, .ref q10, .ref q11, .ref q12, .ref q13, .ref q14, .int 0, .ref q15, .ref q16, .ref q17, .ref q18, .ref q19, .int 0, .int 0]))] sz)) (va_Qi (fun (r : Int32) (_ : Unit) => 0 = r) (fun _ t => zE (dC, dI) [] [] (va_A [(q0, .inr (15, [.ref q1, .ref q2, .ref q3, .ref q4, .ref q5, .ref q6, .int 0, .int 1, .ref q7, .int 0, .ref q8, .null, .ref q9, .null, .ref q10, .ref q11, .ref q12, .ref q13, .ref q14, .int 0, .ref q15, .ref q16, .ref q17, .ref q18, .ref q19, .int 0, .int 0]))] sz) t) (va_A [(q0, .inr (15, [.ref q1, .ref q2, .ref q3, .ref q4, .ref q5, .ref q6, .int 0, .int 1, .ref q7, .int 0, .ref q8, .null, .ref q9, .null, .ref q10, .ref q11, .ref q12, .ref q13, .ref q14, .int 0, .ref q15, .ref q16, .ref q17, .ref q18, .ref q19, .int 0, .int 0]))] sz)) 0 0 (va_A [(q0, .inr (15, [.ref q1, .ref q2, .ref q3, .ref q4, .ref q5, .ref q6, .int 0, .int 1, .ref q7, .int 0, .ref q8, .null, .ref q9, .null, .ref q10, .ref q11, .ref q12, .ref q13, .ref q14, .int 0, .ref q15, .ref q16, .ref q17, .ref q18, .ref q19, .int 0, .int 0]))] sz) := by
  refine Met.ofW (cc := cX13_erase) (maxL := 2) (ret := (some .int)) (by decide) rfl ?_
  intro p e s m args below meth c s₁ B hml hv
  obtain ⟨rfl, hsz, hP, hK, hD0, hZ, hN⟩ := hv
  have hx := B.exec
  have hb := B.bytes
  have hr := B.returns
  have hts := atoms_spec (ws := wsX13_erase) B.pre
  have hown : s.vm.findClass RX13 = some m.cls := findClass_of_methodNamed B.named
  have hlocks := B.notSynchronized
  subst hsz
  have hD := hD0.self (sz := s.heap.size)
  generalize hAe : va_A [(q0, .inr (15, [.ref q1, .ref q2, .ref q3, .ref q4, .ref q5, .ref q6, .int 0, .int 1, .ref q7, .int 0, .ref q8, .null, .ref q9, .null, .ref q10, .ref q11, .ref q12, .ref q13, .ref q14, .int 0, .ref q15, .ref q16, .ref q17, .ref q18, .ref q19, .int 0, .int 0]))] s.heap.size = A at hD hZ ⊢
  have hA : ∀ q : Nat, s.heap.size ≤ q → A q := fun q h => by rw [← hAe]; exact Or.inr h
  have hS : va_S A s.heap s.heap [] := va_S.rf
  have hP : va_P (dC, dI) vwCl [(q0, .inr (15, [.ref q1, .ref q2, .ref q3, .ref q4, .ref q5, .ref q6, .int 0, .int 1, .ref q7, .int 0, .ref q8, .null, .ref q9, .null, .ref q10, .ref q11, .ref q12, .ref q13, .ref q14, .int 0, .ref q15, .ref q16, .ref q17, .ref q18, .ref q19, .int 0, .int 0]))] s.heap := hP
  have hl := lv_entry ([.ref q0]) (n := 2) (Nat.le_of_ble_eq_true rfl)
  rw [lg_entry_eq]
  generalize (lg_sl ([.ref q0]) ++ List.replicate (2 - (lg_sl ([.ref q0])).length) Slot.unset).toArray = ls at hl ⊢
  have hl : lv_has ls 2 [(0, .ref q0)] := hl
  refine lv_aload_n hx hb dX13_erase_0 rfl (lv_at hl 0 rfl) ?_
  refine lv_iconst (v := 0) hx hb dX13_erase_1 (by decide +kernel) ?_
  refine va_put (D := (dC, dI)) (ci := 15) (v := .int 0) (ty := .int) (C := RX13) (T := TX13) (N := 27) hx hb hts (fun _ h => List.mem_cons_of_mem _ (List.mem_append_right _ h)) tyX13 tyX13_ok nmX13 hown hK hP hD hS 0 rfl rfl 19 (by decide) (hts (.fieldLink RX13 82 "SeekwellModel" "thrown" "I") (by decide +kernel)) (fun _ h9 => h9) rfl (by decide +kernel) rfl rfl (Nat.le_of_ble_eq_true rfl) dX13_erase_2 (fun H locs hP hD hS => ?_)
  have hP : va_P (dC, dI) vwCl [(q0, .inr (15, [.ref q1, .ref q2, .ref q3, .ref q4, .ref q5, .ref q6, .int 0, .int 1, .ref q7, .int 0, .ref q8, .null, .ref q9, .null, .ref q10, .ref q11, .ref q12, .ref q13, .ref q14, .int 0, .ref q15, .ref q16, .ref q17, .ref q18, .ref q19, .int 0, .int 0]))] H := hP
  have hD : va_D A [(q0, .inr (15, [.ref q1, .ref q2, .ref q3, .ref q4, .ref q5, .ref q6, .int 0, .int 1, .ref q7, .int 0, .ref q8, .null, .ref q9, .null, .ref q10, .ref q11, .ref q12, .ref q13, .ref q14, .int 0, .ref q15, .ref q16, .ref q17, .ref q18, .ref q19, .int 0, .int 0]))] := hD
  refine lv_aload_n hx hb dX13_erase_5 rfl (lv_at hl 0 rfl) ?_
  refine va_get (D := (dC, dI)) (ci := 15) (v := .int 0) (C := RX13) (T := TX13) (N := 27) hx hb hts (fun _ h => List.mem_cons_of_mem _ (List.mem_append_right _ h)) hown hK hP 0 rfl rfl 9 (by decide) (hts (.fieldLink RX13 132 "SeekwellModel" "typed" "I") (by decide +kernel)) (fun _ h9 => h9) rfl dX13_erase_6 ?_
  refine lv_istore_n (lv' := [(1, .int 0), (0, .ref q0)]) hx hb dX13_erase_9 rfl hl (by decide) rfl (fun ls hl => ?_)
  refine lv_aload_n hx hb dX13_erase_10 rfl (lv_at hl 1 rfl) ?_
  refine lv_iconst (v := 0) hx hb dX13_erase_11 (by decide +kernel) ?_
  refine va_put (D := (dC, dI)) (ci := 15) (v := .int 0) (ty := .int) (C := RX13) (T := TX13) (N := 27) hx hb hts (fun _ h => List.mem_cons_of_mem _ (List.mem_append_right _ h)) tyX13 tyX13_ok nmX13 hown hK hP hD hS 0 rfl rfl 9 (by decide) (hts (.fieldLink RX13 132 "SeekwellModel" "typed" "I") (by decide +kernel)) (fun _ h9 => h9) rfl (by decide +kernel) rfl rfl (Nat.le_of_ble_eq_true rfl) dX13_erase_12 (fun H locs hP hD hS => ?_)
  have hP : va_P (dC, dI) vwCl [(q0, .inr (15, [.ref q1, .ref q2, .ref q3, .ref q4, .ref q5, .ref q6, .int 0, .int 1, .ref q7, .int 0, .ref q8, .null, .ref q9, .null, .ref q10, .ref q11, .ref q12, .ref q13, .ref q14, .int 0, .ref q15, .ref q16, .ref q17, .ref q18, .ref q19, .int 0, .int 0]))] H := hP
  have hD : va_D A [(q0, .inr (15, [.ref q1, .ref q2, .ref q3, .ref q4, .ref q5, .ref q6, .int 0, .int 1, .ref q7, .int 0, .ref q8, .null, .ref q9, .null, .ref q10, .ref q11, .ref q12, .ref q13, .ref q14, .int 0, .ref q15, .ref q16, .ref q17, .ref q18, .ref q19, .int 0, .int 0]))] := hD
  refine lv_iload_n hx hb dX13_erase_15 rfl (lv_at hl 0 rfl) ?_
  have hP9 := hP.sub (ws' := []) [] rfl
  have hD9 := hD.sub (ws' := []) [] (by decide) rfl
  have hK9 := hK.sub (tys' := []) [] rfl
  exact W.iret (v := 0) hx hb hr (fun t ht hW => ⟨⟨0, (), rfl, rfl, ⟨by rw [ht]; exact hP9, va_K.moved hW.alike hK9, hD9⟩⟩, hS.F ht⟩) hS.2.2 dX13_erase_16
set_option maxHeartbeats 4000000 in
set_option maxRecDepth 100000 in
theorem c_X11_signAt (l : Launch) (hfl : l.stackTraces = false) (dC : Nat → ClassId) (dI : Nat → Nat → Nat) (q0 : Nat) (sz : Nat) (p1 : Int32) (hc0 : p1 < 0) : vx_Met l yX11_signAt wsX11_signAt ({ frames := 6, cells := 1, slots := 6, locals := 90 }) (va_Pc [.ref q0, .int p1] (zB (dC, dI) [] [] sz)) (va_Qi (fun (_ : Int32) (_ : Unit) => False) (fun _ _ => True) (va_A [] sz)) (vx_X (fun (_ : Unit) => True) (fun E _ _ => "java/lang/IndexOutOfBoundsException" = E) (va_A [] sz)) 1 6 (va_A [] sz) := by
  refine vx_ofW (cc := cX11_signAt) (maxL := 2) (ret := (some .char)) (by decide) rfl ?_
  intro p e s m args below meth c s₁ B hml hnoex hv
  obtain ⟨rfl, hsz, hP, hK, hD0, hZ, hN⟩ := hv
  have hx := B.exec
  have hb := B.bytes
  have hr := B.returns
  have hts := atoms_spec (ws := wsX11_signAt) B.pre
  have hown : s.vm.findClass RX11 = some m.cls := findClass_of_methodNamed B.named
  have hlocks := B.notSynchronized
  subst hsz
  have hD := hD0.self (sz := s.heap.size)
  generalize hAe : va_A [] s.heap.size = A at hD hZ ⊢
  have hA : ∀ q : Nat, s.heap.size ≤ q → A q := fun q h => by rw [← hAe]; exact Or.inr h
  have hS : va_S A s.heap s.heap [] := va_S.rf
  have hP : va_P (dC, dI) vwCl [] s.heap := hP
  have hl := lv_entry ([.ref q0, .int p1]) (n := 2) (Nat.le_of_ble_eq_true rfl)
  rw [lg_entry_eq]
  generalize (lg_sl ([.ref q0, .int p1]) ++ List.replicate (2 - (lg_sl ([.ref q0, .int p1])).length) Slot.unset).toArray = ls at hl ⊢
  have hl : lv_has ls 2 [(0, .ref q0), (1, .int p1)] := hl
  refine lv_iload_n hx hb dX11_signAt_0 rfl (lv_at hl 1 rfl) ?_
  refine lv_if_lt (tgt := 15) hx hb dX11_signAt_1 (by decide) (fun _ => ?_) (fun h9 => absurd hc0 h9)
  obtain ⟨sa, hstr⟩ := hN.2.2.2.2.1 (RX11, 106, "the text has no such place") (by decide +kernel)
  refine vx_throwS (A := A) (cls := "java/lang/IndexOutOfBoundsException") (names := ["java/lang/RuntimeException", "java/lang/Exception"]) (own := RX11) (text := "the text has no such place") hx hb hfl hown (by decide +kernel) (by decide +kernel) (hts (.classLink RX11 104 "java/lang/IndexOutOfBoundsException") (by decide +kernel)) (hts (.initialized "java/lang/IndexOutOfBoundsException") (by decide +kernel)) hstr (vx_hat (B := [Cond.castable "java/lang/IndexOutOfBoundsException" "java/lang/IndexOutOfBoundsException", Cond.declares (Bundle.initS "java/lang/RuntimeException"), Cond.declares (Bundle.initS "java/lang/Exception"), Cond.declares (Bundle.initS Bundle.tN)]) (fun w h => hts w (List.mem_cons_of_mem _ (List.mem_append_left _ (List.mem_append_right _ h)))) (by decide +kernel) (zthr hN (by decide +kernel))) (by decide +kernel) hZ.1 hZ.2 hS (hl.1.trans hml.symm) dX11_signAt_15 dX11_signAt_18 dX11_signAt_19 dX11_signAt_21 dX11_signAt_24 (fun x h => (hnoex x h).elim) (Nat.lt_of_succ_le (Nat.le_of_ble_eq_true rfl)) (Nat.le_of_ble_eq_true rfl) (Nat.le_of_ble_eq_true rfl) (Nat.le_of_ble_eq_true rfl) hlocks ?_ hS.2.2 (Nat.le_refl _) (Nat.le_refl _)
  exact fun t hvm hz hk => ⟨(), trivial, rfl, zF hS hz hk⟩
set_option maxHeartbeats 4000000 in
set_option maxRecDepth 100000 in
theorem c_L_signAt (l : Launch) (hfl : l.stackTraces = false) (dC : Nat → ClassId) (dI : Nat → Nat → Nat) (q0 q1 q2 q3 q4 q5 q6 q7 q8 q9 q10 q11 q12 q13 q14 : Nat) (sz : Nat) (p1 : Int32) (hc0 : p1 < 0) : Met l yL_signAt wsL_signAt ({ frames := 7, cells := 1, slots := 6, locals := 111 }) (va_Pc [.ref q0, .int p1, .ref q1] (zB (dC, dI) [] [(q0, .inr (13, [.ref q2, .ref q3, .ref q4, .ref q5, .ref q6, .ref q7, .ref q8, .ref q9, .int 0, .ref q10, .ref q11, .ref q12, .ref q13, .ref q14]))] sz)) (va_Qi (fun (r : Int32) (_ : Unit) => 1 = r) (fun _ t => zE (dC, dI) [] [] (va_A [(q0, .inr (13, [.ref q2, .ref q3, .ref q4, .ref q5, .ref q6, .ref q7, .ref q8, .ref q9, .int 0, .ref q10, .ref q11, .ref q12, .ref q13, .ref q14]))] sz) t) (va_A [(q0, .inr (13, [.ref q2, .ref q3, .ref q4, .ref q5, .ref q6, .ref q7, .ref q8, .ref q9, .int 0, .ref q10, .ref q11, .ref q12, .ref q13, .ref q14]))] sz)) 1 6 (va_A [(q0, .inr (13, [.ref q2, .ref q3, .ref q4, .ref q5, .ref q6, .ref q7, .ref q8, .ref q9, .int 0, .ref q10, .ref q11, .ref q12, .ref q13, .ref q14]))] sz) := by
  refine va_MetW (cc := cL_signAt) (maxL := 4) (ret := (some .int)) (by decide) rfl ?_
  intro p e s m args below meth c s₁ B hml hv
  obtain ⟨rfl, hsz, hP, hK, hD0, hZ, hN⟩ := hv
  have hx := B.exec
  have hb := B.bytes
  have hr := B.returns
  have hts := atoms_spec (ws := wsL_signAt) B.pre
  have hown : s.vm.findClass RL = some m.cls := findClass_of_methodNamed B.named
  have hlocks := B.notSynchronized
  have htab := vx_table (x := yL_signAt) B (hts (.codeWith yL_signAt cL_signAt 4 (some .int) [(0, 9, 12, 21)]) List.mem_cons_self)
  subst hsz
  have hD := hD0.self (sz := s.heap.size)
  generalize hAe : va_A [(q0, .inr (13, [.ref q2, .ref q3, .ref q4, .ref q5, .ref q6, .ref q7, .ref q8, .ref q9, .int 0, .ref q10, .ref q11, .ref q12, .ref q13, .ref q14]))] s.heap.size = A at hD hZ ⊢
  have hA : ∀ q : Nat, s.heap.size ≤ q → A q := fun q h => by rw [← hAe]; exact Or.inr h
  have hS : va_S A s.heap s.heap [] := va_S.rf
  have hP : va_P (dC, dI) vwCl [(q0, .inr (13, [.ref q2, .ref q3, .ref q4, .ref q5, .ref q6, .ref q7, .ref q8, .ref q9, .int 0, .ref q10, .ref q11, .ref q12, .ref q13, .ref q14]))] s.heap := hP
  have hl := lv_entry ([.ref q0, .int p1, .ref q1]) (n := 4) (Nat.le_of_ble_eq_true rfl)
  rw [lg_entry_eq]
  generalize (lg_sl ([.ref q0, .int p1, .ref q1]) ++ List.replicate (4 - (lg_sl ([.ref q0, .int p1, .ref q1])).length) Slot.unset).toArray = ls at hl ⊢
  have hl : lv_has ls 4 [(0, .ref q0), (1, .int p1), (2, .ref q1)] := hl
  refine lv_aload_n hx hb dL_signAt_0 rfl (lv_at hl 2 rfl) ?_
  refine lv_iconst (v := 0) hx hb dL_signAt_1 (by decide +kernel) ?_
  refine lv_aload_n hx hb dL_signAt_2 rfl (lv_at hl 0 rfl) ?_
  refine lv_iload_n hx hb dL_signAt_3 rfl (lv_at hl 1 rfl) ?_
  have hPc := hP.sub (ws' := []) [] rfl
  have hDc := hD.sub (ws' := []) [] (by decide) rfl
  have hKc := hK.sub (tys' := []) [] rfl
  have hFc := va_free (wc := []) hD hS hA [] rfl
  refine vx_calli (vx_runV (As := [.int p1]) (rest := [.int 0, .ref q1]) ⟨hx, hb, hml, hown, hts⟩ (c_X11_signAt l hfl dC dI q0 s.heap.size p1 hc0) (cwV 1 hts gL_signAt_X11_signAt rfl rfl rfl (by decide +kernel) ⟨Nat.le_of_ble_eq_true rfl, Nat.le_of_ble_eq_true rfl⟩) ⟨zB_blind, va_recv hK hP (ci := 13) (q0 := 0) rfl rfl, (zPre hPc hDc hKc hS hFc hZ hN)⟩ rfl rfl hl.1 rfl (lv_room (Nat.le_of_ble_eq_true rfl)) dL_signAt_4 ⟨Nat.le_of_ble_eq_true rfl, Nat.le_of_ble_eq_true rfl⟩) hS (fun q _ h => hFc q h) hFc (fun q _ h => hFc q h) (fun E ce qx u t H1 locs1 ht hvm hpx hBX hz1 hk1 hS hq9 hv9 hcl9 => ?_) (fun r u t H1 locs1 _ _ hw => hw.elim)
  subst hBX
  refine vx_catch (name := "java/lang/IndexOutOfBoundsException") hown [] ⟨0, 9, 12, 21⟩ [] (by rw [htab]; rfl) (fun z h => absurd h List.not_mem_nil) rfl (by decide) (hts (.classLink RL 21 "java/lang/IndexOutOfBoundsException") (by decide +kernel)) (va_Nw.use rfl (hN.2.1 "java/lang/IndexOutOfBoundsException" (by decide +kernel))) hq9 hv9 hcl9 ?_
  generalize H1 = H at hS ⊢
  refine W.widen (k := 1) (n := 6) (Nat.le_of_ble_eq_true rfl) (Nat.le_of_ble_eq_true rfl) ?_
  have hP : va_P (dC, dI) vwCl [] H := zP_nil
  have hD : va_D A [] := zD_nil
  have hK := hK.sub (tys' := []) [] rfl
  refine lv_astore_n (lv' := [(3, .ref qx), (0, .ref q0), (1, .int p1), (2, .ref q1)]) hx hb dL_signAt_12 rfl hl (by decide) rfl (fun ls hl => ?_)
  refine lv_iconst (v := 1) hx hb dL_signAt_13 (by decide +kernel) ?_
  have hP9 := hP.sub (ws' := []) [] rfl
  have hD9 := hD.sub (ws' := []) [] (by decide) rfl
  have hK9 := hK.sub (tys' := []) [] rfl
  exact W.iret (v := 1) hx hb hr (fun t ht hW => ⟨⟨1, (), rfl, rfl, ⟨by rw [ht]; exact hP9, va_K.moved hW.alike hK9, hD9⟩⟩, hS.F ht⟩) hS.2.2 dL_signAt_14
set_option maxHeartbeats 4000000 in
set_option maxRecDepth 100000 in
theorem c_X13_in_4 (l : Launch) (dC : Nat → ClassId) (dI : Nat → Nat → Nat) (sz : Nat) (p0 : Int32) (hc0 : p0 < 0) : Met l yX13_in wsX13_in ({ frames := 0, cells := 0, slots := 0, locals := 0 }) (va_Pc [.int p0, .int 0, .int (-1)] (zB (dC, dI) [] [] sz)) (va_Qi (fun (r : Int32) (_ : Unit) => 0 = r) (fun _ t => zE (dC, dI) [] [] (va_A [] sz) t) (va_A [] sz)) 0 0 (va_A [] sz) := by
  refine Met.ofW (cc := cX13_in) (maxL := 3) (ret := (some .boolean)) (by decide) rfl ?_
  intro p e s m args below meth c s₁ B hml hv
  obtain ⟨rfl, hsz, hP, hK, hD0, hZ, hN⟩ := hv
  have hx := B.exec
  have hb := B.bytes
  have hr := B.returns
  have hts := atoms_spec (ws := wsX13_in) B.pre
  have hown : s.vm.findClass RX13 = some m.cls := findClass_of_methodNamed B.named
  have hlocks := B.notSynchronized
  subst hsz
  have hD := hD0.self (sz := s.heap.size)
  generalize hAe : va_A [] s.heap.size = A at hD hZ ⊢
  have hA : ∀ q : Nat, s.heap.size ≤ q → A q := fun q h => by rw [← hAe]; exact Or.inr h
  have hS : va_S A s.heap s.heap [] := va_S.rf
  have hP : va_P (dC, dI) vwCl [] s.heap := hP
  have hl := lv_entry ([.int p0, .int 0, .int (-1)]) (n := 3) (Nat.le_of_ble_eq_true rfl)
  rw [lg_entry_eq]
  generalize (lg_sl ([.int p0, .int 0, .int (-1)]) ++ List.replicate (3 - (lg_sl ([.int p0, .int 0, .int (-1)])).length) Slot.unset).toArray = ls at hl ⊢
  have hl : lv_has ls 3 [(0, .int p0), (1, .int 0), (2, .int (-1))] := hl
  refine lv_iload_n hx hb dX13_in_0 rfl (lv_at hl 0 rfl) ?_
  refine lv_iload_n hx hb dX13_in_1 rfl (lv_at hl 1 rfl) ?_
  refine lv_icmp_lt (tgt := 14) hx hb dX13_in_2 (by decide) (fun _ => ?_) (fun h9 => absurd hc0 h9)
  refine lv_iconst (v := 0) hx hb dX13_in_14 (by decide +kernel) ?_
  have hP9 := hP.sub (ws' := []) [] rfl
  have hD9 := hD.sub (ws' := []) [] (by decide) rfl
  have hK9 := hK.sub (tys' := []) [] rfl
  exact W.zret (v := 0) hx hb hr (by decide +kernel) (fun t ht hW => ⟨⟨0, (), rfl, rfl, ⟨by rw [ht]; exact hP9, va_K.moved hW.alike hK9, hD9⟩⟩, hS.F ht⟩) hS.2.2 dX13_in_15
set_option maxHeartbeats 4000000 in
set_option maxRecDepth 100000 in
theorem c_X13_signAt (l : Launch) (dC : Nat → ClassId) (dI : Nat → Nat → Nat) (q0 q1 q2 q3 q4 q5 q6 q7 q8 q9 q10 q11 q12 q13 q14 q15 q16 q17 q18 q19 : Nat) (sz : Nat) (p1 : Int32) (hc0 : p1 < 0) : Met l yX13_signAt wsX13_signAt ({ frames := 1, cells := 0, slots := 0, locals := 22 }) (va_Pc [.ref q0, .int p1] (zB (dC, dI) [] [(q0, .inr (15, [.ref q1, .ref q2, .ref q3, .ref q4, .ref q5, .ref q6, .int 0, .int 1, .ref q7, .int 0, .ref q8, .null, .ref q9, .null, .ref q10, .ref q11, .ref q12, .ref q13, .ref q14, .int 0, .ref q15, .ref q16, .ref q17, .ref q18, .ref q19, .int 0, .int 0]))] sz)) (va_Qi (fun (r : Int32) (_ : Unit) => 32 = r) (fun _ t => zE (dC, dI) [] [(q0, .inr (15, [.ref q1, .ref q2, .ref q3, .ref q4, .ref q5, .ref q6, .int 0, .int 1, .ref q7, .int 0, .ref q8, .null, .ref q9, .null, .ref q10, .ref q11, .ref q12, .ref q13, .ref q14, .int 1, .ref q15, .ref q16, .ref q17, .ref q18, .ref q19, .int 0, .int 0]))] (va_A [(q0, .inr (15, [.ref q1, .ref q2, .ref q3, .ref q4, .ref q5, .ref q6, .int 0, .int 1, .ref q7, .int 0, .ref q8, .null, .ref q9, .null, .ref q10, .ref q11, .ref q12, .ref q13, .ref q14, .int 0, .ref q15, .ref q16, .ref q17, .ref q18, .ref q19, .int 0, .int 0]))] sz) t) (va_A [(q0, .inr (15, [.ref q1, .ref q2, .ref q3, .ref q4, .ref q5, .ref q6, .int 0, .int 1, .ref q7, .int 0, .ref q8, .null, .ref q9, .null, .ref q10, .ref q11, .ref q12, .ref q13, .ref q14, .int 0, .ref q15, .ref q16, .ref q17, .ref q18, .ref q19, .int 0, .int 0]))] sz)) 0 0 (va_A [(q0, .inr (15, [.ref q1, .ref q2, .ref q3, .ref q4, .ref q5, .ref q6, .int 0, .int 1, .ref q7, .int 0, .ref q8, .null, .ref q9, .null, .ref q10, .ref q11, .ref q12, .ref q13, .ref q14, .int 0, .ref q15, .ref q16, .ref q17, .ref q18, .ref q19, .int 0, .int 0]))] sz) := by
  refine Met.ofW (cc := cX13_signAt) (maxL := 2) (ret := (some .char)) (by decide) rfl ?_
  intro p e s m args below meth c s₁ B hml hv
  obtain ⟨rfl, hsz, hP, hK, hD0, hZ, hN⟩ := hv
  have hx := B.exec
  have hb := B.bytes
  have hr := B.returns
  have hts := atoms_spec (ws := wsX13_signAt) B.pre
  have hown : s.vm.findClass RX13 = some m.cls := findClass_of_methodNamed B.named
  have hlocks := B.notSynchronized
  subst hsz
  have hD := hD0.self (sz := s.heap.size)
  generalize hAe : va_A [(q0, .inr (15, [.ref q1, .ref q2, .ref q3, .ref q4, .ref q5, .ref q6, .int 0, .int 1, .ref q7, .int 0, .ref q8, .null, .ref q9, .null, .ref q10, .ref q11, .ref q12, .ref q13, .ref q14, .int 0, .ref q15, .ref q16, .ref q17, .ref q18, .ref q19, .int 0, .int 0]))] s.heap.size = A at hD hZ ⊢
  have hA : ∀ q : Nat, s.heap.size ≤ q → A q := fun q h => by rw [← hAe]; exact Or.inr h
  have hS : va_S A s.heap s.heap [] := va_S.rf
  have hP : va_P (dC, dI) vwCl [(q0, .inr (15, [.ref q1, .ref q2, .ref q3, .ref q4, .ref q5, .ref q6, .int 0, .int 1, .ref q7, .int 0, .ref q8, .null, .ref q9, .null, .ref q10, .ref q11, .ref q12, .ref q13, .ref q14, .int 0, .ref q15, .ref q16, .ref q17, .ref q18, .ref q19, .int 0, .int 0]))] s.heap := hP
  have hl := lv_entry ([.ref q0, .int p1]) (n := 2) (Nat.le_of_ble_eq_true rfl)
  rw [lg_entry_eq]
  generalize (lg_sl ([.ref q0, .int p1]) ++ List.replicate (2 - (lg_sl ([.ref q0, .int p1])).length) Slot.unset).toArray = ls at hl ⊢
  have hl : lv_has ls 2 [(0, .ref q0), (1, .int p1)] := hl
  refine lv_aload_n hx hb dX13_signAt_0 rfl (lv_at hl 0 rfl) ?_
  refine lv_iload_n hx hb dX13_signAt_1 rfl (lv_at hl 1 rfl) ?_
  refine lv_iconst (v := 0) hx hb dX13_signAt_2 (by decide +kernel) ?_
  refine lv_aload_n hx hb dX13_signAt_3 rfl (lv_at hl 0 rfl) ?_
  refine va_get (D := (dC, dI)) (ci := 15) (v := .int 0) (C := RX13) (T := TX13) (N := 27) hx hb hts (fun _ h => List.mem_cons_of_mem _ (List.mem_append_left _ (List.mem_append_right _ h))) hown hK hP 0 rfl rfl 9 (by decide) (hts (.fieldLink RX13 132 "SeekwellModel" "typed" "I") (by decide +kernel)) (fun _ h9 => h9) rfl dX13_signAt_4 ?_
  refine lv_iconst (v := 1) hx hb dX13_signAt_7 (by decide +kernel) ?_
  refine lv_isub hx hb dX13_signAt_8 ?_
  refine zt_i (v := (-1)) (by decide +kernel) ?_
  have hPc := hP.sub (ws' := []) [] rfl
  have hDc := hD.sub (ws' := []) [] (by decide) rfl
  have hKc := hK.sub (tys' := []) [] rfl
  have hFc := va_free (wc := []) hD hS hA [] rfl
  refine va_calli (va_runS (As := [.int p1, .int 0, .int (-1)]) (rest := [.ref q0]) ⟨hx, hb, hml, hown, hts⟩ (c_X13_in_4 l dC dI  s.heap.size p1 hc0) (va_cwS 3 hts gX13_signAt_X13_in rfl rfl rfl (by decide +kernel) ⟨Nat.le_of_ble_eq_true rfl, Nat.le_of_ble_eq_true rfl⟩) ⟨zB_blind, (zPre hPc hDc hKc hS hFc hZ hN)⟩ rfl rfl hl.1 rfl (lv_room (Nat.le_of_ble_eq_true rfl)) dX13_signAt_9 ⟨Nat.le_of_ble_eq_true rfl, Nat.le_of_ble_eq_true rfl⟩) hS (fun q _ h => hFc q h) hFc (fun r u t H1 locs ht hvm hw hB hz1 hk1 hS => ?_)
  subst hw
  obtain ⟨hP1, hK1, hD1⟩ := hB
  rw [ht] at hP1
  have hK1 := va_K.moved hvm.symm hK1
  obtain ⟨hP, hD⟩ := va_join (wr := [(q0, .inr (15, [.ref q1, .ref q2, .ref q3, .ref q4, .ref q5, .ref q6, .int 0, .int 1, .ref q7, .int 0, .ref q8, .null, .ref q9, .null, .ref q10, .ref q11, .ref q12, .ref q13, .ref q14, .int 0, .ref q15, .ref q16, .ref q17, .ref q18, .ref q19, .int 0, .int 0]))]) (w1 := []) hP hD [] [0] rfl rfl (by decide) (by decide) hk1 hFc hP1 hD1
  have hK := (hK.sub (tys' := []) [] rfl).app hK1
  generalize H1 = H at hP hS ⊢
  have hP : va_P (dC, dI) vwCl [(q0, .inr (15, [.ref q1, .ref q2, .ref q3, .ref q4, .ref q5, .ref q6, .int 0, .int 1, .ref q7, .int 0, .ref q8, .null, .ref q9, .null, .ref q10, .ref q11, .ref q12, .ref q13, .ref q14, .int 0, .ref q15, .ref q16, .ref q17, .ref q18, .ref q19, .int 0, .int 0]))] H := hP
  have hD : va_D A [(q0, .inr (15, [.ref q1, .ref q2, .ref q3, .ref q4, .ref q5, .ref q6, .int 0, .int 1, .ref q7, .int 0, .ref q8, .null, .ref q9, .null, .ref q10, .ref q11, .ref q12, .ref q13, .ref q14, .int 0, .ref q15, .ref q16, .ref q17, .ref q18, .ref q19, .int 0, .int 0]))] := hD
  have hK : va_K (dC, dI) vwCl [] s := hK
  refine W.widen (k := 0) (n := 0) (Nat.le_of_ble_eq_true rfl) (Nat.le_of_ble_eq_true rfl) ?_
  refine lv_iconst (v := 1) hx hb dX13_signAt_12 (by decide +kernel) ?_
  have hPc := hP.sub (ws' := [(q0, .inr (15, [.ref q1, .ref q2, .ref q3, .ref q4, .ref q5, .ref q6, .int 0, .int 1, .ref q7, .int 0, .ref q8, .null, .ref q9, .null, .ref q10, .ref q11, .ref q12, .ref q13, .ref q14, .int 0, .ref q15, .ref q16, .ref q17, .ref q18, .ref q19, .int 0, .int 0]))]) [0] rfl
  have hDc := hD.sub (ws' := [(q0, .inr (15, [.ref q1, .ref q2, .ref q3, .ref q4, .ref q5, .ref q6, .int 0, .int 1, .ref q7, .int 0, .ref q8, .null, .ref q9, .null, .ref q10, .ref q11, .ref q12, .ref q13, .ref q14, .int 0, .ref q15, .ref q16, .ref q17, .ref q18, .ref q19, .int 0, .int 0]))]) [0] (by decide) rfl
  have hKc := hK.sub (tys' := []) [] rfl
  have hFc := va_free (wc := [(q0, .inr (15, [.ref q1, .ref q2, .ref q3, .ref q4, .ref q5, .ref q6, .int 0, .int 1, .ref q7, .int 0, .ref q8, .null, .ref q9, .null, .ref q10, .ref q11, .ref q12, .ref q13, .ref q14, .int 0, .ref q15, .ref q16, .ref q17, .ref q18, .ref q19, .int 0, .int 0]))]) hD hS hA [0] rfl
  refine va_calli (va_runV (As := [.int 0, .int 1]) (rest := []) ⟨hx, hb, hml, hown, hts⟩ (c_X13_no l dC dI q0 q1 q2 q3 q4 q5 q6 q7 q8 q9 q10 q11 q12 q13 q14 q15 q16 q17 q18 q19 H.size  ) (cwV 2 hts gX13_signAt_X13_no rfl rfl rfl (by decide +kernel) ⟨Nat.le_of_ble_eq_true rfl, Nat.le_of_ble_eq_true rfl⟩) ⟨zB_blind, va_recv hK hP (ci := 15) (q0 := 0) rfl rfl, (zPre hPc hDc hKc hS hFc hZ hN)⟩ rfl rfl hl.1 rfl (lv_room (Nat.le_of_ble_eq_true rfl)) dX13_signAt_13 ⟨Nat.le_of_ble_eq_true rfl, Nat.le_of_ble_eq_true rfl⟩) hS (fun q _ h => hFc q h) hFc (fun r u t H1 locs ht hvm hw hB hz1 hk1 hS => ?_)
  subst hw
  obtain ⟨hP1, hK1, hD1⟩ := hB
  rw [ht] at hP1
  have hK1 := va_K.moved hvm.symm hK1
  obtain ⟨hP, hD⟩ := va_join (wr := []) (w1 := [(q0, .inr (15, [.ref q1, .ref q2, .ref q3, .ref q4, .ref q5, .ref q6, .int 0, .int 1, .ref q7, .int 0, .ref q8, .null, .ref q9, .null, .ref q10, .ref q11, .ref q12, .ref q13, .ref q14, .int 1, .ref q15, .ref q16, .ref q17, .ref q18, .ref q19, .int 0, .int 0]))]) hP hD [0] [] rfl rfl (by decide) (by decide) hk1 hFc hP1 hD1
  have hK := (hK.sub (tys' := []) [] rfl).app hK1
  generalize H1 = H at hP hS ⊢
  have hP : va_P (dC, dI) vwCl [(q0, .inr (15, [.ref q1, .ref q2, .ref q3, .ref q4, .ref q5, .ref q6, .int 0, .int 1, .ref q7, .int 0, .ref q8, .null, .ref q9, .null, .ref q10, .ref q11, .ref q12, .ref q13, .ref q14, .int 1, .ref q15, .ref q16, .ref q17, .ref q18, .ref q19, .int 0, .int 0]))] H := hP
  have hD : va_D A [(q0, .inr (15, [.ref q1, .ref q2, .ref q3, .ref q4, .ref q5, .ref q6, .int 0, .int 1, .ref q7, .int 0, .ref q8, .null, .ref q9, .null, .ref q10, .ref q11, .ref q12, .ref q13, .ref q14, .int 1, .ref q15, .ref q16, .ref q17, .ref q18, .ref q19, .int 0, .int 0]))] := hD
  have hK : va_K (dC, dI) vwCl [] s := hK
  refine W.widen (k := 0) (n := 0) (Nat.le_of_ble_eq_true rfl) (Nat.le_of_ble_eq_true rfl) ?_
  refine lv_if_eq (tgt := 24) hx hb dX13_signAt_16 (by decide) (fun h9 => absurd h9 (show ¬ (1 : Int32) = (0 : Int32) by decide +kernel)) (fun _ => ?_)
  refine lv_bipush (v := 32) hx hb dX13_signAt_19 (by decide +kernel) ?_
  refine lv_goto (tgt := 31) hx hb dX13_signAt_21 (by decide) ?_
  have hP9 := hP.sub (ws' := [(q0, .inr (15, [.ref q1, .ref q2, .ref q3, .ref q4, .ref q5, .ref q6, .int 0, .int 1, .ref q7, .int 0, .ref q8, .null, .ref q9, .null, .ref q10, .ref q11, .ref q12, .ref q13, .ref q14, .int 1, .ref q15, .ref q16, .ref q17, .ref q18, .ref q19, .int 0, .int 0]))]) [0] rfl
  have hD9 := hD.sub (ws' := [(q0, .inr (15, [.ref q1, .ref q2, .ref q3, .ref q4, .ref q5, .ref q6, .int 0, .int 1, .ref q7, .int 0, .ref q8, .null, .ref q9, .null, .ref q10, .ref q11, .ref q12, .ref q13, .ref q14, .int 1, .ref q15, .ref q16, .ref q17, .ref q18, .ref q19, .int 0, .int 0]))]) [0] (by decide) rfl
  have hK9 := hK.sub (tys' := []) [] rfl
  exact W.zret (v := 32) hx hb hr (by decide +kernel) (fun t ht hW => ⟨⟨32, (), rfl, rfl, ⟨by rw [ht]; exact hP9, va_K.moved hW.alike hK9, hD9⟩⟩, hS.F ht⟩) hS.2.2 dX13_signAt_31
set_option maxHeartbeats 4000000 in
set_option maxRecDepth 100000 in
theorem c_X4_size_3 (l : Launch) (dC : Nat → ClassId) (dI : Nat → Nat → Nat) (q0 q1 : Nat) (sz : Nat) : Met l yX4_size wsX4_size ({ frames := 0, cells := 0, slots := 0, locals := 0 }) (va_Pc [.ref q0] (zB (dC, dI) [] [(q0, .inr (7, [.ref q1, .int 0]))] sz)) (va_Qi (fun (r : Int32) (_ : Unit) => 0 = r) (fun _ t => zE (dC, dI) [] [] (va_A [(q0, .inr (7, [.ref q1, .int 0]))] sz) t) (va_A [(q0, .inr (7, [.ref q1, .int 0]))] sz)) 0 0 (va_A [(q0, .inr (7, [.ref q1, .int 0]))] sz) := by
  refine Met.ofW (cc := cX4_size) (maxL := 1) (ret := (some .int)) (by decide) rfl ?_
  intro p e s m args below meth c s₁ B hml hv
  obtain ⟨rfl, hsz, hP, hK, hD0, hZ, hN⟩ := hv
  have hx := B.exec
  have hb := B.bytes
  have hr := B.returns
  have hts := atoms_spec (ws := wsX4_size) B.pre
  have hown : s.vm.findClass RX4 = some m.cls := findClass_of_methodNamed B.named
  have hlocks := B.notSynchronized
  subst hsz
  have hD := hD0.self (sz := s.heap.size)
  generalize hAe : va_A [(q0, .inr (7, [.ref q1, .int 0]))] s.heap.size = A at hD hZ ⊢
  have hA : ∀ q : Nat, s.heap.size ≤ q → A q := fun q h => by rw [← hAe]; exact Or.inr h
  have hS : va_S A s.heap s.heap [] := va_S.rf
  have hP : va_P (dC, dI) vwCl [(q0, .inr (7, [.ref q1, .int 0]))] s.heap := hP
  have hl := lv_entry ([.ref q0]) (n := 1) (Nat.le_of_ble_eq_true rfl)
  rw [lg_entry_eq]
  generalize (lg_sl ([.ref q0]) ++ List.replicate (1 - (lg_sl ([.ref q0])).length) Slot.unset).toArray = ls at hl ⊢
  have hl : lv_has ls 1 [(0, .ref q0)] := hl
  refine lv_aload_n hx hb dX4_size_0 rfl (lv_at hl 0 rfl) ?_
  refine va_get (D := (dC, dI)) (ci := 7) (v := .int 0) (C := RX4) (T := TX4) (N := 2) hx hb hts (fun _ h => List.mem_cons_of_mem _ (List.mem_append_right _ h)) hown hK hP 0 rfl rfl 1 (by decide) (hts (.fieldLink RX4 15 "Seekwell$Line" "size" "I") (by decide +kernel)) (fun _ h9 => h9) rfl dX4_size_1 ?_
  have hP9 := hP.sub (ws' := []) [] rfl
  have hD9 := hD.sub (ws' := []) [] (by decide) rfl
  have hK9 := hK.sub (tys' := []) [] rfl
  exact W.iret (v := 0) hx hb hr (fun t ht hW => ⟨⟨0, (), rfl, rfl, ⟨by rw [ht]; exact hP9, va_K.moved hW.alike hK9, hD9⟩⟩, hS.F ht⟩) hS.2.2 dX4_size_4
set_option maxHeartbeats 4000000 in
set_option maxRecDepth 100000 in
theorem c_X11_signAt_2 (l : Launch) (hfl : l.stackTraces = false) (dC : Nat → ClassId) (dI : Nat → Nat → Nat) (q0 q1 q2 q3 q4 q5 q6 q7 q8 q9 q10 q11 q12 q13 q14 : Nat) (sz : Nat) (p1 : Int32) (hc0 : ¬ p1 < 0) : vx_Met l yX11_signAt wsX11_signAt ({ frames := 6, cells := 1, slots := 6, locals := 90 }) (va_Pc [.ref q0, .int p1] (zB (dC, dI) [] [(q0, .inr (13, [.ref q1, .ref q2, .ref q3, .ref q4, .ref q5, .ref q6, .ref q7, .ref q8, .int 0, .ref q9, .ref q10, .ref q11, .ref q12, .ref q13])), (q1, .inr (7, [.ref q14, .int 0]))] sz)) (va_Qi (fun (_ : Int32) (_ : Unit) => False) (fun _ _ => True) (va_A [(q0, .inr (13, [.ref q1, .ref q2, .ref q3, .ref q4, .ref q5, .ref q6, .ref q7, .ref q8, .int 0, .ref q9, .ref q10, .ref q11, .ref q12, .ref q13])), (q1, .inr (7, [.ref q14, .int 0]))] sz)) (vx_X (fun (_ : Unit) => True) (fun E _ _ => "java/lang/IndexOutOfBoundsException" = E) (va_A [(q0, .inr (13, [.ref q1, .ref q2, .ref q3, .ref q4, .ref q5, .ref q6, .ref q7, .ref q8, .int 0, .ref q9, .ref q10, .ref q11, .ref q12, .ref q13])), (q1, .inr (7, [.ref q14, .int 0]))] sz)) 1 6 (va_A [(q0, .inr (13, [.ref q1, .ref q2, .ref q3, .ref q4, .ref q5, .ref q6, .ref q7, .ref q8, .int 0, .ref q9, .ref q10, .ref q11, .ref q12, .ref q13])), (q1, .inr (7, [.ref q14, .int 0]))] sz) := by
  refine vx_ofW (cc := cX11_signAt) (maxL := 2) (ret := (some .char)) (by decide) rfl ?_
  intro p e s m args below meth c s₁ B hml hnoex hv
  obtain ⟨rfl, hsz, hP, hK, hD0, hZ, hN⟩ := hv
  have hx := B.exec
  have hb := B.bytes
  have hr := B.returns
  have hts := atoms_spec (ws := wsX11_signAt) B.pre
  have hown : s.vm.findClass RX11 = some m.cls := findClass_of_methodNamed B.named
  have hlocks := B.notSynchronized
  subst hsz
  have hD := hD0.self (sz := s.heap.size)
  generalize hAe : va_A [(q0, .inr (13, [.ref q1, .ref q2, .ref q3, .ref q4, .ref q5, .ref q6, .ref q7, .ref q8, .int 0, .ref q9, .ref q10, .ref q11, .ref q12, .ref q13])), (q1, .inr (7, [.ref q14, .int 0]))] s.heap.size = A at hD hZ ⊢
  have hA : ∀ q : Nat, s.heap.size ≤ q → A q := fun q h => by rw [← hAe]; exact Or.inr h
  have hS : va_S A s.heap s.heap [] := va_S.rf
  have hP : va_P (dC, dI) vwCl [(q0, .inr (13, [.ref q1, .ref q2, .ref q3, .ref q4, .ref q5, .ref q6, .ref q7, .ref q8, .int 0, .ref q9, .ref q10, .ref q11, .ref q12, .ref q13])), (q1, .inr (7, [.ref q14, .int 0]))] s.heap := hP
  have hl := lv_entry ([.ref q0, .int p1]) (n := 2) (Nat.le_of_ble_eq_true rfl)
  rw [lg_entry_eq]
  generalize (lg_sl ([.ref q0, .int p1]) ++ List.replicate (2 - (lg_sl ([.ref q0, .int p1])).length) Slot.unset).toArray = ls at hl ⊢
  have hl : lv_has ls 2 [(0, .ref q0), (1, .int p1)] := hl
  refine lv_iload_n hx hb dX11_signAt_0 rfl (lv_at hl 1 rfl) ?_
  refine lv_if_lt (tgt := 15) hx hb dX11_signAt_1 (by decide) (fun h9 => absurd h9 hc0) (fun _ => ?_)
  refine lv_iload_n hx hb dX11_signAt_4 rfl (lv_at hl 1 rfl) ?_
  refine lv_aload_n hx hb dX11_signAt_5 rfl (lv_at hl 0 rfl) ?_
  refine va_get (D := (dC, dI)) (ci := 13) (v := .ref q1) (C := RX11) (T := TX11) (N := 14) hx hb hts (fun _ h => List.mem_cons_of_mem _ (List.mem_append_left _ (List.mem_append_left _ (List.mem_append_left _ (List.mem_append_right _ h))))) hown hK hP 0 rfl rfl 0 (by decide) (hts (.fieldLink RX11 10 "Seekwell" "text" "LSeekwell$Line;") (by decide +kernel)) (fun _ h9 => h9) rfl dX11_signAt_6 ?_
  have hPc := hP.sub (ws' := [(q1, .inr (7, [.ref q14, .int 0]))]) [1] rfl
  have hDc := hD.sub (ws' := [(q1, .inr (7, [.ref q14, .int 0]))]) [1] (by decide) rfl
  have hKc := hK.sub (tys' := []) [] rfl
  have hFc := va_free (wc := [(q1, .inr (7, [.ref q14, .int 0]))]) hD hS hA [1] rfl
  refine va_calli (va_runV (As := []) (rest := [.int p1]) ⟨hx, hb, hml, hown, hts⟩ (c_X4_size_3 l dC dI q1 q14 s.heap.size  ) (cwV 0 hts gX11_signAt_X4_size rfl rfl rfl (by decide +kernel) ⟨Nat.le_of_ble_eq_true rfl, Nat.le_of_ble_eq_true rfl⟩) ⟨zB_blind, va_recv hK hP (ci := 7) (q0 := 1) rfl rfl, (zPre hPc hDc hKc hS hFc hZ hN)⟩ rfl rfl hl.1 rfl (lv_room (Nat.le_of_ble_eq_true rfl)) dX11_signAt_9 ⟨Nat.le_of_ble_eq_true rfl, Nat.le_of_ble_eq_true rfl⟩) hS (fun q _ h => hFc q h) hFc (fun r u t H1 locs ht hvm hw hB hz1 hk1 hS => ?_)
  subst hw
  obtain ⟨hP1, hK1, hD1⟩ := hB
  rw [ht] at hP1
  have hK1 := va_K.moved hvm.symm hK1
  obtain ⟨hP, hD⟩ := va_join (wr := []) (w1 := []) hP hD [1] [] rfl rfl (by decide) (by decide) hk1 hFc hP1 hD1
  have hK := (hK.sub (tys' := []) [] rfl).app hK1
  generalize H1 = H at hP hS ⊢
  have hP : va_P (dC, dI) vwCl [] H := hP
  have hD : va_D A [] := hD
  have hK : va_K (dC, dI) vwCl [] s := hK
  refine W.widen (k := 0) (n := 0) (Nat.le_of_ble_eq_true rfl) (Nat.le_of_ble_eq_true rfl) ?_
  refine lv_icmp_lt (tgt := 25) hx hb dX11_signAt_12 (by decide) (fun h9 => absurd h9 hc0) (fun _ => ?_)
  obtain ⟨sa, hstr⟩ := hN.2.2.2.2.1 (RX11, 106, "the text has no such place") (by decide +kernel)
  refine vx_throwS (A := A) (cls := "java/lang/IndexOutOfBoundsException") (names := ["java/lang/RuntimeException", "java/lang/Exception"]) (own := RX11) (text := "the text has no such place") hx hb hfl hown (by decide +kernel) (by decide +kernel) (hts (.classLink RX11 104 "java/lang/IndexOutOfBoundsException") (by decide +kernel)) (hts (.initialized "java/lang/IndexOutOfBoundsException") (by decide +kernel)) hstr (vx_hat (B := [Cond.castable "java/lang/IndexOutOfBoundsException" "java/lang/IndexOutOfBoundsException", Cond.declares (Bundle.initS "java/lang/RuntimeException"), Cond.declares (Bundle.initS "java/lang/Exception"), Cond.declares (Bundle.initS Bundle.tN)]) (fun w h => hts w (List.mem_cons_of_mem _ (List.mem_append_left _ (List.mem_append_right _ h)))) (by decide +kernel) (zthr hN (by decide +kernel))) (by decide +kernel) hZ.1 hZ.2 hS (hl.1.trans hml.symm) dX11_signAt_15 dX11_signAt_18 dX11_signAt_19 dX11_signAt_21 dX11_signAt_24 (fun x h => (hnoex x h).elim) (Nat.lt_of_succ_le (Nat.le_of_ble_eq_true rfl)) (Nat.le_of_ble_eq_true rfl) (Nat.le_of_ble_eq_true rfl) (Nat.le_of_ble_eq_true rfl) hlocks ?_ hS.2.2 (Nat.le_refl _) (Nat.le_refl _)
  exact fun t hvm hz hk => ⟨(), trivial, rfl, zF hS hz hk⟩
set_option maxHeartbeats 4000000 in
set_option maxRecDepth 100000 in
theorem c_L_signAt_2 (l : Launch) (hfl : l.stackTraces = false) (dC : Nat → ClassId) (dI : Nat → Nat → Nat) (q0 q1 q2 q3 q4 q5 q6 q7 q8 q9 q10 q11 q12 q13 q14 q15 : Nat) (sz : Nat) (p1 : Int32) (hc0 : ¬ p1 < 0) : Met l yL_signAt wsL_signAt ({ frames := 7, cells := 1, slots := 6, locals := 111 }) (va_Pc [.ref q0, .int p1, .ref q1] (zB (dC, dI) [] [(q0, .inr (13, [.ref q2, .ref q3, .ref q4, .ref q5, .ref q6, .ref q7, .ref q8, .ref q9, .int 0, .ref q10, .ref q11, .ref q12, .ref q13, .ref q14])), (q2, .inr (7, [.ref q15, .int 0]))] sz)) (va_Qi (fun (r : Int32) (_ : Unit) => 1 = r) (fun _ t => zE (dC, dI) [] [] (va_A [(q0, .inr (13, [.ref q2, .ref q3, .ref q4, .ref q5, .ref q6, .ref q7, .ref q8, .ref q9, .int 0, .ref q10, .ref q11, .ref q12, .ref q13, .ref q14])), (q2, .inr (7, [.ref q15, .int 0]))] sz) t) (va_A [(q0, .inr (13, [.ref q2, .ref q3, .ref q4, .ref q5, .ref q6, .ref q7, .ref q8, .ref q9, .int 0, .ref q10, .ref q11, .ref q12, .ref q13, .ref q14])), (q2, .inr (7, [.ref q15, .int 0]))] sz)) 1 6 (va_A [(q0, .inr (13, [.ref q2, .ref q3, .ref q4, .ref q5, .ref q6, .ref q7, .ref q8, .ref q9, .int 0, .ref q10, .ref q11, .ref q12, .ref q13, .ref q14])), (q2, .inr (7, [.ref q15, .int 0]))] sz) := by
  refine va_MetW (cc := cL_signAt) (maxL := 4) (ret := (some .int)) (by decide) rfl ?_
  intro p e s m args below meth c s₁ B hml hv
  obtain ⟨rfl, hsz, hP, hK, hD0, hZ, hN⟩ := hv
  have hx := B.exec
  have hb := B.bytes
  have hr := B.returns
  have hts := atoms_spec (ws := wsL_signAt) B.pre
  have hown : s.vm.findClass RL = some m.cls := findClass_of_methodNamed B.named
  have hlocks := B.notSynchronized
  have htab := vx_table (x := yL_signAt) B (hts (.codeWith yL_signAt cL_signAt 4 (some .int) [(0, 9, 12, 21)]) List.mem_cons_self)
  subst hsz
  have hD := hD0.self (sz := s.heap.size)
  generalize hAe : va_A [(q0, .inr (13, [.ref q2, .ref q3, .ref q4, .ref q5, .ref q6, .ref q7, .ref q8, .ref q9, .int 0, .ref q10, .ref q11, .ref q12, .ref q13, .ref q14])), (q2, .inr (7, [.ref q15, .int 0]))] s.heap.size = A at hD hZ ⊢
  have hA : ∀ q : Nat, s.heap.size ≤ q → A q := fun q h => by rw [← hAe]; exact Or.inr h
  have hS : va_S A s.heap s.heap [] := va_S.rf
  have hP : va_P (dC, dI) vwCl [(q0, .inr (13, [.ref q2, .ref q3, .ref q4, .ref q5, .ref q6, .ref q7, .ref q8, .ref q9, .int 0, .ref q10, .ref q11, .ref q12, .ref q13, .ref q14])), (q2, .inr (7, [.ref q15, .int 0]))] s.heap := hP
  have hl := lv_entry ([.ref q0, .int p1, .ref q1]) (n := 4) (Nat.le_of_ble_eq_true rfl)
  rw [lg_entry_eq]
  generalize (lg_sl ([.ref q0, .int p1, .ref q1]) ++ List.replicate (4 - (lg_sl ([.ref q0, .int p1, .ref q1])).length) Slot.unset).toArray = ls at hl ⊢
  have hl : lv_has ls 4 [(0, .ref q0), (1, .int p1), (2, .ref q1)] := hl
  refine lv_aload_n hx hb dL_signAt_0 rfl (lv_at hl 2 rfl) ?_
  refine lv_iconst (v := 0) hx hb dL_signAt_1 (by decide +kernel) ?_
  refine lv_aload_n hx hb dL_signAt_2 rfl (lv_at hl 0 rfl) ?_
  refine lv_iload_n hx hb dL_signAt_3 rfl (lv_at hl 1 rfl) ?_
  have hPc := hP.sub (ws' := [(q0, .inr (13, [.ref q2, .ref q3, .ref q4, .ref q5, .ref q6, .ref q7, .ref q8, .ref q9, .int 0, .ref q10, .ref q11, .ref q12, .ref q13, .ref q14])), (q2, .inr (7, [.ref q15, .int 0]))]) [0, 1] rfl
  have hDc := hD.sub (ws' := [(q0, .inr (13, [.ref q2, .ref q3, .ref q4, .ref q5, .ref q6, .ref q7, .ref q8, .ref q9, .int 0, .ref q10, .ref q11, .ref q12, .ref q13, .ref q14])), (q2, .inr (7, [.ref q15, .int 0]))]) [0, 1] (by decide) rfl
  have hKc := hK.sub (tys' := []) [] rfl
  have hFc := va_free (wc := [(q0, .inr (13, [.ref q2, .ref q3, .ref q4, .ref q5, .ref q6, .ref q7, .ref q8, .ref q9, .int 0, .ref q10, .ref q11, .ref q12, .ref q13, .ref q14])), (q2, .inr (7, [.ref q15, .int 0]))]) hD hS hA [0, 1] rfl
  refine vx_calli (vx_runV (As := [.int p1]) (rest := [.int 0, .ref q1]) ⟨hx, hb, hml, hown, hts⟩ (c_X11_signAt_2 l hfl dC dI q0 q2 q3 q4 q5 q6 q7 q8 q9 q10 q11 q12 q13 q14 q15 s.heap.size p1 hc0) (cwV 1 hts gL_signAt_X11_signAt rfl rfl rfl (by decide +kernel) ⟨Nat.le_of_ble_eq_true rfl, Nat.le_of_ble_eq_true rfl⟩) ⟨zB_blind, va_recv hK hP (ci := 13) (q0 := 0) rfl rfl, (zPre hPc hDc hKc hS hFc hZ hN)⟩ rfl rfl hl.1 rfl (lv_room (Nat.le_of_ble_eq_true rfl)) dL_signAt_4 ⟨Nat.le_of_ble_eq_true rfl, Nat.le_of_ble_eq_true rfl⟩) hS (fun q _ h => hFc q h) hFc (fun q _ h => hFc q h) (fun E ce qx u t H1 locs1 ht hvm hpx hBX hz1 hk1 hS hq9 hv9 hcl9 => ?_) (fun r u t H1 locs1 _ _ hw => hw.elim)
  subst hBX
  refine vx_catch (name := "java/lang/IndexOutOfBoundsException") hown [] ⟨0, 9, 12, 21⟩ [] (by rw [htab]; rfl) (fun z h => absurd h List.not_mem_nil) rfl (by decide) (hts (.classLink RL 21 "java/lang/IndexOutOfBoundsException") (by decide +kernel)) (va_Nw.use rfl (hN.2.1 "java/lang/IndexOutOfBoundsException" (by decide +kernel))) hq9 hv9 hcl9 ?_
  generalize H1 = H at hS ⊢
  refine W.widen (k := 1) (n := 6) (Nat.le_of_ble_eq_true rfl) (Nat.le_of_ble_eq_true rfl) ?_
  have hP : va_P (dC, dI) vwCl [] H := zP_nil
  have hD : va_D A [] := zD_nil
  have hK := hK.sub (tys' := []) [] rfl
  refine lv_astore_n (lv' := [(3, .ref qx), (0, .ref q0), (1, .int p1), (2, .ref q1)]) hx hb dL_signAt_12 rfl hl (by decide) rfl (fun ls hl => ?_)
  refine lv_iconst (v := 1) hx hb dL_signAt_13 (by decide +kernel) ?_
  have hP9 := hP.sub (ws' := []) [] rfl
  have hD9 := hD.sub (ws' := []) [] (by decide) rfl
  have hK9 := hK.sub (tys' := []) [] rfl
  exact W.iret (v := 1) hx hb hr (fun t ht hW => ⟨⟨1, (), rfl, rfl, ⟨by rw [ht]; exact hP9, va_K.moved hW.alike hK9, hD9⟩⟩, hS.F ht⟩) hS.2.2 dL_signAt_14
set_option maxHeartbeats 4000000 in
set_option maxRecDepth 100000 in
theorem c_X13_in_5 (l : Launch) (dC : Nat → ClassId) (dI : Nat → Nat → Nat) (sz : Nat) (p0 : Int32) (hc0 : ¬ p0 < 0) (hc1 : ((-1) : Int32) < p0) : Met l yX13_in wsX13_in ({ frames := 0, cells := 0, slots := 0, locals := 0 }) (va_Pc [.int p0, .int 0, .int (-1)] (zB (dC, dI) [] [] sz)) (va_Qi (fun (r : Int32) (_ : Unit) => 0 = r) (fun _ t => zE (dC, dI) [] [] (va_A [] sz) t) (va_A [] sz)) 0 0 (va_A [] sz) := by
  refine Met.ofW (cc := cX13_in) (maxL := 3) (ret := (some .boolean)) (by decide) rfl ?_
  intro p e s m args below meth c s₁ B hml hv
  obtain ⟨rfl, hsz, hP, hK, hD0, hZ, hN⟩ := hv
  have hx := B.exec
  have hb := B.bytes
  have hr := B.returns
  have hts := atoms_spec (ws := wsX13_in) B.pre
  have hown : s.vm.findClass RX13 = some m.cls := findClass_of_methodNamed B.named
  have hlocks := B.notSynchronized
  subst hsz
  have hD := hD0.self (sz := s.heap.size)
  generalize hAe : va_A [] s.heap.size = A at hD hZ ⊢
  have hA : ∀ q : Nat, s.heap.size ≤ q → A q := fun q h => by rw [← hAe]; exact Or.inr h
  have hS : va_S A s.heap s.heap [] := va_S.rf
  have hP : va_P (dC, dI) vwCl [] s.heap := hP
  have hl := lv_entry ([.int p0, .int 0, .int (-1)]) (n := 3) (Nat.le_of_ble_eq_true rfl)
  rw [lg_entry_eq]
  generalize (lg_sl ([.int p0, .int 0, .int (-1)]) ++ List.replicate (3 - (lg_sl ([.int p0, .int 0, .int (-1)])).length) Slot.unset).toArray = ls at hl ⊢
  have hl : lv_has ls 3 [(0, .int p0), (1, .int 0), (2, .int (-1))] := hl
  refine lv_iload_n hx hb dX13_in_0 rfl (lv_at hl 0 rfl) ?_
  refine lv_iload_n hx hb dX13_in_1 rfl (lv_at hl 1 rfl) ?_
  refine lv_icmp_lt (tgt := 14) hx hb dX13_in_2 (by decide) (fun h9 => absurd h9 hc0) (fun _ => ?_)
  refine lv_iload_n hx hb dX13_in_5 rfl (lv_at hl 0 rfl) ?_
  refine lv_iload_n hx hb dX13_in_6 rfl (lv_at hl 2 rfl) ?_
  refine lv_icmp_gt (tgt := 14) hx hb dX13_in_7 (by decide) (fun _ => ?_) (fun h9 => absurd hc1 h9)
  refine lv_iconst (v := 0) hx hb dX13_in_14 (by decide +kernel) ?_
  have hP9 := hP.sub (ws' := []) [] rfl
  have hD9 := hD.sub (ws' := []) [] (by decide) rfl
  have hK9 := hK.sub (tys' := []) [] rfl
  exact W.zret (v := 0) hx hb hr (by decide +kernel) (fun t ht hW => ⟨⟨0, (), rfl, rfl, ⟨by rw [ht]; exact hP9, va_K.moved hW.alike hK9, hD9⟩⟩, hS.F ht⟩) hS.2.2 dX13_in_15
set_option maxHeartbeats 4000000 in
set_option maxRecDepth 100000 in
theorem c_X13_signAt_2 (l : Launch) (dC : Nat → ClassId) (dI : Nat → Nat → Nat) (q0 q1 q2 q3 q4 q5 q6 q7 q8 q9 q10 q11 q12 q13 q14 q15 q16 q17 q18 q19 : Nat) (sz : Nat) (p1 : Int32) (hc0 : ¬ p1 < 0) (hc1 : ((-1) : Int32) < p1) : Met l yX13_signAt wsX13_signAt ({ frames := 1, cells := 0, slots := 0, locals := 22 }) (va_Pc [.ref q0, .int p1] (zB (dC, dI) [] [(q0, .inr (15, [.ref q1, .ref q2, .ref q3, .ref q4, .ref q5, .ref q6, .int 0, .int 1, .ref q7, .int 0, .ref q8, .null, .ref q9, .null, .ref q10, .ref q11, .ref q12, .ref q13, .ref q14, .int 0, .ref q15, .ref q16, .ref q17, .ref q18, .ref q19, .int 0, .int 0]))] sz)) (va_Qi (fun (r : Int32) (_ : Unit) => 32 = r) (fun _ t => zE (dC, dI) [] [(q0, .inr (15, [.ref q1, .ref q2, .ref q3, .ref q4, .ref q5, .ref q6, .int 0, .int 1, .ref q7, .int 0, .ref q8, .null, .ref q9, .null, .ref q10, .ref q11, .ref q12, .ref q13, .ref q14, .int 1, .ref q15, .ref q16, .ref q17, .ref q18, .ref q19, .int 0, .int 0]))] (va_A [(q0, .inr (15, [.ref q1, .ref q2, .ref q3, .ref q4, .ref q5, .ref q6, .int 0, .int 1, .ref q7, .int 0, .ref q8, .null, .ref q9, .null, .ref q10, .ref q11, .ref q12, .ref q13, .ref q14, .int 0, .ref q15, .ref q16, .ref q17, .ref q18, .ref q19, .int 0, .int 0]))] sz) t) (va_A [(q0, .inr (15, [.ref q1, .ref q2, .ref q3, .ref q4, .ref q5, .ref q6, .int 0, .int 1, .ref q7, .int 0, .ref q8, .null, .ref q9, .null, .ref q10, .ref q11, .ref q12, .ref q13, .ref q14, .int 0, .ref q15, .ref q16, .ref q17, .ref q18, .ref q19, .int 0, .int 0]))] sz)) 0 0 (va_A [(q0, .inr (15, [.ref q1, .ref q2, .ref q3, .ref q4, .ref q5, .ref q6, .int 0, .int 1, .ref q7, .int 0, .ref q8, .null, .ref q9, .null, .ref q10, .ref q11, .ref q12, .ref q13, .ref q14, .int 0, .ref q15, .ref q16, .ref q17, .ref q18, .ref q19, .int 0, .int 0]))] sz) := by
  refine Met.ofW (cc := cX13_signAt) (maxL := 2) (ret := (some .char)) (by decide) rfl ?_
  intro p e s m args below meth c s₁ B hml hv
  obtain ⟨rfl, hsz, hP, hK, hD0, hZ, hN⟩ := hv
  have hx := B.exec
  have hb := B.bytes
  have hr := B.returns
  have hts := atoms_spec (ws := wsX13_signAt) B.pre
  have hown : s.vm.findClass RX13 = some m.cls := findClass_of_methodNamed B.named
  have hlocks := B.notSynchronized
  subst hsz
  have hD := hD0.self (sz := s.heap.size)
  generalize hAe : va_A [(q0, .inr (15, [.ref q1, .ref q2, .ref q3, .ref q4, .ref q5, .ref q6, .int 0, .int 1, .ref q7, .int 0, .ref q8, .null, .ref q9, .null, .ref q10, .ref q11, .ref q12, .ref q13, .ref q14, .int 0, .ref q15, .ref q16, .ref q17, .ref q18, .ref q19, .int 0, .int 0]))] s.heap.size = A at hD hZ ⊢
  have hA : ∀ q : Nat, s.heap.size ≤ q → A q := fun q h => by rw [← hAe]; exact Or.inr h
  have hS : va_S A s.heap s.heap [] := va_S.rf
  have hP : va_P (dC, dI) vwCl [(q0, .inr (15, [.ref q1, .ref q2, .ref q3, .ref q4, .ref q5, .ref q6, .int 0, .int 1, .ref q7, .int 0, .ref q8, .null, .ref q9, .null, .ref q10, .ref q11, .ref q12, .ref q13, .ref q14, .int 0, .ref q15, .ref q16, .ref q17, .ref q18, .ref q19, .int 0, .int 0]))] s.heap := hP
  have hl := lv_entry ([.ref q0, .int p1]) (n := 2) (Nat.le_of_ble_eq_true rfl)
  rw [lg_entry_eq]
  generalize (lg_sl ([.ref q0, .int p1]) ++ List.replicate (2 - (lg_sl ([.ref q0, .int p1])).length) Slot.unset).toArray = ls at hl ⊢
  have hl : lv_has ls 2 [(0, .ref q0), (1, .int p1)] := hl
  refine lv_aload_n hx hb dX13_signAt_0 rfl (lv_at hl 0 rfl) ?_
  refine lv_iload_n hx hb dX13_signAt_1 rfl (lv_at hl 1 rfl) ?_
  refine lv_iconst (v := 0) hx hb dX13_signAt_2 (by decide +kernel) ?_
  refine lv_aload_n hx hb dX13_signAt_3 rfl (lv_at hl 0 rfl) ?_
  refine va_get (D := (dC, dI)) (ci := 15) (v := .int 0) (C := RX13) (T := TX13) (N := 27) hx hb hts (fun _ h => List.mem_cons_of_mem _ (List.mem_append_left _ (List.mem_append_right _ h))) hown hK hP 0 rfl rfl 9 (by decide) (hts (.fieldLink RX13 132 "SeekwellModel" "typed" "I") (by decide +kernel)) (fun _ h9 => h9) rfl dX13_signAt_4 ?_
  refine lv_iconst (v := 1) hx hb dX13_signAt_7 (by decide +kernel) ?_
  refine lv_isub hx hb dX13_signAt_8 ?_
  refine zt_i (v := (-1)) (by decide +kernel) ?_
  have hPc := hP.sub (ws' := []) [] rfl
  have hDc := hD.sub (ws' := []) [] (by decide) rfl
  have hKc := hK.sub (tys' := []) [] rfl
  have hFc := va_free (wc := []) hD hS hA [] rfl
  refine va_calli (va_runS (As := [.int p1, .int 0, .int (-1)]) (rest := [.ref q0]) ⟨hx, hb, hml, hown, hts⟩ (c_X13_in_5 l dC dI  s.heap.size p1 hc0 hc1) (va_cwS 3 hts gX13_signAt_X13_in rfl rfl rfl (by decide +kernel) ⟨Nat.le_of_ble_eq_true rfl, Nat.le_of_ble_eq_true rfl⟩) ⟨zB_blind, (zPre hPc hDc hKc hS hFc hZ hN)⟩ rfl rfl hl.1 rfl (lv_room (Nat.le_of_ble_eq_true rfl)) dX13_signAt_9 ⟨Nat.le_of_ble_eq_true rfl, Nat.le_of_ble_eq_true rfl⟩) hS (fun q _ h => hFc q h) hFc (fun r u t H1 locs ht hvm hw hB hz1 hk1 hS => ?_)
  subst hw
  obtain ⟨hP1, hK1, hD1⟩ := hB
  rw [ht] at hP1
  have hK1 := va_K.moved hvm.symm hK1
  obtain ⟨hP, hD⟩ := va_join (wr := [(q0, .inr (15, [.ref q1, .ref q2, .ref q3, .ref q4, .ref q5, .ref q6, .int 0, .int 1, .ref q7, .int 0, .ref q8, .null, .ref q9, .null, .ref q10, .ref q11, .ref q12, .ref q13, .ref q14, .int 0, .ref q15, .ref q16, .ref q17, .ref q18, .ref q19, .int 0, .int 0]))]) (w1 := []) hP hD [] [0] rfl rfl (by decide) (by decide) hk1 hFc hP1 hD1
  have hK := (hK.sub (tys' := []) [] rfl).app hK1
  generalize H1 = H at hP hS ⊢
  have hP : va_P (dC, dI) vwCl [(q0, .inr (15, [.ref q1, .ref q2, .ref q3, .ref q4, .ref q5, .ref q6, .int 0, .int 1, .ref q7, .int 0, .ref q8, .null, .ref q9, .null, .ref q10, .ref q11, .ref q12, .ref q13, .ref q14, .int 0, .ref q15, .ref q16, .ref q17, .ref q18, .ref q19, .int 0, .int 0]))] H := hP
  have hD : va_D A [(q0, .inr (15, [.ref q1, .ref q2, .ref q3, .ref q4, .ref q5, .ref q6, .int 0, .int 1, .ref q7, .int 0, .ref q8, .null, .ref q9, .null, .ref q10, .ref q11, .ref q12, .ref q13, .ref q14, .int 0, .ref q15, .ref q16, .ref q17, .ref q18, .ref q19, .int 0, .int 0]))] := hD
  have hK : va_K (dC, dI) vwCl [] s := hK
  refine W.widen (k := 0) (n := 0) (Nat.le_of_ble_eq_true rfl) (Nat.le_of_ble_eq_true rfl) ?_
  refine lv_iconst (v := 1) hx hb dX13_signAt_12 (by decide +kernel) ?_
  have hPc := hP.sub (ws' := [(q0, .inr (15, [.ref q1, .ref q2, .ref q3, .ref q4, .ref q5, .ref q6, .int 0, .int 1, .ref q7, .int 0, .ref q8, .null, .ref q9, .null, .ref q10, .ref q11, .ref q12, .ref q13, .ref q14, .int 0, .ref q15, .ref q16, .ref q17, .ref q18, .ref q19, .int 0, .int 0]))]) [0] rfl
  have hDc := hD.sub (ws' := [(q0, .inr (15, [.ref q1, .ref q2, .ref q3, .ref q4, .ref q5, .ref q6, .int 0, .int 1, .ref q7, .int 0, .ref q8, .null, .ref q9, .null, .ref q10, .ref q11, .ref q12, .ref q13, .ref q14, .int 0, .ref q15, .ref q16, .ref q17, .ref q18, .ref q19, .int 0, .int 0]))]) [0] (by decide) rfl
  have hKc := hK.sub (tys' := []) [] rfl
  have hFc := va_free (wc := [(q0, .inr (15, [.ref q1, .ref q2, .ref q3, .ref q4, .ref q5, .ref q6, .int 0, .int 1, .ref q7, .int 0, .ref q8, .null, .ref q9, .null, .ref q10, .ref q11, .ref q12, .ref q13, .ref q14, .int 0, .ref q15, .ref q16, .ref q17, .ref q18, .ref q19, .int 0, .int 0]))]) hD hS hA [0] rfl
  refine va_calli (va_runV (As := [.int 0, .int 1]) (rest := []) ⟨hx, hb, hml, hown, hts⟩ (c_X13_no l dC dI q0 q1 q2 q3 q4 q5 q6 q7 q8 q9 q10 q11 q12 q13 q14 q15 q16 q17 q18 q19 H.size  ) (cwV 2 hts gX13_signAt_X13_no rfl rfl rfl (by decide +kernel) ⟨Nat.le_of_ble_eq_true rfl, Nat.le_of_ble_eq_true rfl⟩) ⟨zB_blind, va_recv hK hP (ci := 15) (q0 := 0) rfl rfl, (zPre hPc hDc hKc hS hFc hZ hN)⟩ rfl rfl hl.1 rfl (lv_room (Nat.le_of_ble_eq_true rfl)) dX13_signAt_13 ⟨Nat.le_of_ble_eq_true rfl, Nat.le_of_ble_eq_true rfl⟩) hS (fun q _ h => hFc q h) hFc (fun r u t H1 locs ht hvm hw hB hz1 hk1 hS => ?_)
  subst hw
  obtain ⟨hP1, hK1, hD1⟩ := hB
  rw [ht] at hP1
  have hK1 := va_K.moved hvm.symm hK1
  obtain ⟨hP, hD⟩ := va_join (wr := []) (w1 := [(q0, .inr (15, [.ref q1, .ref q2, .ref q3, .ref q4, .ref q5, .ref q6, .int 0, .int 1, .ref q7, .int 0, .ref q8, .null, .ref q9, .null, .ref q10, .ref q11, .ref q12, .ref q13, .ref q14, .int 1, .ref q15, .ref q16, .ref q17, .ref q18, .ref q19, .int 0, .int 0]))]) hP hD [0] [] rfl rfl (by decide) (by decide) hk1 hFc hP1 hD1
  have hK := (hK.sub (tys' := []) [] rfl).app hK1
  generalize H1 = H at hP hS ⊢
  have hP : va_P (dC, dI) vwCl [(q0, .inr (15, [.ref q1, .ref q2, .ref q3, .ref q4, .ref q5, .ref q6, .int 0, .int 1, .ref q7, .int 0, .ref q8, .null, .ref q9, .null, .ref q10, .ref q11, .ref q12, .ref q13, .ref q14, .int 1, .ref q15, .ref q16, .ref q17, .ref q18, .ref q19, .int 0, .int 0]))] H := hP
  have hD : va_D A [(q0, .inr (15, [.ref q1, .ref q2, .ref q3, .ref q4, .ref q5, .ref q6, .int 0, .int 1, .ref q7, .int 0, .ref q8, .null, .ref q9, .null, .ref q10, .ref q11, .ref q12, .ref q13, .ref q14, .int 1, .ref q15, .ref q16, .ref q17, .ref q18, .ref q19, .int 0, .int 0]))] := hD
  have hK : va_K (dC, dI) vwCl [] s := hK
  refine W.widen (k := 0) (n := 0) (Nat.le_of_ble_eq_true rfl) (Nat.le_of_ble_eq_true rfl) ?_
  refine lv_if_eq (tgt := 24) hx hb dX13_signAt_16 (by decide) (fun h9 => absurd h9 (show ¬ (1 : Int32) = (0 : Int32) by decide +kernel)) (fun _ => ?_)
  refine lv_bipush (v := 32) hx hb dX13_signAt_19 (by decide +kernel) ?_
  refine lv_goto (tgt := 31) hx hb dX13_signAt_21 (by decide) ?_
  have hP9 := hP.sub (ws' := [(q0, .inr (15, [.ref q1, .ref q2, .ref q3, .ref q4, .ref q5, .ref q6, .int 0, .int 1, .ref q7, .int 0, .ref q8, .null, .ref q9, .null, .ref q10, .ref q11, .ref q12, .ref q13, .ref q14, .int 1, .ref q15, .ref q16, .ref q17, .ref q18, .ref q19, .int 0, .int 0]))]) [0] rfl
  have hD9 := hD.sub (ws' := [(q0, .inr (15, [.ref q1, .ref q2, .ref q3, .ref q4, .ref q5, .ref q6, .int 0, .int 1, .ref q7, .int 0, .ref q8, .null, .ref q9, .null, .ref q10, .ref q11, .ref q12, .ref q13, .ref q14, .int 1, .ref q15, .ref q16, .ref q17, .ref q18, .ref q19, .int 0, .int 0]))]) [0] (by decide) rfl
  have hK9 := hK.sub (tys' := []) [] rfl
  exact W.zret (v := 32) hx hb hr (by decide +kernel) (fun t ht hW => ⟨⟨32, (), rfl, rfl, ⟨by rw [ht]; exact hP9, va_K.moved hW.alike hK9, hD9⟩⟩, hS.F ht⟩) hS.2.2 dX13_signAt_31
set_option maxHeartbeats 4000000 in
set_option maxRecDepth 100000 in
theorem c_X11_add (l : Launch) (hfl : l.stackTraces = false) (dC : Nat → ClassId) (dI : Nat → Nat → Nat) (q0 : Nat) (sz : Nat) (p1 : Int32) (p2 : Int32) (hc0 : p1 < 0) : vx_Met l yX11_add wsX11_add ({ frames := 6, cells := 1, slots := 6, locals := 90 }) (va_Pc [.ref q0, .int p1, .int p2] (zB (dC, dI) [] [] sz)) (va_Qi (fun (_ : Int32) (_ : Unit) => False) (fun _ _ => True) (va_A [] sz)) (vx_X (fun (_ : Unit) => True) (fun E _ _ => "java/lang/IllegalArgumentException" = E) (va_A [] sz)) 1 6 (va_A [] sz) := by
  refine vx_ofW (cc := cX11_add) (maxL := 4) (ret := (some .int)) (by decide) rfl ?_
  intro p e s m args below meth c s₁ B hml hnoex hv
  obtain ⟨rfl, hsz, hP, hK, hD0, hZ, hN⟩ := hv
  have hx := B.exec
  have hb := B.bytes
  have hr := B.returns
  have hts := atoms_spec (ws := wsX11_add) B.pre
  have hown : s.vm.findClass RX11 = some m.cls := findClass_of_methodNamed B.named
  have hlocks := B.notSynchronized
  subst hsz
  have hD := hD0.self (sz := s.heap.size)
  generalize hAe : va_A [] s.heap.size = A at hD hZ ⊢
  have hA : ∀ q : Nat, s.heap.size ≤ q → A q := fun q h => by rw [← hAe]; exact Or.inr h
  have hS : va_S A s.heap s.heap [] := va_S.rf
  have hP : va_P (dC, dI) vwCl [] s.heap := hP
  have hl := lv_entry ([.ref q0, .int p1, .int p2]) (n := 4) (Nat.le_of_ble_eq_true rfl)
  rw [lg_entry_eq]
  generalize (lg_sl ([.ref q0, .int p1, .int p2]) ++ List.replicate (4 - (lg_sl ([.ref q0, .int p1, .int p2])).length) Slot.unset).toArray = ls at hl ⊢
  have hl : lv_has ls 4 [(0, .ref q0), (1, .int p1), (2, .int p2)] := hl
  refine lv_iload_n hx hb dX11_add_0 rfl (lv_at hl 1 rfl) ?_
  refine lv_if_lt (tgt := 18) hx hb dX11_add_1 (by decide) (fun _ => ?_) (fun h9 => absurd hc0 h9)
  obtain ⟨sa, hstr⟩ := hN.2.2.2.2.1 (RX11, 117, "no such value or tag") (by decide +kernel)
  refine vx_throwS (A := A) (cls := "java/lang/IllegalArgumentException") (names := ["java/lang/RuntimeException", "java/lang/Exception"]) (own := RX11) (text := "no such value or tag") hx hb hfl hown (by decide +kernel) (by decide +kernel) (hts (.classLink RX11 81 "java/lang/IllegalArgumentException") (by decide +kernel)) (hts (.initialized "java/lang/IllegalArgumentException") (by decide +kernel)) hstr (vx_hat (B := [Cond.castable "java/lang/IllegalArgumentException" "java/lang/IllegalArgumentException", Cond.declares (Bundle.initS "java/lang/RuntimeException"), Cond.declares (Bundle.initS "java/lang/Exception"), Cond.declares (Bundle.initS Bundle.tN)]) (fun w h => hts w (List.mem_cons_of_mem _ (List.mem_append_left _ (List.mem_append_left _ (List.mem_append_left _ (List.mem_append_right _ h)))))) (by decide +kernel) (zthr hN (by decide +kernel))) (by decide +kernel) hZ.1 hZ.2 hS (hl.1.trans hml.symm) dX11_add_18 dX11_add_21 dX11_add_22 dX11_add_24 dX11_add_27 (fun x h => (hnoex x h).elim) (Nat.lt_of_succ_le (Nat.le_of_ble_eq_true rfl)) (Nat.le_of_ble_eq_true rfl) (Nat.le_of_ble_eq_true rfl) (Nat.le_of_ble_eq_true rfl) hlocks ?_ hS.2.2 (Nat.le_refl _) (Nat.le_refl _)
  exact fun t hvm hz hk => ⟨(), trivial, rfl, zF hS hz hk⟩
set_option maxHeartbeats 4000000 in
set_option maxRecDepth 100000 in
theorem c_L_add (l : Launch) (hfl : l.stackTraces = false) (dC : Nat → ClassId) (dI : Nat → Nat → Nat) (q0 q1 q2 q3 q4 q5 q6 q7 q8 q9 q10 q11 q12 q13 q14 : Nat) (sz : Nat) (p1 : Int32) (p2 : Int32) (hc0 : p1 < 0) : Met l yL_add wsL_add ({ frames := 7, cells := 1, slots := 6, locals := 113 }) (va_Pc [.ref q0, .int p1, .int p2, .ref q1] (zB (dC, dI) [] [(q0, .inr (13, [.ref q2, .ref q3, .ref q4, .ref q5, .ref q6, .ref q7, .ref q8, .ref q9, .int 0, .ref q10, .ref q11, .ref q12, .ref q13, .ref q14]))] sz)) (va_Qi (fun (r : Int32) (_ : Unit) => 1 = r) (fun _ t => zE (dC, dI) [] [] (va_A [(q0, .inr (13, [.ref q2, .ref q3, .ref q4, .ref q5, .ref q6, .ref q7, .ref q8, .ref q9, .int 0, .ref q10, .ref q11, .ref q12, .ref q13, .ref q14]))] sz) t) (va_A [(q0, .inr (13, [.ref q2, .ref q3, .ref q4, .ref q5, .ref q6, .ref q7, .ref q8, .ref q9, .int 0, .ref q10, .ref q11, .ref q12, .ref q13, .ref q14]))] sz)) 1 6 (va_A [(q0, .inr (13, [.ref q2, .ref q3, .ref q4, .ref q5, .ref q6, .ref q7, .ref q8, .ref q9, .int 0, .ref q10, .ref q11, .ref q12, .ref q13, .ref q14]))] sz) := by
  refine va_MetW (cc := cL_add) (maxL := 5) (ret := (some .int)) (by decide) rfl ?_
  intro p e s m args below meth c s₁ B hml hv
  obtain ⟨rfl, hsz, hP, hK, hD0, hZ, hN⟩ := hv
  have hx := B.exec
  have hb := B.bytes
  have hr := B.returns
  have hts := atoms_spec (ws := wsL_add) B.pre
  have hown : s.vm.findClass RL = some m.cls := findClass_of_methodNamed B.named
  have hlocks := B.notSynchronized
  have htab := vx_table (x := yL_add) B (hts (.codeWith yL_add cL_add 5 (some .int) [(0, 10, 13, 13), (0, 10, 17, 15)]) List.mem_cons_self)
  subst hsz
  have hD := hD0.self (sz := s.heap.size)
  generalize hAe : va_A [(q0, .inr (13, [.ref q2, .ref q3, .ref q4, .ref q5, .ref q6, .ref q7, .ref q8, .ref q9, .int 0, .ref q10, .ref q11, .ref q12, .ref q13, .ref q14]))] s.heap.size = A at hD hZ ⊢
  have hA : ∀ q : Nat, s.heap.size ≤ q → A q := fun q h => by rw [← hAe]; exact Or.inr h
  have hS : va_S A s.heap s.heap [] := va_S.rf
  have hP : va_P (dC, dI) vwCl [(q0, .inr (13, [.ref q2, .ref q3, .ref q4, .ref q5, .ref q6, .ref q7, .ref q8, .ref q9, .int 0, .ref q10, .ref q11, .ref q12, .ref q13, .ref q14]))] s.heap := hP
  have hl := lv_entry ([.ref q0, .int p1, .int p2, .ref q1]) (n := 5) (Nat.le_of_ble_eq_true rfl)
  rw [lg_entry_eq]
  generalize (lg_sl ([.ref q0, .int p1, .int p2, .ref q1]) ++ List.replicate (5 - (lg_sl ([.ref q0, .int p1, .int p2, .ref q1])).length) Slot.unset).toArray = ls at hl ⊢
  have hl : lv_has ls 5 [(0, .ref q0), (1, .int p1), (2, .int p2), (3, .ref q1)] := hl
  refine lv_aload_n hx hb dL_add_0 rfl (lv_at hl 3 rfl) ?_
  refine lv_iconst (v := 0) hx hb dL_add_1 (by decide +kernel) ?_
  refine lv_aload_n hx hb dL_add_2 rfl (lv_at hl 0 rfl) ?_
  refine lv_iload_n hx hb dL_add_3 rfl (lv_at hl 1 rfl) ?_
  refine lv_iload_n hx hb dL_add_4 rfl (lv_at hl 2 rfl) ?_
  have hPc := hP.sub (ws' := []) [] rfl
  have hDc := hD.sub (ws' := []) [] (by decide) rfl
  have hKc := hK.sub (tys' := []) [] rfl
  have hFc := va_free (wc := []) hD hS hA [] rfl
  refine vx_calli (vx_runV (As := [.int p1, .int p2]) (rest := [.int 0, .ref q1]) ⟨hx, hb, hml, hown, hts⟩ (c_X11_add l hfl dC dI q0 s.heap.size p1 p2 hc0) (cwV 2 hts gL_add_X11_add rfl rfl rfl (by decide +kernel) ⟨Nat.le_of_ble_eq_true rfl, Nat.le_of_ble_eq_true rfl⟩) ⟨zB_blind, va_recv hK hP (ci := 13) (q0 := 0) rfl rfl, (zPre hPc hDc hKc hS hFc hZ hN)⟩ rfl rfl hl.1 rfl (lv_room (Nat.le_of_ble_eq_true rfl)) dL_add_5 ⟨Nat.le_of_ble_eq_true rfl, Nat.le_of_ble_eq_true rfl⟩) hS (fun q _ h => hFc q h) hFc (fun q _ h => hFc q h) (fun E ce qx u t H1 locs1 ht hvm hpx hBX hz1 hk1 hS hq9 hv9 hcl9 => ?_) (fun r u t H1 locs1 _ _ hw => hw.elim)
  subst hBX
  refine vx_catch (name := "java/lang/IllegalArgumentException") hown [] ⟨0, 10, 13, 13⟩ [⟨0, 10, 17, 15⟩] (by rw [htab]; rfl) (fun z h => absurd h List.not_mem_nil) rfl (by decide) (hts (.classLink RL 13 "java/lang/IllegalArgumentException") (by decide +kernel)) (va_Nw.use rfl (hN.2.1 "java/lang/IllegalArgumentException" (by decide +kernel))) hq9 hv9 hcl9 ?_
  generalize H1 = H at hS ⊢
  refine W.widen (k := 1) (n := 6) (Nat.le_of_ble_eq_true rfl) (Nat.le_of_ble_eq_true rfl) ?_
  have hP : va_P (dC, dI) vwCl [] H := zP_nil
  have hD : va_D A [] := zD_nil
  have hK := hK.sub (tys' := []) [] rfl
  refine lv_astore (lv' := [(4, .ref qx), (0, .ref q0), (1, .int p1), (2, .int p2), (3, .ref q1)]) hx hb dL_add_13 hl (by decide) rfl (fun ls hl => ?_)
  refine lv_iconst (v := 1) hx hb dL_add_15 (by decide +kernel) ?_
  have hP9 := hP.sub (ws' := []) [] rfl
  have hD9 := hD.sub (ws' := []) [] (by decide) rfl
  have hK9 := hK.sub (tys' := []) [] rfl
  exact W.iret (v := 1) hx hb hr (fun t ht hW => ⟨⟨1, (), rfl, rfl, ⟨by rw [ht]; exact hP9, va_K.moved hW.alike hK9, hD9⟩⟩, hS.F ht⟩) hS.2.2 dL_add_16
set_option maxHeartbeats 4000000 in
set_option maxRecDepth 100000 in
theorem c_X13_in_6 (l : Launch) (dC : Nat → ClassId) (dI : Nat → Nat → Nat) (sz : Nat) (p0 : Int32) (hc0 : p0 < 0) : Met l yX13_in wsX13_in ({ frames := 0, cells := 0, slots := 0, locals := 0 }) (va_Pc [.int p0, .int 0, .int 999] (zB (dC, dI) [] [] sz)) (va_Qi (fun (r : Int32) (_ : Unit) => 0 = r) (fun _ t => zE (dC, dI) [] [] (va_A [] sz) t) (va_A [] sz)) 0 0 (va_A [] sz) := by
  refine Met.ofW (cc := cX13_in) (maxL := 3) (ret := (some .boolean)) (by decide) rfl ?_
  intro p e s m args below meth c s₁ B hml hv
  obtain ⟨rfl, hsz, hP, hK, hD0, hZ, hN⟩ := hv
  have hx := B.exec
  have hb := B.bytes
  have hr := B.returns
  have hts := atoms_spec (ws := wsX13_in) B.pre
  have hown : s.vm.findClass RX13 = some m.cls := findClass_of_methodNamed B.named
  have hlocks := B.notSynchronized
  subst hsz
  have hD := hD0.self (sz := s.heap.size)
  generalize hAe : va_A [] s.heap.size = A at hD hZ ⊢
  have hA : ∀ q : Nat, s.heap.size ≤ q → A q := fun q h => by rw [← hAe]; exact Or.inr h
  have hS : va_S A s.heap s.heap [] := va_S.rf
  have hP : va_P (dC, dI) vwCl [] s.heap := hP
  have hl := lv_entry ([.int p0, .int 0, .int 999]) (n := 3) (Nat.le_of_ble_eq_true rfl)
  rw [lg_entry_eq]
  generalize (lg_sl ([.int p0, .int 0, .int 999]) ++ List.replicate (3 - (lg_sl ([.int p0, .int 0, .int 999])).length) Slot.unset).toArray = ls at hl ⊢
  have hl : lv_has ls 3 [(0, .int p0), (1, .int 0), (2, .int 999)] := hl
  refine lv_iload_n hx hb dX13_in_0 rfl (lv_at hl 0 rfl) ?_
  refine lv_iload_n hx hb dX13_in_1 rfl (lv_at hl 1 rfl) ?_
  refine lv_icmp_lt (tgt := 14) hx hb dX13_in_2 (by decide) (fun _ => ?_) (fun h9 => absurd hc0 h9)
  refine lv_iconst (v := 0) hx hb dX13_in_14 (by decide +kernel) ?_
  have hP9 := hP.sub (ws' := []) [] rfl
  have hD9 := hD.sub (ws' := []) [] (by decide) rfl
  have hK9 := hK.sub (tys' := []) [] rfl
  exact W.zret (v := 0) hx hb hr (by decide +kernel) (fun t ht hW => ⟨⟨0, (), rfl, rfl, ⟨by rw [ht]; exact hP9, va_K.moved hW.alike hK9, hD9⟩⟩, hS.F ht⟩) hS.2.2 dX13_in_15
set_option maxHeartbeats 4000000 in
set_option maxRecDepth 100000 in
theorem c_X13_add (l : Launch) (dC : Nat → ClassId) (dI : Nat → Nat → Nat) (q0 q1 q2 q3 q4 q5 q6 q7 q8 q9 q10 q11 q12 q13 q14 q15 q16 q17 q18 q19 : Nat) (sz : Nat) (p1 : Int32) (p2 : Int32) (hc0 : p1 < 0) : Met l yX13_add wsX13_add ({ frames := 1, cells := 0, slots := 0, locals := 22 }) (va_Pc [.ref q0, .int p1, .int p2] (zB (dC, dI) [] [(q0, .inr (15, [.ref q1, .ref q2, .ref q3, .ref q4, .ref q5, .ref q6, .int 0, .int 1, .ref q7, .int 0, .ref q8, .null, .ref q9, .null, .ref q10, .ref q11, .ref q12, .ref q13, .ref q14, .int 0, .ref q15, .ref q16, .ref q17, .ref q18, .ref q19, .int 0, .int 0]))] sz)) (va_Qi (fun (r : Int32) (_ : Unit) => 0 = r) (fun _ t => zE (dC, dI) [] [(q0, .inr (15, [.ref q1, .ref q2, .ref q3, .ref q4, .ref q5, .ref q6, .int 0, .int 1, .ref q7, .int 0, .ref q8, .null, .ref q9, .null, .ref q10, .ref q11, .ref q12, .ref q13, .ref q14, .int 1, .ref q15, .ref q16, .ref q17, .ref q18, .ref q19, .int 0, .int 0]))] (va_A [(q0, .inr (15, [.ref q1, .ref q2, .ref q3, .ref q4, .ref q5, .ref q6, .int 0, .int 1, .ref q7, .int 0, .ref q8, .null, .ref q9, .null, .ref q10, .ref q11, .ref q12, .ref q13, .ref q14, .int 0, .ref q15, .ref q16, .ref q17, .ref q18, .ref q19, .int 0, .int 0]))] sz) t) (va_A [(q0, .inr (15, [.ref q1, .ref q2, .ref q3, .ref q4, .ref q5, .ref q6, .int 0, .int 1, .ref q7, .int 0, .ref q8, .null, .ref q9, .null, .ref q10, .ref q11, .ref q12, .ref q13, .ref q14, .int 0, .ref q15, .ref q16, .ref q17, .ref q18, .ref q19, .int 0, .int 0]))] sz)) 0 0 (va_A [(q0, .inr (15, [.ref q1, .ref q2, .ref q3, .ref q4, .ref q5, .ref q6, .int 0, .int 1, .ref q7, .int 0, .ref q8, .null, .ref q9, .null, .ref q10, .ref q11, .ref q12, .ref q13, .ref q14, .int 0, .ref q15, .ref q16, .ref q17, .ref q18, .ref q19, .int 0, .int 0]))] sz) := by
  refine Met.ofW (cc := cX13_add) (maxL := 3) (ret := (some .int)) (by decide) rfl ?_
  intro p e s m args below meth c s₁ B hml hv
  obtain ⟨rfl, hsz, hP, hK, hD0, hZ, hN⟩ := hv
  have hx := B.exec
  have hb := B.bytes
  have hr := B.returns
  have hts := atoms_spec (ws := wsX13_add) B.pre
  have hown : s.vm.findClass RX13 = some m.cls := findClass_of_methodNamed B.named
  have hlocks := B.notSynchronized
  subst hsz
  have hD := hD0.self (sz := s.heap.size)
  generalize hAe : va_A [(q0, .inr (15, [.ref q1, .ref q2, .ref q3, .ref q4, .ref q5, .ref q6, .int 0, .int 1, .ref q7, .int 0, .ref q8, .null, .ref q9, .null, .ref q10, .ref q11, .ref q12, .ref q13, .ref q14, .int 0, .ref q15, .ref q16, .ref q17, .ref q18, .ref q19, .int 0, .int 0]))] s.heap.size = A at hD hZ ⊢
  have hA : ∀ q : Nat, s.heap.size ≤ q → A q := fun q h => by rw [← hAe]; exact Or.inr h
  have hS : va_S A s.heap s.heap [] := va_S.rf
  have hP : va_P (dC, dI) vwCl [(q0, .inr (15, [.ref q1, .ref q2, .ref q3, .ref q4, .ref q5, .ref q6, .int 0, .int 1, .ref q7, .int 0, .ref q8, .null, .ref q9, .null, .ref q10, .ref q11, .ref q12, .ref q13, .ref q14, .int 0, .ref q15, .ref q16, .ref q17, .ref q18, .ref q19, .int 0, .int 0]))] s.heap := hP
  have hl := lv_entry ([.ref q0, .int p1, .int p2]) (n := 3) (Nat.le_of_ble_eq_true rfl)
  rw [lg_entry_eq]
  generalize (lg_sl ([.ref q0, .int p1, .int p2]) ++ List.replicate (3 - (lg_sl ([.ref q0, .int p1, .int p2])).length) Slot.unset).toArray = ls at hl ⊢
  have hl : lv_has ls 3 [(0, .ref q0), (1, .int p1), (2, .int p2)] := hl
  refine lv_aload_n hx hb dX13_add_0 rfl (lv_at hl 0 rfl) ?_
  refine lv_iload_n hx hb dX13_add_1 rfl (lv_at hl 1 rfl) ?_
  refine lv_iconst (v := 0) hx hb dX13_add_2 (by decide +kernel) ?_
  refine lv_sipush (v := 999) hx hb dX13_add_3 (by decide +kernel) ?_
  have hPc := hP.sub (ws' := []) [] rfl
  have hDc := hD.sub (ws' := []) [] (by decide) rfl
  have hKc := hK.sub (tys' := []) [] rfl
  have hFc := va_free (wc := []) hD hS hA [] rfl
  refine va_calli (va_runS (As := [.int p1, .int 0, .int 999]) (rest := [.ref q0]) ⟨hx, hb, hml, hown, hts⟩ (c_X13_in_6 l dC dI  s.heap.size p1 hc0) (va_cwS 3 hts gX13_add_X13_in rfl rfl rfl (by decide +kernel) ⟨Nat.le_of_ble_eq_true rfl, Nat.le_of_ble_eq_true rfl⟩) ⟨zB_blind, (zPre hPc hDc hKc hS hFc hZ hN)⟩ rfl rfl hl.1 rfl (lv_room (Nat.le_of_ble_eq_true rfl)) dX13_add_6 ⟨Nat.le_of_ble_eq_true rfl, Nat.le_of_ble_eq_true rfl⟩) hS (fun q _ h => hFc q h) hFc (fun r u t H1 locs ht hvm hw hB hz1 hk1 hS => ?_)
  subst hw
  obtain ⟨hP1, hK1, hD1⟩ := hB
  rw [ht] at hP1
  have hK1 := va_K.moved hvm.symm hK1
  obtain ⟨hP, hD⟩ := va_join (wr := [(q0, .inr (15, [.ref q1, .ref q2, .ref q3, .ref q4, .ref q5, .ref q6, .int 0, .int 1, .ref q7, .int 0, .ref q8, .null, .ref q9, .null, .ref q10, .ref q11, .ref q12, .ref q13, .ref q14, .int 0, .ref q15, .ref q16, .ref q17, .ref q18, .ref q19, .int 0, .int 0]))]) (w1 := []) hP hD [] [0] rfl rfl (by decide) (by decide) hk1 hFc hP1 hD1
  have hK := (hK.sub (tys' := []) [] rfl).app hK1
  generalize H1 = H at hP hS ⊢
  have hP : va_P (dC, dI) vwCl [(q0, .inr (15, [.ref q1, .ref q2, .ref q3, .ref q4, .ref q5, .ref q6, .int 0, .int 1, .ref q7, .int 0, .ref q8, .null, .ref q9, .null, .ref q10, .ref q11, .ref q12, .ref q13, .ref q14, .int 0, .ref q15, .ref q16, .ref q17, .ref q18, .ref q19, .int 0, .int 0]))] H := hP
  have hD : va_D A [(q0, .inr (15, [.ref q1, .ref q2, .ref q3, .ref q4, .ref q5, .ref q6, .int 0, .int 1, .ref q7, .int 0, .ref q8, .null, .ref q9, .null, .ref q10, .ref q11, .ref q12, .ref q13, .ref q14, .int 0, .ref q15, .ref q16, .ref q17, .ref q18, .ref q19, .int 0, .int 0]))] := hD
  have hK : va_K (dC, dI) vwCl [] s := hK
  refine W.widen (k := 0) (n := 0) (Nat.le_of_ble_eq_true rfl) (Nat.le_of_ble_eq_true rfl) ?_
  refine lv_if_eq (tgt := 27) hx hb dX13_add_9 (by decide) (fun _ => ?_) (fun h9 => absurd (show (0 : Int32) = (0 : Int32) by decide +kernel) h9)
  refine lv_iconst (v := 0) hx hb dX13_add_27 (by decide +kernel) ?_
  refine lv_iconst (v := 1) hx hb dX13_add_28 (by decide +kernel) ?_
  have hPc := hP.sub (ws' := [(q0, .inr (15, [.ref q1, .ref q2, .ref q3, .ref q4, .ref q5, .ref q6, .int 0, .int 1, .ref q7, .int 0, .ref q8, .null, .ref q9, .null, .ref q10, .ref q11, .ref q12, .ref q13, .ref q14, .int 0, .ref q15, .ref q16, .ref q17, .ref q18, .ref q19, .int 0, .int 0]))]) [0] rfl
  have hDc := hD.sub (ws' := [(q0, .inr (15, [.ref q1, .ref q2, .ref q3, .ref q4, .ref q5, .ref q6, .int 0, .int 1, .ref q7, .int 0, .ref q8, .null, .ref q9, .null, .ref q10, .ref q11, .ref q12, .ref q13, .ref q14, .int 0, .ref q15, .ref q16, .ref q17, .ref q18, .ref q19, .int 0, .int 0]))]) [0] (by decide) rfl
  have hKc := hK.sub (tys' := []) [] rfl
  have hFc := va_free (wc := [(q0, .inr (15, [.ref q1, .ref q2, .ref q3, .ref q4, .ref q5, .ref q6, .int 0, .int 1, .ref q7, .int 0, .ref q8, .null, .ref q9, .null, .ref q10, .ref q11, .ref q12, .ref q13, .ref q14, .int 0, .ref q15, .ref q16, .ref q17, .ref q18, .ref q19, .int 0, .int 0]))]) hD hS hA [0] rfl
  refine va_calli (va_runV (As := [.int 0, .int 1]) (rest := []) ⟨hx, hb, hml, hown, hts⟩ (c_X13_no l dC dI q0 q1 q2 q3 q4 q5 q6 q7 q8 q9 q10 q11 q12 q13 q14 q15 q16 q17 q18 q19 H.size  ) (cwV 2 hts gX13_add_X13_no rfl rfl rfl (by decide +kernel) ⟨Nat.le_of_ble_eq_true rfl, Nat.le_of_ble_eq_true rfl⟩) ⟨zB_blind, va_recv hK hP (ci := 15) (q0 := 0) rfl rfl, (zPre hPc hDc hKc hS hFc hZ hN)⟩ rfl rfl hl.1 rfl (lv_room (Nat.le_of_ble_eq_true rfl)) dX13_add_29 ⟨Nat.le_of_ble_eq_true rfl, Nat.le_of_ble_eq_true rfl⟩) hS (fun q _ h => hFc q h) hFc (fun r u t H1 locs ht hvm hw hB hz1 hk1 hS => ?_)
  subst hw
  obtain ⟨hP1, hK1, hD1⟩ := hB
  rw [ht] at hP1
  have hK1 := va_K.moved hvm.symm hK1
  obtain ⟨hP, hD⟩ := va_join (wr := []) (w1 := [(q0, .inr (15, [.ref q1, .ref q2, .ref q3, .ref q4, .ref q5, .ref q6, .int 0, .int 1, .ref q7, .int 0, .ref q8, .null, .ref q9, .null, .ref q10, .ref q11, .ref q12, .ref q13, .ref q14, .int 1, .ref q15, .ref q16, .ref q17, .ref q18, .ref q19, .int 0, .int 0]))]) hP hD [0] [] rfl rfl (by decide) (by decide) hk1 hFc hP1 hD1
  have hK := (hK.sub (tys' := []) [] rfl).app hK1
  generalize H1 = H at hP hS ⊢
  have hP : va_P (dC, dI) vwCl [(q0, .inr (15, [.ref q1, .ref q2, .ref q3, .ref q4, .ref q5, .ref q6, .int 0, .int 1, .ref q7, .int 0, .ref q8, .null, .ref q9, .null, .ref q10, .ref q11, .ref q12, .ref q13, .ref q14, .int 1, .ref q15, .ref q16, .ref q17, .ref q18, .ref q19, .int 0, .int 0]))] H := hP
  have hD : va_D A [(q0, .inr (15, [.ref q1, .ref q2, .ref q3, .ref q4, .ref q5, .ref q6, .int 0, .int 1, .ref q7, .int 0, .ref q8, .null, .ref q9, .null, .ref q10, .ref q11, .ref q12, .ref q13, .ref q14, .int 1, .ref q15, .ref q16, .ref q17, .ref q18, .ref q19, .int 0, .int 0]))] := hD
  have hK : va_K (dC, dI) vwCl [] s := hK
  refine W.widen (k := 0) (n := 0) (Nat.le_of_ble_eq_true rfl) (Nat.le_of_ble_eq_true rfl) ?_
  refine lv_if_ne (tgt := 57) hx hb dX13_add_32 (by decide) (fun _ => ?_) (fun h9 => absurd h9 (show ¬ (1 : Int32) = (0 : Int32) by decide +kernel))
  refine lv_iconst (v := 0) hx hb dX13_add_57 (by decide +kernel) ?_
  have hP9 := hP.sub (ws' := [(q0, .inr (15, [.ref q1, .ref q2, .ref q3, .ref q4, .ref q5, .ref q6, .int 0, .int 1, .ref q7, .int 0, .ref q8, .null, .ref q9, .null, .ref q10, .ref q11, .ref q12, .ref q13, .ref q14, .int 1, .ref q15, .ref q16, .ref q17, .ref q18, .ref q19, .int 0, .int 0]))]) [0] rfl
  have hD9 := hD.sub (ws' := [(q0, .inr (15, [.ref q1, .ref q2, .ref q3, .ref q4, .ref q5, .ref q6, .int 0, .int 1, .ref q7, .int 0, .ref q8, .null, .ref q9, .null, .ref q10, .ref q11, .ref q12, .ref q13, .ref q14, .int 1, .ref q15, .ref q16, .ref q17, .ref q18, .ref q19, .int 0, .int 0]))]) [0] (by decide) rfl
  have hK9 := hK.sub (tys' := []) [] rfl
  exact W.iret (v := 0) hx hb hr (fun t ht hW => ⟨⟨0, (), rfl, rfl, ⟨by rw [ht]; exact hP9, va_K.moved hW.alike hK9, hD9⟩⟩, hS.F ht⟩) hS.2.2 dX13_add_58
set_option maxHeartbeats 4000000 in
set_option maxRecDepth 100000 in
theorem c_X11_add_2 (l : Launch) (hfl : l.stackTraces = false) (dC : Nat → ClassId) (dI : Nat → Nat → Nat) (q0 : Nat) (sz : Nat) (p1 : Int32) (p2 : Int32) (hc0 : ¬ p1 < 0) (hc1 : (999 : Int32) < p1) : vx_Met l yX11_add wsX11_add ({ frames := 6, cells := 1, slots := 6, locals := 90 }) (va_Pc [.ref q0, .int p1, .int p2] (zB (dC, dI) [] [] sz)) (va_Qi (fun (_ : Int32) (_ : Unit) => False) (fun _ _ => True) (va_A [] sz)) (vx_X (fun (_ : Unit) => True) (fun E _ _ => "java/lang/IllegalArgumentException" = E) (va_A [] sz)) 1 6 (va_A [] sz) := by
  refine vx_ofW (cc := cX11_add) (maxL := 4) (ret := (some .int)) (by decide) rfl ?_
  intro p e s m args below meth c s₁ B hml hnoex hv
  obtain ⟨rfl, hsz, hP, hK, hD0, hZ, hN⟩ := hv
  have hx := B.exec
  have hb := B.bytes
  have hr := B.returns
  have hts := atoms_spec (ws := wsX11_add) B.pre
  have hown : s.vm.findClass RX11 = some m.cls := findClass_of_methodNamed B.named
  have hlocks := B.notSynchronized
  subst hsz
  have hD := hD0.self (sz := s.heap.size)
  generalize hAe : va_A [] s.heap.size = A at hD hZ ⊢
  have hA : ∀ q : Nat, s.heap.size ≤ q → A q := fun q h => by rw [← hAe]; exact Or.inr h
  have hS : va_S A s.heap s.heap [] := va_S.rf
  have hP : va_P (dC, dI) vwCl [] s.heap := hP
  have hl := lv_entry ([.ref q0, .int p1, .int p2]) (n := 4) (Nat.le_of_ble_eq_true rfl)
  rw [lg_entry_eq]
  generalize (lg_sl ([.ref q0, .int p1, .int p2]) ++ List.replicate (4 - (lg_sl ([.ref q0, .int p1, .int p2])).length) Slot.unset).toArray = ls at hl ⊢
  have hl : lv_has ls 4 [(0, .ref q0), (1, .int p1), (2, .int p2)] := hl
  refine lv_iload_n hx hb dX11_add_0 rfl (lv_at hl 1 rfl) ?_
  refine lv_if_lt (tgt := 18) hx hb dX11_add_1 (by decide) (fun h9 => absurd h9 hc0) (fun _ => ?_)
  refine lv_iload_n hx hb dX11_add_4 rfl (lv_at hl 1 rfl) ?_
  refine lv_sipush (v := 999) hx hb dX11_add_5 (by decide +kernel) ?_
  refine lv_icmp_gt (tgt := 18) hx hb dX11_add_8 (by decide) (fun _ => ?_) (fun h9 => absurd hc1 h9)
  obtain ⟨sa, hstr⟩ := hN.2.2.2.2.1 (RX11, 117, "no such value or tag") (by decide +kernel)
  refine vx_throwS (A := A) (cls := "java/lang/IllegalArgumentException") (names := ["java/lang/RuntimeException", "java/lang/Exception"]) (own := RX11) (text := "no such value or tag") hx hb hfl hown (by decide +kernel) (by decide +kernel) (hts (.classLink RX11 81 "java/lang/IllegalArgumentException") (by decide +kernel)) (hts (.initialized "java/lang/IllegalArgumentException") (by decide +kernel)) hstr (vx_hat (B := [Cond.castable "java/lang/IllegalArgumentException" "java/lang/IllegalArgumentException", Cond.declares (Bundle.initS "java/lang/RuntimeException"), Cond.declares (Bundle.initS "java/lang/Exception"), Cond.declares (Bundle.initS Bundle.tN)]) (fun w h => hts w (List.mem_cons_of_mem _ (List.mem_append_left _ (List.mem_append_left _ (List.mem_append_left _ (List.mem_append_right _ h)))))) (by decide +kernel) (zthr hN (by decide +kernel))) (by decide +kernel) hZ.1 hZ.2 hS (hl.1.trans hml.symm) dX11_add_18 dX11_add_21 dX11_add_22 dX11_add_24 dX11_add_27 (fun x h => (hnoex x h).elim) (Nat.lt_of_succ_le (Nat.le_of_ble_eq_true rfl)) (Nat.le_of_ble_eq_true rfl) (Nat.le_of_ble_eq_true rfl) (Nat.le_of_ble_eq_true rfl) hlocks ?_ hS.2.2 (Nat.le_refl _) (Nat.le_refl _)
  exact fun t hvm hz hk => ⟨(), trivial, rfl, zF hS hz hk⟩
set_option maxHeartbeats 4000000 in
set_option maxRecDepth 100000 in
theorem c_L_add_2 (l : Launch) (hfl : l.stackTraces = false) (dC : Nat → ClassId) (dI : Nat → Nat → Nat) (q0 q1 q2 q3 q4 q5 q6 q7 q8 q9 q10 q11 q12 q13 q14 : Nat) (sz : Nat) (p1 : Int32) (p2 : Int32) (hc0 : ¬ p1 < 0) (hc1 : (999 : Int32) < p1) : Met l yL_add wsL_add ({ frames := 7, cells := 1, slots := 6, locals := 113 }) (va_Pc [.ref q0, .int p1, .int p2, .ref q1] (zB (dC, dI) [] [(q0, .inr (13, [.ref q2, .ref q3, .ref q4, .ref q5, .ref q6, .ref q7, .ref q8, .ref q9, .int 0, .ref q10, .ref q11, .ref q12, .ref q13, .ref q14]))] sz)) (va_Qi (fun (r : Int32) (_ : Unit) => 1 = r) (fun _ t => zE (dC, dI) [] [] (va_A [(q0, .inr (13, [.ref q2, .ref q3, .ref q4, .ref q5, .ref q6, .ref q7, .ref q8, .ref q9, .int 0, .ref q10, .ref q11, .ref q12, .ref q13, .ref q14]))] sz) t) (va_A [(q0, .inr (13, [.ref q2, .ref q3, .ref q4, .ref q5, .ref q6, .ref q7, .ref q8, .ref q9, .int 0, .ref q10, .ref q11, .ref q12, .ref q13, .ref q14]))] sz)) 1 6 (va_A [(q0, .inr (13, [.ref q2, .ref q3, .ref q4, .ref q5, .ref q6, .ref q7, .ref q8, .ref q9, .int 0, .ref q10, .ref q11, .ref q12, .ref q13, .ref q14]))] sz) := by
  refine va_MetW (cc := cL_add) (maxL := 5) (ret := (some .int)) (by decide) rfl ?_
  intro p e s m args below meth c s₁ B hml hv
  obtain ⟨rfl, hsz, hP, hK, hD0, hZ, hN⟩ := hv
  have hx := B.exec
  have hb := B.bytes
  have hr := B.returns
  have hts := atoms_spec (ws := wsL_add) B.pre
  have hown : s.vm.findClass RL = some m.cls := findClass_of_methodNamed B.named
  have hlocks := B.notSynchronized
  have htab := vx_table (x := yL_add) B (hts (.codeWith yL_add cL_add 5 (some .int) [(0, 10, 13, 13), (0, 10, 17, 15)]) List.mem_cons_self)
  subst hsz
  have hD := hD0.self (sz := s.heap.size)
  generalize hAe : va_A [(q0, .inr (13, [.ref q2, .ref q3, .ref q4, .ref q5, .ref q6, .ref q7, .ref q8, .ref q9, .int 0, .ref q10, .ref q11, .ref q12, .ref q13, .ref q14]))] s.heap.size = A at hD hZ ⊢
  have hA : ∀ q : Nat, s.heap.size ≤ q → A q := fun q h => by rw [← hAe]; exact Or.inr h
  have hS : va_S A s.heap s.heap [] := va_S.rf
  have hP : va_P (dC, dI) vwCl [(q0, .inr (13, [.ref q2, .ref q3, .ref q4, .ref q5, .ref q6, .ref q7, .ref q8, .ref q9, .int 0, .ref q10, .ref q11, .ref q12, .ref q13, .ref q14]))] s.heap := hP
  have hl := lv_entry ([.ref q0, .int p1, .int p2, .ref q1]) (n := 5) (Nat.le_of_ble_eq_true rfl)
  rw [lg_entry_eq]
  generalize (lg_sl ([.ref q0, .int p1, .int p2, .ref q1]) ++ List.replicate (5 - (lg_sl ([.ref q0, .int p1, .int p2, .ref q1])).length) Slot.unset).toArray = ls at hl ⊢
  have hl : lv_has ls 5 [(0, .ref q0), (1, .int p1), (2, .int p2), (3, .ref q1)] := hl
  refine lv_aload_n hx hb dL_add_0 rfl (lv_at hl 3 rfl) ?_
  refine lv_iconst (v := 0) hx hb dL_add_1 (by decide +kernel) ?_
  refine lv_aload_n hx hb dL_add_2 rfl (lv_at hl 0 rfl) ?_
  refine lv_iload_n hx hb dL_add_3 rfl (lv_at hl 1 rfl) ?_
  refine lv_iload_n hx hb dL_add_4 rfl (lv_at hl 2 rfl) ?_
  have hPc := hP.sub (ws' := []) [] rfl
  have hDc := hD.sub (ws' := []) [] (by decide) rfl
  have hKc := hK.sub (tys' := []) [] rfl
  have hFc := va_free (wc := []) hD hS hA [] rfl
  refine vx_calli (vx_runV (As := [.int p1, .int p2]) (rest := [.int 0, .ref q1]) ⟨hx, hb, hml, hown, hts⟩ (c_X11_add_2 l hfl dC dI q0 s.heap.size p1 p2 hc0 hc1) (cwV 2 hts gL_add_X11_add rfl rfl rfl (by decide +kernel) ⟨Nat.le_of_ble_eq_true rfl, Nat.le_of_ble_eq_true rfl⟩) ⟨zB_blind, va_recv hK hP (ci := 13) (q0 := 0) rfl rfl, (zPre hPc hDc hKc hS hFc hZ hN)⟩ rfl rfl hl.1 rfl (lv_room (Nat.le_of_ble_eq_true rfl)) dL_add_5 ⟨Nat.le_of_ble_eq_true rfl, Nat.le_of_ble_eq_true rfl⟩) hS (fun q _ h => hFc q h) hFc (fun q _ h => hFc q h) (fun E ce qx u t H1 locs1 ht hvm hpx hBX hz1 hk1 hS hq9 hv9 hcl9 => ?_) (fun r u t H1 locs1 _ _ hw => hw.elim)
  subst hBX
  refine vx_catch (name := "java/lang/IllegalArgumentException") hown [] ⟨0, 10, 13, 13⟩ [⟨0, 10, 17, 15⟩] (by rw [htab]; rfl) (fun z h => absurd h List.not_mem_nil) rfl (by decide) (hts (.classLink RL 13 "java/lang/IllegalArgumentException") (by decide +kernel)) (va_Nw.use rfl (hN.2.1 "java/lang/IllegalArgumentException" (by decide +kernel))) hq9 hv9 hcl9 ?_
  generalize H1 = H at hS ⊢
  refine W.widen (k := 1) (n := 6) (Nat.le_of_ble_eq_true rfl) (Nat.le_of_ble_eq_true rfl) ?_
  have hP : va_P (dC, dI) vwCl [] H := zP_nil
  have hD : va_D A [] := zD_nil
  have hK := hK.sub (tys' := []) [] rfl
  refine lv_astore (lv' := [(4, .ref qx), (0, .ref q0), (1, .int p1), (2, .int p2), (3, .ref q1)]) hx hb dL_add_13 hl (by decide) rfl (fun ls hl => ?_)
  refine lv_iconst (v := 1) hx hb dL_add_15 (by decide +kernel) ?_
  have hP9 := hP.sub (ws' := []) [] rfl
  have hD9 := hD.sub (ws' := []) [] (by decide) rfl
  have hK9 := hK.sub (tys' := []) [] rfl
  exact W.iret (v := 1) hx hb hr (fun t ht hW => ⟨⟨1, (), rfl, rfl, ⟨by rw [ht]; exact hP9, va_K.moved hW.alike hK9, hD9⟩⟩, hS.F ht⟩) hS.2.2 dL_add_16
set_option maxHeartbeats 4000000 in
set_option maxRecDepth 100000 in
theorem c_X13_in_7 (l : Launch) (dC : Nat → ClassId) (dI : Nat → Nat → Nat) (sz : Nat) (p0 : Int32) (hc0 : ¬ p0 < 0) (hc1 : (999 : Int32) < p0) : Met l yX13_in wsX13_in ({ frames := 0, cells := 0, slots := 0, locals := 0 }) (va_Pc [.int p0, .int 0, .int 999] (zB (dC, dI) [] [] sz)) (va_Qi (fun (r : Int32) (_ : Unit) => 0 = r) (fun _ t => zE (dC, dI) [] [] (va_A [] sz) t) (va_A [] sz)) 0 0 (va_A [] sz) := by
  refine Met.ofW (cc := cX13_in) (maxL := 3) (ret := (some .boolean)) (by decide) rfl ?_
  intro p e s m args below meth c s₁ B hml hv
  obtain ⟨rfl, hsz, hP, hK, hD0, hZ, hN⟩ := hv
  have hx := B.exec
  have hb := B.bytes
  have hr := B.returns
  have hts := atoms_spec (ws := wsX13_in) B.pre
  have hown : s.vm.findClass RX13 = some m.cls := findClass_of_methodNamed B.named
  have hlocks := B.notSynchronized
  subst hsz
  have hD := hD0.self (sz := s.heap.size)
  generalize hAe : va_A [] s.heap.size = A at hD hZ ⊢
  have hA : ∀ q : Nat, s.heap.size ≤ q → A q := fun q h => by rw [← hAe]; exact Or.inr h
  have hS : va_S A s.heap s.heap [] := va_S.rf
  have hP : va_P (dC, dI) vwCl [] s.heap := hP
  have hl := lv_entry ([.int p0, .int 0, .int 999]) (n := 3) (Nat.le_of_ble_eq_true rfl)
  rw [lg_entry_eq]
  generalize (lg_sl ([.int p0, .int 0, .int 999]) ++ List.replicate (3 - (lg_sl ([.int p0, .int 0, .int 999])).length) Slot.unset).toArray = ls at hl ⊢
  have hl : lv_has ls 3 [(0, .int p0), (1, .int 0), (2, .int 999)] := hl
  refine lv_iload_n hx hb dX13_in_0 rfl (lv_at hl 0 rfl) ?_
  refine lv_iload_n hx hb dX13_in_1 rfl (lv_at hl 1 rfl) ?_
  refine lv_icmp_lt (tgt := 14) hx hb dX13_in_2 (by decide) (fun h9 => absurd h9 hc0) (fun _ => ?_)
  refine lv_iload_n hx hb dX13_in_5 rfl (lv_at hl 0 rfl) ?_
  refine lv_iload_n hx hb dX13_in_6 rfl (lv_at hl 2 rfl) ?_
  refine lv_icmp_gt (tgt := 14) hx hb dX13_in_7 (by decide) (fun _ => ?_) (fun h9 => absurd hc1 h9)
  refine lv_iconst (v := 0) hx hb dX13_in_14 (by decide +kernel) ?_
  have hP9 := hP.sub (ws' := []) [] rfl
  have hD9 := hD.sub (ws' := []) [] (by decide) rfl
  have hK9 := hK.sub (tys' := []) [] rfl
  exact W.zret (v := 0) hx hb hr (by decide +kernel) (fun t ht hW => ⟨⟨0, (), rfl, rfl, ⟨by rw [ht]; exact hP9, va_K.moved hW.alike hK9, hD9⟩⟩, hS.F ht⟩) hS.2.2 dX13_in_15
set_option maxHeartbeats 4000000 in
set_option maxRecDepth 100000 in
theorem c_X13_add_2 (l : Launch) (dC : Nat → ClassId) (dI : Nat → Nat → Nat) (q0 q1 q2 q3 q4 q5 q6 q7 q8 q9 q10 q11 q12 q13 q14 q15 q16 q17 q18 q19 : Nat) (sz : Nat) (p1 : Int32) (p2 : Int32) (hc0 : ¬ p1 < 0) (hc1 : (999 : Int32) < p1) : Met l yX13_add wsX13_add ({ frames := 1, cells := 0, slots := 0, locals := 22 }) (va_Pc [.ref q0, .int p1, .int p2] (zB (dC, dI) [] [(q0, .inr (15, [.ref q1, .ref q2, .ref q3, .ref q4, .ref q5, .ref q6, .int 0, .int 1, .ref q7, .int 0, .ref q8, .null, .ref q9, .null, .ref q10, .ref q11, .ref q12, .ref q13, .ref q14, .int 0, .ref q15, .ref q16, .ref q17, .ref q18, .ref q19, .int 0, .int 0]))] sz)) (va_Qi (fun (r : Int32) (_ : Unit) => 0 = r) (fun _ t => zE (dC, dI) [] [(q0, .inr (15, [.ref q1, .ref q2, .ref q3, .ref q4, .ref q5, .ref q6, .int 0, .int 1, .ref q7, .int 0, .ref q8, .null, .ref q9, .null, .ref q10, .ref q11, .ref q12, .ref q13, .ref q14, .int 1, .ref q15, .ref q16, .ref q17, .ref q18, .ref q19, .int 0, .int 0]))] (va_A [(q0, .inr (15, [.ref q1, .ref q2, .ref q3, .ref q4, .ref q5, .ref q6, .int 0, .int 1, .ref q7, .int 0, .ref q8, .null, .ref q9, .null, .ref q10, .ref q11, .ref q12, .ref q13, .ref q14, .int 0, .ref q15, .ref q16, .ref q17, .ref q18, .ref q19, .int 0, .int 0]))] sz) t) (va_A [(q0, .inr (15, [.ref q1, .ref q2, .ref q3, .ref q4, .ref q5, .ref q6, .int 0, .int 1, .ref q7, .int 0, .ref q8, .null, .ref q9, .null, .ref q10, .ref q11, .ref q12, .ref q13, .ref q14, .int 0, .ref q15, .ref q16, .ref q17, .ref q18, .ref q19, .int 0, .int 0]))] sz)) 0 0 (va_A [(q0, .inr (15, [.ref q1, .ref q2, .ref q3, .ref q4, .ref q5, .ref q6, .int 0, .int 1, .ref q7, .int 0, .ref q8, .null, .ref q9, .null, .ref q10, .ref q11, .ref q12, .ref q13, .ref q14, .int 0, .ref q15, .ref q16, .ref q17, .ref q18, .ref q19, .int 0, .int 0]))] sz) := by
  refine Met.ofW (cc := cX13_add) (maxL := 3) (ret := (some .int)) (by decide) rfl ?_
  intro p e s m args below meth c s₁ B hml hv
  obtain ⟨rfl, hsz, hP, hK, hD0, hZ, hN⟩ := hv
  have hx := B.exec
  have hb := B.bytes
  have hr := B.returns
  have hts := atoms_spec (ws := wsX13_add) B.pre
  have hown : s.vm.findClass RX13 = some m.cls := findClass_of_methodNamed B.named
  have hlocks := B.notSynchronized
  subst hsz
  have hD := hD0.self (sz := s.heap.size)
  generalize hAe : va_A [(q0, .inr (15, [.ref q1, .ref q2, .ref q3, .ref q4, .ref q5, .ref q6, .int 0, .int 1, .ref q7, .int 0, .ref q8, .null, .ref q9, .null, .ref q10, .ref q11, .ref q12, .ref q13, .ref q14, .int 0, .ref q15, .ref q16, .ref q17, .ref q18, .ref q19, .int 0, .int 0]))] s.heap.size = A at hD hZ ⊢
  have hA : ∀ q : Nat, s.heap.size ≤ q → A q := fun q h => by rw [← hAe]; exact Or.inr h
  have hS : va_S A s.heap s.heap [] := va_S.rf
  have hP : va_P (dC, dI) vwCl [(q0, .inr (15, [.ref q1, .ref q2, .ref q3, .ref q4, .ref q5, .ref q6, .int 0, .int 1, .ref q7, .int 0, .ref q8, .null, .ref q9, .null, .ref q10, .ref q11, .ref q12, .ref q13, .ref q14, .int 0, .ref q15, .ref q16, .ref q17, .ref q18, .ref q19, .int 0, .int 0]))] s.heap := hP
  have hl := lv_entry ([.ref q0, .int p1, .int p2]) (n := 3) (Nat.le_of_ble_eq_true rfl)
  rw [lg_entry_eq]
  generalize (lg_sl ([.ref q0, .int p1, .int p2]) ++ List.replicate (3 - (lg_sl ([.ref q0, .int p1, .int p2])).length) Slot.unset).toArray = ls at hl ⊢
  have hl : lv_has ls 3 [(0, .ref q0), (1, .int p1), (2, .int p2)] := hl
  refine lv_aload_n hx hb dX13_add_0 rfl (lv_at hl 0 rfl) ?_
  refine lv_iload_n hx hb dX13_add_1 rfl (lv_at hl 1 rfl) ?_
  refine lv_iconst (v := 0) hx hb dX13_add_2 (by decide +kernel) ?_
  refine lv_sipush (v := 999) hx hb dX13_add_3 (by decide +kernel) ?_
  have hPc := hP.sub (ws' := []) [] rfl
  have hDc := hD.sub (ws' := []) [] (by decide) rfl
  have hKc := hK.sub (tys' := []) [] rfl
  have hFc := va_free (wc := []) hD hS hA [] rfl
  refine va_calli (va_runS (As := [.int p1, .int 0, .int 999]) (rest := [.ref q0]) ⟨hx, hb, hml, hown, hts⟩ (c_X13_in_7 l dC dI  s.heap.size p1 hc0 hc1) (va_cwS 3 hts gX13_add_X13_in rfl rfl rfl (by decide +kernel) ⟨Nat.le_of_ble_eq_true rfl, Nat.le_of_ble_eq_true rfl⟩) ⟨zB_blind, (zPre hPc hDc hKc hS hFc hZ hN)⟩ rfl rfl hl.1 rfl (lv_room (Nat.le_of_ble_eq_true rfl)) dX13_add_6 ⟨Nat.le_of_ble_eq_true rfl, Nat.le_of_ble_eq_true rfl⟩) hS (fun q _ h => hFc q h) hFc (fun r u t H1 locs ht hvm hw hB hz1 hk1 hS => ?_)
  subst hw
  obtain ⟨hP1, hK1, hD1⟩ := hB
  rw [ht] at hP1
  have hK1 := va_K.moved hvm.symm hK1
  obtain ⟨hP, hD⟩ := va_join (wr := [(q0, .inr (15, [.ref q1, .ref q2, .ref q3, .ref q4, .ref q5, .ref q6, .int 0, .int 1, .ref q7, .int 0, .ref q8, .null, .ref q9, .null, .ref q10, .ref q11, .ref q12, .ref q13, .ref q14, .int 0, .ref q15, .ref q16, .ref q17, .ref q18, .ref q19, .int 0, .int 0]))]) (w1 := []) hP hD [] [0] rfl rfl (by decide) (by decide) hk1 hFc hP1 hD1
  have hK := (hK.sub (tys' := []) [] rfl).app hK1
  generalize H1 = H at hP hS ⊢
  have hP : va_P (dC, dI) vwCl [(q0, .inr (15, [.ref q1, .ref q2, .ref q3, .ref q4, .ref q5, .ref q6, .int 0, .int 1, .ref q7, .int 0, .ref q8, .null, .ref q9, .null, .ref q10, .ref q11, .ref q12, .ref q13, .ref q14, .int 0, .ref q15, .ref q16, .ref q17, .ref q18, .ref q19, .int 0, .int 0]))] H := hP
  have hD : va_D A [(q0, .inr (15, [.ref q1, .ref q2, .ref q3, .ref q4, .ref q5, .ref q6, .int 0, .int 1, .ref q7, .int 0, .ref q8, .null, .ref q9, .null, .ref q10, .ref q11, .ref q12, .ref q13, .ref q14, .int 0, .ref q15, .ref q16, .ref q17, .ref q18, .ref q19, .int 0, .int 0]))] := hD
  have hK : va_K (dC, dI) vwCl [] s := hK
  refine W.widen (k := 0) (n := 0) (Nat.le_of_ble_eq_true rfl) (Nat.le_of_ble_eq_true rfl) ?_
  refine lv_if_eq (tgt := 27) hx hb dX13_add_9 (by decide) (fun _ => ?_) (fun h9 => absurd (show (0 : Int32) = (0 : Int32) by decide +kernel) h9)
  refine lv_iconst (v := 0) hx hb dX13_add_27 (by decide +kernel) ?_
  refine lv_iconst (v := 1) hx hb dX13_add_28 (by decide +kernel) ?_
  have hPc := hP.sub (ws' := [(q0, .inr (15, [.ref q1, .ref q2, .ref q3, .ref q4, .ref q5, .ref q6, .int 0, .int 1, .ref q7, .int 0, .ref q8, .null, .ref q9, .null, .ref q10, .ref q11, .ref q12, .ref q13, .ref q14, .int 0, .ref q15, .ref q16, .ref q17, .ref q18, .ref q19, .int 0, .int 0]))]) [0] rfl
  have hDc := hD.sub (ws' := [(q0, .inr (15, [.ref q1, .ref q2, .ref q3, .ref q4, .ref q5, .ref q6, .int 0, .int 1, .ref q7, .int 0, .ref q8, .null, .ref q9, .null, .ref q10, .ref q11, .ref q12, .ref q13, .ref q14, .int 0, .ref q15, .ref q16, .ref q17, .ref q18, .ref q19, .int 0, .int 0]))]) [0] (by decide) rfl
  have hKc := hK.sub (tys' := []) [] rfl
  have hFc := va_free (wc := [(q0, .inr (15, [.ref q1, .ref q2, .ref q3, .ref q4, .ref q5, .ref q6, .int 0, .int 1, .ref q7, .int 0, .ref q8, .null, .ref q9, .null, .ref q10, .ref q11, .ref q12, .ref q13, .ref q14, .int 0, .ref q15, .ref q16, .ref q17, .ref q18, .ref q19, .int 0, .int 0]))]) hD hS hA [0] rfl
  refine va_calli (va_runV (As := [.int 0, .int 1]) (rest := []) ⟨hx, hb, hml, hown, hts⟩ (c_X13_no l dC dI q0 q1 q2 q3 q4 q5 q6 q7 q8 q9 q10 q11 q12 q13 q14 q15 q16 q17 q18 q19 H.size  ) (cwV 2 hts gX13_add_X13_no rfl rfl rfl (by decide +kernel) ⟨Nat.le_of_ble_eq_true rfl, Nat.le_of_ble_eq_true rfl⟩) ⟨zB_blind, va_recv hK hP (ci := 15) (q0 := 0) rfl rfl, (zPre hPc hDc hKc hS hFc hZ hN)⟩ rfl rfl hl.1 rfl (lv_room (Nat.le_of_ble_eq_true rfl)) dX13_add_29 ⟨Nat.le_of_ble_eq_true rfl, Nat.le_of_ble_eq_true rfl⟩) hS (fun q _ h => hFc q h) hFc (fun r u t H1 locs ht hvm hw hB hz1 hk1 hS => ?_)
  subst hw
  obtain ⟨hP1, hK1, hD1⟩ := hB
  rw [ht] at hP1
  have hK1 := va_K.moved hvm.symm hK1
  obtain ⟨hP, hD⟩ := va_join (wr := []) (w1 := [(q0, .inr (15, [.ref q1, .ref q2, .ref q3, .ref q4, .ref q5, .ref q6, .int 0, .int 1, .ref q7, .int 0, .ref q8, .null, .ref q9, .null, .ref q10, .ref q11, .ref q12, .ref q13, .ref q14, .int 1, .ref q15, .ref q16, .ref q17, .ref q18, .ref q19, .int 0, .int 0]))]) hP hD [0] [] rfl rfl (by decide) (by decide) hk1 hFc hP1 hD1
  have hK := (hK.sub (tys' := []) [] rfl).app hK1
  generalize H1 = H at hP hS ⊢
  have hP : va_P (dC, dI) vwCl [(q0, .inr (15, [.ref q1, .ref q2, .ref q3, .ref q4, .ref q5, .ref q6, .int 0, .int 1, .ref q7, .int 0, .ref q8, .null, .ref q9, .null, .ref q10, .ref q11, .ref q12, .ref q13, .ref q14, .int 1, .ref q15, .ref q16, .ref q17, .ref q18, .ref q19, .int 0, .int 0]))] H := hP
  have hD : va_D A [(q0, .inr (15, [.ref q1, .ref q2, .ref q3, .ref q4, .ref q5, .ref q6, .int 0, .int 1, .ref q7, .int 0, .ref q8, .null, .ref q9, .null, .ref q10, .ref q11, .ref q12, .ref q13, .ref q14, .int 1, .ref q15, .ref q16, .ref q17, .ref q18, .ref q19, .int 0, .int 0]))] := hD
  have hK : va_K (dC, dI) vwCl [] s := hK
  refine W.widen (k := 0) (n := 0) (Nat.le_of_ble_eq_true rfl) (Nat.le_of_ble_eq_true rfl) ?_
  refine lv_if_ne (tgt := 57) hx hb dX13_add_32 (by decide) (fun _ => ?_) (fun h9 => absurd h9 (show ¬ (1 : Int32) = (0 : Int32) by decide +kernel))
  refine lv_iconst (v := 0) hx hb dX13_add_57 (by decide +kernel) ?_
  have hP9 := hP.sub (ws' := [(q0, .inr (15, [.ref q1, .ref q2, .ref q3, .ref q4, .ref q5, .ref q6, .int 0, .int 1, .ref q7, .int 0, .ref q8, .null, .ref q9, .null, .ref q10, .ref q11, .ref q12, .ref q13, .ref q14, .int 1, .ref q15, .ref q16, .ref q17, .ref q18, .ref q19, .int 0, .int 0]))]) [0] rfl
  have hD9 := hD.sub (ws' := [(q0, .inr (15, [.ref q1, .ref q2, .ref q3, .ref q4, .ref q5, .ref q6, .int 0, .int 1, .ref q7, .int 0, .ref q8, .null, .ref q9, .null, .ref q10, .ref q11, .ref q12, .ref q13, .ref q14, .int 1, .ref q15, .ref q16, .ref q17, .ref q18, .ref q19, .int 0, .int 0]))]) [0] (by decide) rfl
  have hK9 := hK.sub (tys' := []) [] rfl
  exact W.iret (v := 0) hx hb hr (fun t ht hW => ⟨⟨0, (), rfl, rfl, ⟨by rw [ht]; exact hP9, va_K.moved hW.alike hK9, hD9⟩⟩, hS.F ht⟩) hS.2.2 dX13_add_58
set_option maxHeartbeats 4000000 in
set_option maxRecDepth 100000 in
theorem c_X11_isTag (l : Launch) (dC : Nat → ClassId) (dI : Nat → Nat → Nat) (sz : Nat) (p0 : Int32) (hc0 : p0 < 97) : Met l yX11_isTag wsX11_isTag ({ frames := 0, cells := 0, slots := 0, locals := 0 }) (va_Pc [.int p0] (zB (dC, dI) [] [] sz)) (va_Qi (fun (r : Int32) (_ : Unit) => 0 = r) (fun _ t => zE (dC, dI) [] [] (va_A [] sz) t) (va_A [] sz)) 0 0 (va_A [] sz) := by
  refine Met.ofW (cc := cX11_isTag) (maxL := 1) (ret := (some .boolean)) (by decide) rfl ?_
  intro p e s m args below meth c s₁ B hml hv
  obtain ⟨rfl, hsz, hP, hK, hD0, hZ, hN⟩ := hv
  have hx := B.exec
  have hb := B.bytes
  have hr := B.returns
  have hts := atoms_spec (ws := wsX11_isTag) B.pre
  have hown : s.vm.findClass RX11 = some m.cls := findClass_of_methodNamed B.named
  have hlocks := B.notSynchronized
  subst hsz
  have hD := hD0.self (sz := s.heap.size)
  generalize hAe : va_A [] s.heap.size = A at hD hZ ⊢
  have hA : ∀ q : Nat, s.heap.size ≤ q → A q := fun q h => by rw [← hAe]; exact Or.inr h
  have hS : va_S A s.heap s.heap [] := va_S.rf
  have hP : va_P (dC, dI) vwCl [] s.heap := hP
  have hl := lv_entry ([.int p0]) (n := 1) (Nat.le_of_ble_eq_true rfl)
  rw [lg_entry_eq]
  generalize (lg_sl ([.int p0]) ++ List.replicate (1 - (lg_sl ([.int p0])).length) Slot.unset).toArray = ls at hl ⊢
  have hl : lv_has ls 1 [(0, .int p0)] := hl
  refine lv_iload_n hx hb dX11_isTag_0 rfl (lv_at hl 0 rfl) ?_
  refine lv_bipush (v := 97) hx hb dX11_isTag_1 (by decide +kernel) ?_
  refine lv_icmp_lt (tgt := 16) hx hb dX11_isTag_3 (by decide) (fun _ => ?_) (fun h9 => absurd hc0 h9)
  refine lv_iconst (v := 0) hx hb dX11_isTag_16 (by decide +kernel) ?_
  have hP9 := hP.sub (ws' := []) [] rfl
  have hD9 := hD.sub (ws' := []) [] (by decide) rfl
  have hK9 := hK.sub (tys' := []) [] rfl
  exact W.zret (v := 0) hx hb hr (by decide +kernel) (fun t ht hW => ⟨⟨0, (), rfl, rfl, ⟨by rw [ht]; exact hP9, va_K.moved hW.alike hK9, hD9⟩⟩, hS.F ht⟩) hS.2.2 dX11_isTag_17
set_option maxHeartbeats 4000000 in
set_option maxRecDepth 100000 in
theorem c_X11_add_3 (l : Launch) (hfl : l.stackTraces = false) (dC : Nat → ClassId) (dI : Nat → Nat → Nat) (q0 : Nat) (sz : Nat) (p1 : Int32) (p2 : Int32) (hc0 : ¬ p1 < 0) (hc1 : ¬ (999 : Int32) < p1) (hc2 : p2 < 97) : vx_Met l yX11_add wsX11_add ({ frames := 6, cells := 1, slots := 6, locals := 90 }) (va_Pc [.ref q0, .int p1, .int p2] (zB (dC, dI) [] [] sz)) (va_Qi (fun (_ : Int32) (_ : Unit) => False) (fun _ _ => True) (va_A [] sz)) (vx_X (fun (_ : Unit) => True) (fun E _ _ => "java/lang/IllegalArgumentException" = E) (va_A [] sz)) 1 6 (va_A [] sz) := by
  refine vx_ofW (cc := cX11_add) (maxL := 4) (ret := (some .int)) (by decide) rfl ?_
  intro p e s m args below meth c s₁ B hml hnoex hv
  obtain ⟨rfl, hsz, hP, hK, hD0, hZ, hN⟩ := hv
  have hx := B.exec
  have hb := B.bytes
  have hr := B.returns
  have hts := atoms_spec (ws := wsX11_add) B.pre
  have hown : s.vm.findClass RX11 = some m.cls := findClass_of_methodNamed B.named
  have hlocks := B.notSynchronized
  subst hsz
  have hD := hD0.self (sz := s.heap.size)
  generalize hAe : va_A [] s.heap.size = A at hD hZ ⊢
  have hA : ∀ q : Nat, s.heap.size ≤ q → A q := fun q h => by rw [← hAe]; exact Or.inr h
  have hS : va_S A s.heap s.heap [] := va_S.rf
  have hP : va_P (dC, dI) vwCl [] s.heap := hP
  have hl := lv_entry ([.ref q0, .int p1, .int p2]) (n := 4) (Nat.le_of_ble_eq_true rfl)
  rw [lg_entry_eq]
  generalize (lg_sl ([.ref q0, .int p1, .int p2]) ++ List.replicate (4 - (lg_sl ([.ref q0, .int p1, .int p2])).length) Slot.unset).toArray = ls at hl ⊢
  have hl : lv_has ls 4 [(0, .ref q0), (1, .int p1), (2, .int p2)] := hl
  refine lv_iload_n hx hb dX11_add_0 rfl (lv_at hl 1 rfl) ?_
  refine lv_if_lt (tgt := 18) hx hb dX11_add_1 (by decide) (fun h9 => absurd h9 hc0) (fun _ => ?_)
  refine lv_iload_n hx hb dX11_add_4 rfl (lv_at hl 1 rfl) ?_
  refine lv_sipush (v := 999) hx hb dX11_add_5 (by decide +kernel) ?_
  refine lv_icmp_gt (tgt := 18) hx hb dX11_add_8 (by decide) (fun h9 => absurd h9 hc1) (fun _ => ?_)
  refine lv_iload_n hx hb dX11_add_11 rfl (lv_at hl 2 rfl) ?_
  have hPc := hP.sub (ws' := []) [] rfl
  have hDc := hD.sub (ws' := []) [] (by decide) rfl
  have hKc := hK.sub (tys' := []) [] rfl
  have hFc := va_free (wc := []) hD hS hA [] rfl
  refine va_calli (va_runS (As := [.int p2]) (rest := []) ⟨hx, hb, hml, hown, hts⟩ (c_X11_isTag l dC dI  s.heap.size p2 hc2) (va_cwS 1 hts gX11_add_X11_isTag rfl rfl rfl (by decide +kernel) ⟨Nat.le_of_ble_eq_true rfl, Nat.le_of_ble_eq_true rfl⟩) ⟨zB_blind, (zPre hPc hDc hKc hS hFc hZ hN)⟩ rfl rfl hl.1 rfl (lv_room (Nat.le_of_ble_eq_true rfl)) dX11_add_12 ⟨Nat.le_of_ble_eq_true rfl, Nat.le_of_ble_eq_true rfl⟩) hS (fun q _ h => hFc q h) hFc (fun r u t H1 locs ht hvm hw hB hz1 hk1 hS => ?_)
  subst hw
  obtain ⟨hP1, hK1, hD1⟩ := hB
  rw [ht] at hP1
  have hK1 := va_K.moved hvm.symm hK1
  obtain ⟨hP, hD⟩ := va_join (wr := []) (w1 := []) hP hD [] [] rfl rfl (by decide) (by decide) hk1 hFc hP1 hD1
  have hK := (hK.sub (tys' := []) [] rfl).app hK1
  generalize H1 = H at hP hS ⊢
  have hP : va_P (dC, dI) vwCl [] H := hP
  have hD : va_D A [] := hD
  have hK : va_K (dC, dI) vwCl [] s := hK
  refine W.widen (k := 0) (n := 0) (Nat.le_of_ble_eq_true rfl) (Nat.le_of_ble_eq_true rfl) ?_
  refine lv_if_ne (tgt := 28) hx hb dX11_add_15 (by decide) (fun h9 => absurd (show (0 : Int32) = (0 : Int32) by decide +kernel) h9) (fun _ => ?_)
  obtain ⟨sa, hstr⟩ := hN.2.2.2.2.1 (RX11, 117, "no such value or tag") (by decide +kernel)
  refine vx_throwS (A := A) (cls := "java/lang/IllegalArgumentException") (names := ["java/lang/RuntimeException", "java/lang/Exception"]) (own := RX11) (text := "no such value or tag") hx hb hfl hown (by decide +kernel) (by decide +kernel) (hts (.classLink RX11 81 "java/lang/IllegalArgumentException") (by decide +kernel)) (hts (.initialized "java/lang/IllegalArgumentException") (by decide +kernel)) hstr (vx_hat (B := [Cond.castable "java/lang/IllegalArgumentException" "java/lang/IllegalArgumentException", Cond.declares (Bundle.initS "java/lang/RuntimeException"), Cond.declares (Bundle.initS "java/lang/Exception"), Cond.declares (Bundle.initS Bundle.tN)]) (fun w h => hts w (List.mem_cons_of_mem _ (List.mem_append_left _ (List.mem_append_left _ (List.mem_append_left _ (List.mem_append_right _ h)))))) (by decide +kernel) (zthr hN (by decide +kernel))) (by decide +kernel) hZ.1 hZ.2 hS (hl.1.trans hml.symm) dX11_add_18 dX11_add_21 dX11_add_22 dX11_add_24 dX11_add_27 (fun x h => (hnoex x h).elim) (Nat.lt_of_succ_le (Nat.le_of_ble_eq_true rfl)) (Nat.le_of_ble_eq_true rfl) (Nat.le_of_ble_eq_true rfl) (Nat.le_of_ble_eq_true rfl) hlocks ?_ hS.2.2 (Nat.le_refl _) (Nat.le_refl _)
  exact fun t hvm hz hk => ⟨(), trivial, rfl, zF hS hz hk⟩
set_option maxHeartbeats 4000000 in
set_option maxRecDepth 100000 in
theorem c_L_add_3 (l : Launch) (hfl : l.stackTraces = false) (dC : Nat → ClassId) (dI : Nat → Nat → Nat) (q0 q1 q2 q3 q4 q5 q6 q7 q8 q9 q10 q11 q12 q13 q14 : Nat) (sz : Nat) (p1 : Int32) (p2 : Int32) (hc0 : ¬ p1 < 0) (hc1 : ¬ (999 : Int32) < p1) (hc2 : p2 < 97) : Met l yL_add wsL_add ({ frames := 7, cells := 1, slots := 6, locals := 113 }) (va_Pc [.ref q0, .int p1, .int p2, .ref q1] (zB (dC, dI) [] [(q0, .inr (13, [.ref q2, .ref q3, .ref q4, .ref q5, .ref q6, .ref q7, .ref q8, .ref q9, .int 0, .ref q10, .ref q11, .ref q12, .ref q13, .ref q14]))] sz)) (va_Qi (fun (r : Int32) (_ : Unit) => 1 = r) (fun _ t => zE (dC, dI) [] [] (va_A [(q0, .inr (13, [.ref q2, .ref q3, .ref q4, .ref q5, .ref q6, .ref q7, .ref q8, .ref q9, .int 0, .ref q10, .ref q11, .ref q12, .ref q13, .ref q14]))] sz) t) (va_A [(q0, .inr (13, [.ref q2, .ref q3, .ref q4, .ref q5, .ref q6, .ref q7, .ref q8, .ref q9, .int 0, .ref q10, .ref q11, .ref q12, .ref q13, .ref q14]))] sz)) 1 6 (va_A [(q0, .inr (13, [.ref q2, .ref q3, .ref q4, .ref q5, .ref q6, .ref q7, .ref q8, .ref q9, .int 0, .ref q10, .ref q11, .ref q12, .ref q13, .ref q14]))] sz) := by
  refine va_MetW (cc := cL_add) (maxL := 5) (ret := (some .int)) (by decide) rfl ?_
  intro p e s m args below meth c s₁ B hml hv
  obtain ⟨rfl, hsz, hP, hK, hD0, hZ, hN⟩ := hv
  have hx := B.exec
  have hb := B.bytes
  have hr := B.returns
  have hts := atoms_spec (ws := wsL_add) B.pre
  have hown : s.vm.findClass RL = some m.cls := findClass_of_methodNamed B.named
  have hlocks := B.notSynchronized
  have htab := vx_table (x := yL_add) B (hts (.codeWith yL_add cL_add 5 (some .int) [(0, 10, 13, 13), (0, 10, 17, 15)]) List.mem_cons_self)
  subst hsz
  have hD := hD0.self (sz := s.heap.size)
  generalize hAe : va_A [(q0, .inr (13, [.ref q2, .ref q3, .ref q4, .ref q5, .ref q6, .ref q7, .ref q8, .ref q9, .int 0, .ref q10, .ref q11, .ref q12, .ref q13, .ref q14]))] s.heap.size = A at hD hZ ⊢
  have hA : ∀ q : Nat, s.heap.size ≤ q → A q := fun q h => by rw [← hAe]; exact Or.inr h
  have hS : va_S A s.heap s.heap [] := va_S.rf
  have hP : va_P (dC, dI) vwCl [(q0, .inr (13, [.ref q2, .ref q3, .ref q4, .ref q5, .ref q6, .ref q7, .ref q8, .ref q9, .int 0, .ref q10, .ref q11, .ref q12, .ref q13, .ref q14]))] s.heap := hP
  have hl := lv_entry ([.ref q0, .int p1, .int p2, .ref q1]) (n := 5) (Nat.le_of_ble_eq_true rfl)
  rw [lg_entry_eq]
  generalize (lg_sl ([.ref q0, .int p1, .int p2, .ref q1]) ++ List.replicate (5 - (lg_sl ([.ref q0, .int p1, .int p2, .ref q1])).length) Slot.unset).toArray = ls at hl ⊢
  have hl : lv_has ls 5 [(0, .ref q0), (1, .int p1), (2, .int p2), (3, .ref q1)] := hl
  refine lv_aload_n hx hb dL_add_0 rfl (lv_at hl 3 rfl) ?_
  refine lv_iconst (v := 0) hx hb dL_add_1 (by decide +kernel) ?_
  refine lv_aload_n hx hb dL_add_2 rfl (lv_at hl 0 rfl) ?_
  refine lv_iload_n hx hb dL_add_3 rfl (lv_at hl 1 rfl) ?_
  refine lv_iload_n hx hb dL_add_4 rfl (lv_at hl 2 rfl) ?_
  have hPc := hP.sub (ws' := []) [] rfl
  have hDc := hD.sub (ws' := []) [] (by decide) rfl
  have hKc := hK.sub (tys' := []) [] rfl
  have hFc := va_free (wc := []) hD hS hA [] rfl
  refine vx_calli (vx_runV (As := [.int p1, .int p2]) (rest := [.int 0, .ref q1]) ⟨hx, hb, hml, hown, hts⟩ (c_X11_add_3 l hfl dC dI q0 s.heap.size p1 p2 hc0 hc1 hc2) (cwV 2 hts gL_add_X11_add rfl rfl rfl (by decide +kernel) ⟨Nat.le_of_ble_eq_true rfl, Nat.le_of_ble_eq_true rfl⟩) ⟨zB_blind, va_recv hK hP (ci := 13) (q0 := 0) rfl rfl, (zPre hPc hDc hKc hS hFc hZ hN)⟩ rfl rfl hl.1 rfl (lv_room (Nat.le_of_ble_eq_true rfl)) dL_add_5 ⟨Nat.le_of_ble_eq_true rfl, Nat.le_of_ble_eq_true rfl⟩) hS (fun q _ h => hFc q h) hFc (fun q _ h => hFc q h) (fun E ce qx u t H1 locs1 ht hvm hpx hBX hz1 hk1 hS hq9 hv9 hcl9 => ?_) (fun r u t H1 locs1 _ _ hw => hw.elim)
  subst hBX
  refine vx_catch (name := "java/lang/IllegalArgumentException") hown [] ⟨0, 10, 13, 13⟩ [⟨0, 10, 17, 15⟩] (by rw [htab]; rfl) (fun z h => absurd h List.not_mem_nil) rfl (by decide) (hts (.classLink RL 13 "java/lang/IllegalArgumentException") (by decide +kernel)) (va_Nw.use rfl (hN.2.1 "java/lang/IllegalArgumentException" (by decide +kernel))) hq9 hv9 hcl9 ?_
  generalize H1 = H at hS ⊢
  refine W.widen (k := 1) (n := 6) (Nat.le_of_ble_eq_true rfl) (Nat.le_of_ble_eq_true rfl) ?_
  have hP : va_P (dC, dI) vwCl [] H := zP_nil
  have hD : va_D A [] := zD_nil
  have hK := hK.sub (tys' := []) [] rfl
  refine lv_astore (lv' := [(4, .ref qx), (0, .ref q0), (1, .int p1), (2, .int p2), (3, .ref q1)]) hx hb dL_add_13 hl (by decide) rfl (fun ls hl => ?_)
  refine lv_iconst (v := 1) hx hb dL_add_15 (by decide +kernel) ?_
  have hP9 := hP.sub (ws' := []) [] rfl
  have hD9 := hD.sub (ws' := []) [] (by decide) rfl
  have hK9 := hK.sub (tys' := []) [] rfl
  exact W.iret (v := 1) hx hb hr (fun t ht hW => ⟨⟨1, (), rfl, rfl, ⟨by rw [ht]; exact hP9, va_K.moved hW.alike hK9, hD9⟩⟩, hS.F ht⟩) hS.2.2 dL_add_16
set_option maxHeartbeats 4000000 in
set_option maxRecDepth 100000 in
theorem c_X13_in_8 (l : Launch) (dC : Nat → ClassId) (dI : Nat → Nat → Nat) (sz : Nat) (p0 : Int32) (hc0 : ¬ p0 < 0) (hc1 : ¬ (999 : Int32) < p0) : Met l yX13_in wsX13_in ({ frames := 0, cells := 0, slots := 0, locals := 0 }) (va_Pc [.int p0, .int 0, .int 999] (zB (dC, dI) [] [] sz)) (va_Qi (fun (r : Int32) (_ : Unit) => 1 = r) (fun _ t => zE (dC, dI) [] [] (va_A [] sz) t) (va_A [] sz)) 0 0 (va_A [] sz) := by
  refine Met.ofW (cc := cX13_in) (maxL := 3) (ret := (some .boolean)) (by decide) rfl ?_
  intro p e s m args below meth c s₁ B hml hv
  obtain ⟨rfl, hsz, hP, hK, hD0, hZ, hN⟩ := hv
  have hx := B.exec
  have hb := B.bytes
  have hr := B.returns
  have hts := atoms_spec (ws := wsX13_in) B.pre
  have hown : s.vm.findClass RX13 = some m.cls := findClass_of_methodNamed B.named
  have hlocks := B.notSynchronized
  subst hsz
  have hD := hD0.self (sz := s.heap.size)
  generalize hAe : va_A [] s.heap.size = A at hD hZ ⊢
  have hA : ∀ q : Nat, s.heap.size ≤ q → A q := fun q h => by rw [← hAe]; exact Or.inr h
  have hS : va_S A s.heap s.heap [] := va_S.rf
  have hP : va_P (dC, dI) vwCl [] s.heap := hP
  have hl := lv_entry ([.int p0, .int 0, .int 999]) (n := 3) (Nat.le_of_ble_eq_true rfl)
  rw [lg_entry_eq]
  generalize (lg_sl ([.int p0, .int 0, .int 999]) ++ List.replicate (3 - (lg_sl ([.int p0, .int 0, .int 999])).length) Slot.unset).toArray = ls at hl ⊢
  have hl : lv_has ls 3 [(0, .int p0), (1, .int 0), (2, .int 999)] := hl
  refine lv_iload_n hx hb dX13_in_0 rfl (lv_at hl 0 rfl) ?_
  refine lv_iload_n hx hb dX13_in_1 rfl (lv_at hl 1 rfl) ?_
  refine lv_icmp_lt (tgt := 14) hx hb dX13_in_2 (by decide) (fun h9 => absurd h9 hc0) (fun _ => ?_)
  refine lv_iload_n hx hb dX13_in_5 rfl (lv_at hl 0 rfl) ?_
  refine lv_iload_n hx hb dX13_in_6 rfl (lv_at hl 2 rfl) ?_
  refine lv_icmp_gt (tgt := 14) hx hb dX13_in_7 (by decide) (fun h9 => absurd h9 hc1) (fun _ => ?_)
  refine lv_iconst (v := 1) hx hb dX13_in_10 (by decide +kernel) ?_
  refine lv_goto (tgt := 15) hx hb dX13_in_11 (by decide) ?_
  have hP9 := hP.sub (ws' := []) [] rfl
  have hD9 := hD.sub (ws' := []) [] (by decide) rfl
  have hK9 := hK.sub (tys' := []) [] rfl
  exact W.zret (v := 1) hx hb hr (by decide +kernel) (fun t ht hW => ⟨⟨1, (), rfl, rfl, ⟨by rw [ht]; exact hP9, va_K.moved hW.alike hK9, hD9⟩⟩, hS.F ht⟩) hS.2.2 dX13_in_15
set_option maxHeartbeats 4000000 in
set_option maxRecDepth 100000 in
theorem c_X13_in_9 (l : Launch) (dC : Nat → ClassId) (dI : Nat → Nat → Nat) (sz : Nat) (p0 : Int32) (hc0 : p0 < 97) : Met l yX13_in wsX13_in ({ frames := 0, cells := 0, slots := 0, locals := 0 }) (va_Pc [.int p0, .int 97, .int 122] (zB (dC, dI) [] [] sz)) (va_Qi (fun (r : Int32) (_ : Unit) => 0 = r) (fun _ t => zE (dC, dI) [] [] (va_A [] sz) t) (va_A [] sz)) 0 0 (va_A [] sz) := by
  refine Met.ofW (cc := cX13_in) (maxL := 3) (ret := (some .boolean)) (by decide) rfl ?_
  intro p e s m args below meth c s₁ B hml hv
  obtain ⟨rfl, hsz, hP, hK, hD0, hZ, hN⟩ := hv
  have hx := B.exec
  have hb := B.bytes
  have hr := B.returns
  have hts := atoms_spec (ws := wsX13_in) B.pre
  have hown : s.vm.findClass RX13 = some m.cls := findClass_of_methodNamed B.named
  have hlocks := B.notSynchronized
  subst hsz
  have hD := hD0.self (sz := s.heap.size)
  generalize hAe : va_A [] s.heap.size = A at hD hZ ⊢
  have hA : ∀ q : Nat, s.heap.size ≤ q → A q := fun q h => by rw [← hAe]; exact Or.inr h
  have hS : va_S A s.heap s.heap [] := va_S.rf
  have hP : va_P (dC, dI) vwCl [] s.heap := hP
  have hl := lv_entry ([.int p0, .int 97, .int 122]) (n := 3) (Nat.le_of_ble_eq_true rfl)
  rw [lg_entry_eq]
  generalize (lg_sl ([.int p0, .int 97, .int 122]) ++ List.replicate (3 - (lg_sl ([.int p0, .int 97, .int 122])).length) Slot.unset).toArray = ls at hl ⊢
  have hl : lv_has ls 3 [(0, .int p0), (1, .int 97), (2, .int 122)] := hl
  refine lv_iload_n hx hb dX13_in_0 rfl (lv_at hl 0 rfl) ?_
  refine lv_iload_n hx hb dX13_in_1 rfl (lv_at hl 1 rfl) ?_
  refine lv_icmp_lt (tgt := 14) hx hb dX13_in_2 (by decide) (fun _ => ?_) (fun h9 => absurd hc0 h9)
  refine lv_iconst (v := 0) hx hb dX13_in_14 (by decide +kernel) ?_
  have hP9 := hP.sub (ws' := []) [] rfl
  have hD9 := hD.sub (ws' := []) [] (by decide) rfl
  have hK9 := hK.sub (tys' := []) [] rfl
  exact W.zret (v := 0) hx hb hr (by decide +kernel) (fun t ht hW => ⟨⟨0, (), rfl, rfl, ⟨by rw [ht]; exact hP9, va_K.moved hW.alike hK9, hD9⟩⟩, hS.F ht⟩) hS.2.2 dX13_in_15
set_option maxHeartbeats 4000000 in
set_option maxRecDepth 100000 in
theorem c_X13_add_3 (l : Launch) (dC : Nat → ClassId) (dI : Nat → Nat → Nat) (q0 q1 q2 q3 q4 q5 q6 q7 q8 q9 q10 q11 q12 q13 q14 q15 q16 q17 q18 q19 : Nat) (sz : Nat) (p1 : Int32) (p2 : Int32) (hc0 : ¬ p1 < 0) (hc1 : ¬ (999 : Int32) < p1) (hc2 : p2 < 97) : Met l yX13_add wsX13_add ({ frames := 1, cells := 0, slots := 0, locals := 22 }) (va_Pc [.ref q0, .int p1, .int p2] (zB (dC, dI) [] [(q0, .inr (15, [.ref q1, .ref q2, .ref q3, .ref q4, .ref q5, .ref q6, .int 0, .int 1, .ref q7, .int 0, .ref q8, .null, .ref q9, .null, .ref q10, .ref q11, .ref q12, .ref q13, .ref q14, .int 0, .ref q15, .ref q16, .ref q17, .ref q18, .ref q19, .int 0, .int 0]))] sz)) (va_Qi (fun (r : Int32) (_ : Unit) => 0 = r) (fun _ t => zE (dC, dI) [] [(q0, .inr (15, [.ref q1, .ref q2, .ref q3, .ref q4, .ref q5, .ref q6, .int 0, .int 1, .ref q7, .int 0, .ref q8, .null, .ref q9, .null, .ref q10, .ref q11, .ref q12, .ref q13, .ref q14, .int 1, .ref q15, .ref q16, .ref q17, .ref q18, .ref q19, .int 0, .int 0]))] (va_A [(q0, .inr (15, [.ref q1, .ref q2, .ref q3, .ref q4, .ref q5, .ref q6, .int 0, .int 1, .ref q7, .int 0, .ref q8, .null, .ref q9, .null, .ref q10, .ref q11, .ref q12, .ref q13, .ref q14, .int 0, .ref q15, .ref q16, .ref q17, .ref q18, .ref q19, .int 0, .int 0]))] sz) t) (va_A [(q0, .inr (15, [.ref q1, .ref q2, .ref q3, .ref q4, .ref q5, .ref q6, .int 0, .int 1, .ref q7, .int 0, .ref q8, .null, .ref q9, .null, .ref q10, .ref q11, .ref q12, .ref q13, .ref q14, .int 0, .ref q15, .ref q16, .ref q17, .ref q18, .ref q19, .int 0, .int 0]))] sz)) 0 0 (va_A [(q0, .inr (15, [.ref q1, .ref q2, .ref q3, .ref q4, .ref q5, .ref q6, .int 0, .int 1, .ref q7, .int 0, .ref q8, .null, .ref q9, .null, .ref q10, .ref q11, .ref q12, .ref q13, .ref q14, .int 0, .ref q15, .ref q16, .ref q17, .ref q18, .ref q19, .int 0, .int 0]))] sz) := by
  refine Met.ofW (cc := cX13_add) (maxL := 3) (ret := (some .int)) (by decide) rfl ?_
  intro p e s m args below meth c s₁ B hml hv
  obtain ⟨rfl, hsz, hP, hK, hD0, hZ, hN⟩ := hv
  have hx := B.exec
  have hb := B.bytes
  have hr := B.returns
  have hts := atoms_spec (ws := wsX13_add) B.pre
  have hown : s.vm.findClass RX13 = some m.cls := findClass_of_methodNamed B.named
  have hlocks := B.notSynchronized
  subst hsz
  have hD := hD0.self (sz := s.heap.size)
  generalize hAe : va_A [(q0, .inr (15, [.ref q1, .ref q2, .ref q3, .ref q4, .ref q5, .ref q6, .int 0, .int 1, .ref q7, .int 0, .ref q8, .null, .ref q9, .null, .ref q10, .ref q11, .ref q12, .ref q13, .ref q14, .int 0, .ref q15, .ref q16, .ref q17, .ref q18, .ref q19, .int 0, .int 0]))] s.heap.size = A at hD hZ ⊢
  have hA : ∀ q : Nat, s.heap.size ≤ q → A q := fun q h => by rw [← hAe]; exact Or.inr h
  have hS : va_S A s.heap s.heap [] := va_S.rf
  have hP : va_P (dC, dI) vwCl [(q0, .inr (15, [.ref q1, .ref q2, .ref q3, .ref q4, .ref q5, .ref q6, .int 0, .int 1, .ref q7, .int 0, .ref q8, .null, .ref q9, .null, .ref q10, .ref q11, .ref q12, .ref q13, .ref q14, .int 0, .ref q15, .ref q16, .ref q17, .ref q18, .ref q19, .int 0, .int 0]))] s.heap := hP
  have hl := lv_entry ([.ref q0, .int p1, .int p2]) (n := 3) (Nat.le_of_ble_eq_true rfl)
  rw [lg_entry_eq]
  generalize (lg_sl ([.ref q0, .int p1, .int p2]) ++ List.replicate (3 - (lg_sl ([.ref q0, .int p1, .int p2])).length) Slot.unset).toArray = ls at hl ⊢
  have hl : lv_has ls 3 [(0, .ref q0), (1, .int p1), (2, .int p2)] := hl
  refine lv_aload_n hx hb dX13_add_0 rfl (lv_at hl 0 rfl) ?_
  refine lv_iload_n hx hb dX13_add_1 rfl (lv_at hl 1 rfl) ?_
  refine lv_iconst (v := 0) hx hb dX13_add_2 (by decide +kernel) ?_
  refine lv_sipush (v := 999) hx hb dX13_add_3 (by decide +kernel) ?_
  have hPc := hP.sub (ws' := []) [] rfl
  have hDc := hD.sub (ws' := []) [] (by decide) rfl
  have hKc := hK.sub (tys' := []) [] rfl
  have hFc := va_free (wc := []) hD hS hA [] rfl
  refine va_calli (va_runS (As := [.int p1, .int 0, .int 999]) (rest := [.ref q0]) ⟨hx, hb, hml, hown, hts⟩ (c_X13_in_8 l dC dI  s.heap.size p1 hc0 hc1) (va_cwS 3 hts gX13_add_X13_in rfl rfl rfl (by decide +kernel) ⟨Nat.le_of_ble_eq_true rfl, Nat.le_of_ble_eq_true rfl⟩) ⟨zB_blind, (zPre hPc hDc hKc hS hFc hZ hN)⟩ rfl rfl hl.1 rfl (lv_room (Nat.le_of_ble_eq_true rfl)) dX13_add_6 ⟨Nat.le_of_ble_eq_true rfl, Nat.le_of_ble_eq_true rfl⟩) hS (fun q _ h => hFc q h) hFc (fun r u t H1 locs ht hvm hw hB hz1 hk1 hS => ?_)
  subst hw
  obtain ⟨hP1, hK1, hD1⟩ := hB
  rw [ht] at hP1
  have hK1 := va_K.moved hvm.symm hK1
  obtain ⟨hP, hD⟩ := va_join (wr := [(q0, .inr (15, [.ref q1, .ref q2, .ref q3, .ref q4, .ref q5, .ref q6, .int 0, .int 1, .ref q7, .int 0, .ref q8, .null, .ref q9, .null, .ref q10, .ref q11, .ref q12, .ref q13, .ref q14, .int 0, .ref q15, .ref q16, .ref q17, .ref q18, .ref q19, .int 0, .int 0]))]) (w1 := []) hP hD [] [0] rfl rfl (by decide) (by decide) hk1 hFc hP1 hD1
  have hK := (hK.sub (tys' := []) [] rfl).app hK1
  generalize H1 = H at hP hS ⊢
  have hP : va_P (dC, dI) vwCl [(q0, .inr (15, [.ref q1, .ref q2, .ref q3, .ref q4, .ref q5, .ref q6, .int 0, .int 1, .ref q7, .int 0, .ref q8, .null, .ref q9, .null, .ref q10, .ref q11, .ref q12, .ref q13, .ref q14, .int 0, .ref q15, .ref q16, .ref q17, .ref q18, .ref q19, .int 0, .int 0]))] H := hP
  have hD : va_D A [(q0, .inr (15, [.ref q1, .ref q2, .ref q3, .ref q4, .ref q5, .ref q6, .int 0, .int 1, .ref q7, .int 0, .ref q8, .null, .ref q9, .null, .ref q10, .ref q11, .ref q12, .ref q13, .ref q14, .int 0, .ref q15, .ref q16, .ref q17, .ref q18, .ref q19, .int 0, .int 0]))] := hD
  have hK : va_K (dC, dI) vwCl [] s := hK
  refine W.widen (k := 0) (n := 0) (Nat.le_of_ble_eq_true rfl) (Nat.le_of_ble_eq_true rfl) ?_
  refine lv_if_eq (tgt := 27) hx hb dX13_add_9 (by decide) (fun h9 => absurd h9 (show ¬ (1 : Int32) = (0 : Int32) by decide +kernel)) (fun _ => ?_)
  refine lv_iload_n hx hb dX13_add_12 rfl (lv_at hl 2 rfl) ?_
  refine lv_bipush (v := 97) hx hb dX13_add_13 (by decide +kernel) ?_
  refine lv_bipush (v := 122) hx hb dX13_add_15 (by decide +kernel) ?_
  have hPc := hP.sub (ws' := []) [] rfl
  have hDc := hD.sub (ws' := []) [] (by decide) rfl
  have hKc := hK.sub (tys' := []) [] rfl
  have hFc := va_free (wc := []) hD hS hA [] rfl
  refine va_calli (va_runS (As := [.int p2, .int 97, .int 122]) (rest := [.ref q0]) ⟨hx, hb, hml, hown, hts⟩ (c_X13_in_9 l dC dI  H.size p2 hc2) (va_cwS 3 hts gX13_add_X13_in rfl rfl rfl (by decide +kernel) ⟨Nat.le_of_ble_eq_true rfl, Nat.le_of_ble_eq_true rfl⟩) ⟨zB_blind, (zPre hPc hDc hKc hS hFc hZ hN)⟩ rfl rfl hl.1 rfl (lv_room (Nat.le_of_ble_eq_true rfl)) dX13_add_17 ⟨Nat.le_of_ble_eq_true rfl, Nat.le_of_ble_eq_true rfl⟩) hS (fun q _ h => hFc q h) hFc (fun r u t H1 locs ht hvm hw hB hz1 hk1 hS => ?_)
  subst hw
  obtain ⟨hP1, hK1, hD1⟩ := hB
  rw [ht] at hP1
  have hK1 := va_K.moved hvm.symm hK1
  obtain ⟨hP, hD⟩ := va_join (wr := [(q0, .inr (15, [.ref q1, .ref q2, .ref q3, .ref q4, .ref q5, .ref q6, .int 0, .int 1, .ref q7, .int 0, .ref q8, .null, .ref q9, .null, .ref q10, .ref q11, .ref q12, .ref q13, .ref q14, .int 0, .ref q15, .ref q16, .ref q17, .ref q18, .ref q19, .int 0, .int 0]))]) (w1 := []) hP hD [] [0] rfl rfl (by decide) (by decide) hk1 hFc hP1 hD1
  have hK := (hK.sub (tys' := []) [] rfl).app hK1
  generalize H1 = H at hP hS ⊢
  have hP : va_P (dC, dI) vwCl [(q0, .inr (15, [.ref q1, .ref q2, .ref q3, .ref q4, .ref q5, .ref q6, .int 0, .int 1, .ref q7, .int 0, .ref q8, .null, .ref q9, .null, .ref q10, .ref q11, .ref q12, .ref q13, .ref q14, .int 0, .ref q15, .ref q16, .ref q17, .ref q18, .ref q19, .int 0, .int 0]))] H := hP
  have hD : va_D A [(q0, .inr (15, [.ref q1, .ref q2, .ref q3, .ref q4, .ref q5, .ref q6, .int 0, .int 1, .ref q7, .int 0, .ref q8, .null, .ref q9, .null, .ref q10, .ref q11, .ref q12, .ref q13, .ref q14, .int 0, .ref q15, .ref q16, .ref q17, .ref q18, .ref q19, .int 0, .int 0]))] := hD
  have hK : va_K (dC, dI) vwCl [] s := hK
  refine W.widen (k := 0) (n := 0) (Nat.le_of_ble_eq_true rfl) (Nat.le_of_ble_eq_true rfl) ?_
  refine lv_if_eq (tgt := 27) hx hb dX13_add_20 (by decide) (fun _ => ?_) (fun h9 => absurd (show (0 : Int32) = (0 : Int32) by decide +kernel) h9)
  refine lv_iconst (v := 0) hx hb dX13_add_27 (by decide +kernel) ?_
  refine lv_iconst (v := 1) hx hb dX13_add_28 (by decide +kernel) ?_
  have hPc := hP.sub (ws' := [(q0, .inr (15, [.ref q1, .ref q2, .ref q3, .ref q4, .ref q5, .ref q6, .int 0, .int 1, .ref q7, .int 0, .ref q8, .null, .ref q9, .null, .ref q10, .ref q11, .ref q12, .ref q13, .ref q14, .int 0, .ref q15, .ref q16, .ref q17, .ref q18, .ref q19, .int 0, .int 0]))]) [0] rfl
  have hDc := hD.sub (ws' := [(q0, .inr (15, [.ref q1, .ref q2, .ref q3, .ref q4, .ref q5, .ref q6, .int 0, .int 1, .ref q7, .int 0, .ref q8, .null, .ref q9, .null, .ref q10, .ref q11, .ref q12, .ref q13, .ref q14, .int 0, .ref q15, .ref q16, .ref q17, .ref q18, .ref q19, .int 0, .int 0]))]) [0] (by decide) rfl
  have hKc := hK.sub (tys' := []) [] rfl
  have hFc := va_free (wc := [(q0, .inr (15, [.ref q1, .ref q2, .ref q3, .ref q4, .ref q5, .ref q6, .int 0, .int 1, .ref q7, .int 0, .ref q8, .null, .ref q9, .null, .ref q10, .ref q11, .ref q12, .ref q13, .ref q14, .int 0, .ref q15, .ref q16, .ref q17, .ref q18, .ref q19, .int 0, .int 0]))]) hD hS hA [0] rfl
  refine va_calli (va_runV (As := [.int 0, .int 1]) (rest := []) ⟨hx, hb, hml, hown, hts⟩ (c_X13_no l dC dI q0 q1 q2 q3 q4 q5 q6 q7 q8 q9 q10 q11 q12 q13 q14 q15 q16 q17 q18 q19 H.size  ) (cwV 2 hts gX13_add_X13_no rfl rfl rfl (by decide +kernel) ⟨Nat.le_of_ble_eq_true rfl, Nat.le_of_ble_eq_true rfl⟩) ⟨zB_blind, va_recv hK hP (ci := 15) (q0 := 0) rfl rfl, (zPre hPc hDc hKc hS hFc hZ hN)⟩ rfl rfl hl.1 rfl (lv_room (Nat.le_of_ble_eq_true rfl)) dX13_add_29 ⟨Nat.le_of_ble_eq_true rfl, Nat.le_of_ble_eq_true rfl⟩) hS (fun q _ h => hFc q h) hFc (fun r u t H1 locs ht hvm hw hB hz1 hk1 hS => ?_)
  subst hw
  obtain ⟨hP1, hK1, hD1⟩ := hB
  rw [ht] at hP1
  have hK1 := va_K.moved hvm.symm hK1
  obtain ⟨hP, hD⟩ := va_join (wr := []) (w1 := [(q0, .inr (15, [.ref q1, .ref q2, .ref q3, .ref q4, .ref q5, .ref q6, .int 0, .int 1, .ref q7, .int 0, .ref q8, .null, .ref q9, .null, .ref q10, .ref q11, .ref q12, .ref q13, .ref q14, .int 1, .ref q15, .ref q16, .ref q17, .ref q18, .ref q19, .int 0, .int 0]))]) hP hD [0] [] rfl rfl (by decide) (by decide) hk1 hFc hP1 hD1
  have hK := (hK.sub (tys' := []) [] rfl).app hK1
  generalize H1 = H at hP hS ⊢
  have hP : va_P (dC, dI) vwCl [(q0, .inr (15, [.ref q1, .ref q2, .ref q3, .ref q4, .ref q5, .ref q6, .int 0, .int 1, .ref q7, .int 0, .ref q8, .null, .ref q9, .null, .ref q10, .ref q11, .ref q12, .ref q13, .ref q14, .int 1, .ref q15, .ref q16, .ref q17, .ref q18, .ref q19, .int 0, .int 0]))] H := hP
  have hD : va_D A [(q0, .inr (15, [.ref q1, .ref q2, .ref q3, .ref q4, .ref q5, .ref q6, .int 0, .int 1, .ref q7, .int 0, .ref q8, .null, .ref q9, .null, .ref q10, .ref q11, .ref q12, .ref q13, .ref q14, .int 1, .ref q15, .ref q16, .ref q17, .ref q18, .ref q19, .int 0, .int 0]))] := hD
  have hK : va_K (dC, dI) vwCl [] s := hK
  refine W.widen (k := 0) (n := 0) (Nat.le_of_ble_eq_true rfl) (Nat.le_of_ble_eq_true rfl) ?_
  refine lv_if_ne (tgt := 57) hx hb dX13_add_32 (by decide) (fun _ => ?_) (fun h9 => absurd h9 (show ¬ (1 : Int32) = (0 : Int32) by decide +kernel))
  refine lv_iconst (v := 0) hx hb dX13_add_57 (by decide +kernel) ?_
  have hP9 := hP.sub (ws' := [(q0, .inr (15, [.ref q1, .ref q2, .ref q3, .ref q4, .ref q5, .ref q6, .int 0, .int 1, .ref q7, .int 0, .ref q8, .null, .ref q9, .null, .ref q10, .ref q11, .ref q12, .ref q13, .ref q14, .int 1, .ref q15, .ref q16, .ref q17, .ref q18, .ref q19, .int 0, .int 0]))]) [0] rfl
  have hD9 := hD.sub (ws' := [(q0, .inr (15, [.ref q1, .ref q2, .ref q3, .ref q4, .ref q5, .ref q6, .int 0, .int 1, .ref q7, .int 0, .ref q8, .null, .ref q9, .null, .ref q10, .ref q11, .ref q12, .ref q13, .ref q14, .int 1, .ref q15, .ref q16, .ref q17, .ref q18, .ref q19, .int 0, .int 0]))]) [0] (by decide) rfl
  have hK9 := hK.sub (tys' := []) [] rfl
  exact W.iret (v := 0) hx hb hr (fun t ht hW => ⟨⟨0, (), rfl, rfl, ⟨by rw [ht]; exact hP9, va_K.moved hW.alike hK9, hD9⟩⟩, hS.F ht⟩) hS.2.2 dX13_add_58
set_option maxHeartbeats 4000000 in
set_option maxRecDepth 100000 in
theorem c_X11_isTag_2 (l : Launch) (dC : Nat → ClassId) (dI : Nat → Nat → Nat) (sz : Nat) (p0 : Int32) (hc0 : ¬ p0 < 97) (hc1 : (122 : Int32) < p0) : Met l yX11_isTag wsX11_isTag ({ frames := 0, cells := 0, slots := 0, locals := 0 }) (va_Pc [.int p0] (zB (dC, dI) [] [] sz)) (va_Qi (fun (r : Int32) (_ : Unit) => 0 = r) (fun _ t => zE (dC, dI) [] [] (va_A [] sz) t) (va_A [] sz)) 0 0 (va_A [] sz) := by
  refine Met.ofW (cc := cX11_isTag) (maxL := 1) (ret := (some .boolean)) (by decide) rfl ?_
  intro p e s m args below meth c s₁ B hml hv
  obtain ⟨rfl, hsz, hP, hK, hD0, hZ, hN⟩ := hv
  have hx := B.exec
  have hb := B.bytes
  have hr := B.returns
  have hts := atoms_spec (ws := wsX11_isTag) B.pre
  have hown : s.vm.findClass RX11 = some m.cls := findClass_of_methodNamed B.named
  have hlocks := B.notSynchronized
  subst hsz
  have hD := hD0.self (sz := s.heap.size)
  generalize hAe : va_A [] s.heap.size = A at hD hZ ⊢
  have hA : ∀ q : Nat, s.heap.size ≤ q → A q := fun q h => by rw [← hAe]; exact Or.inr h
  have hS : va_S A s.heap s.heap [] := va_S.rf
  have hP : va_P (dC, dI) vwCl [] s.heap := hP
  have hl := lv_entry ([.int p0]) (n := 1) (Nat.le_of_ble_eq_true rfl)
  rw [lg_entry_eq]
  generalize (lg_sl ([.int p0]) ++ List.replicate (1 - (lg_sl ([.int p0])).length) Slot.unset).toArray = ls at hl ⊢
  have hl : lv_has ls 1 [(0, .int p0)] := hl
  refine lv_iload_n hx hb dX11_isTag_0 rfl (lv_at hl 0 rfl) ?_
  refine lv_bipush (v := 97) hx hb dX11_isTag_1 (by decide +kernel) ?_
  refine lv_icmp_lt (tgt := 16) hx hb dX11_isTag_3 (by decide) (fun h9 => absurd h9 hc0) (fun _ => ?_)
  refine lv_iload_n hx hb dX11_isTag_6 rfl (lv_at hl 0 rfl) ?_
  refine lv_bipush (v := 122) hx hb dX11_isTag_7 (by decide +kernel) ?_
  refine lv_icmp_gt (tgt := 16) hx hb dX11_isTag_9 (by decide) (fun _ => ?_) (fun h9 => absurd hc1 h9)
  refine lv_iconst (v := 0) hx hb dX11_isTag_16 (by decide +kernel) ?_
  have hP9 := hP.sub (ws' := []) [] rfl
  have hD9 := hD.sub (ws' := []) [] (by decide) rfl
  have hK9 := hK.sub (tys' := []) [] rfl
  exact W.zret (v := 0) hx hb hr (by decide +kernel) (fun t ht hW => ⟨⟨0, (), rfl, rfl, ⟨by rw [ht]; exact hP9, va_K.moved hW.alike hK9, hD9⟩⟩, hS.F ht⟩) hS.2.2 dX11_isTag_17
set_option maxHeartbeats 4000000 in
set_option maxRecDepth 100000 in
theorem c_X11_add_4 (l : Launch) (hfl : l.stackTraces = false) (dC : Nat → ClassId) (dI : Nat → Nat → Nat) (q0 : Nat) (sz : Nat) (p1 : Int32) (p2 : Int32) (hc0 : ¬ p1 < 0) (hc1 : ¬ (999 : Int32) < p1) (hc2 : ¬ p2 < 97) (hc3 : (122 : Int32) < p2) : vx_Met l yX11_add wsX11_add ({ frames := 6, cells := 1, slots := 6, locals := 90 }) (va_Pc [.ref q0, .int p1, .int p2] (zB (dC, dI) [] [] sz)) (va_Qi (fun (_ : Int32) (_ : Unit) => False) (fun _ _ => True) (va_A [] sz)) (vx_X (fun (_ : Unit) => True) (fun E _ _ => "java/lang/IllegalArgumentException" = E) (va_A [] sz)) 1 6 (va_A [] sz) := by
  refine vx_ofW (cc := cX11_add) (maxL := 4) (ret := (some .int)) (by decide) rfl ?_
  intro p e s m args below meth c s₁ B hml hnoex hv
  obtain ⟨rfl, hsz, hP, hK, hD0, hZ, hN⟩ := hv
  have hx := B.exec
  have hb := B.bytes
  have hr := B.returns
  have hts := atoms_spec (ws := wsX11_add) B.pre
  have hown : s.vm.findClass RX11 = some m.cls := findClass_of_methodNamed B.named
  have hlocks := B.notSynchronized
  subst hsz
  have hD := hD0.self (sz := s.heap.size)
  generalize hAe : va_A [] s.heap.size = A at hD hZ ⊢
  have hA : ∀ q : Nat, s.heap.size ≤ q → A q := fun q h => by rw [← hAe]; exact Or.inr h
  have hS : va_S A s.heap s.heap [] := va_S.rf
  have hP : va_P (dC, dI) vwCl [] s.heap := hP
  have hl := lv_entry ([.ref q0, .int p1, .int p2]) (n := 4) (Nat.le_of_ble_eq_true rfl)
  rw [lg_entry_eq]
  generalize (lg_sl ([.ref q0, .int p1, .int p2]) ++ List.replicate (4 - (lg_sl ([.ref q0, .int p1, .int p2])).length) Slot.unset).toArray = ls at hl ⊢
  have hl : lv_has ls 4 [(0, .ref q0), (1, .int p1), (2, .int p2)] := hl
  refine lv_iload_n hx hb dX11_add_0 rfl (lv_at hl 1 rfl) ?_
  refine lv_if_lt (tgt := 18) hx hb dX11_add_1 (by decide) (fun h9 => absurd h9 hc0) (fun _ => ?_)
  refine lv_iload_n hx hb dX11_add_4 rfl (lv_at hl 1 rfl) ?_
  refine lv_sipush (v := 999) hx hb dX11_add_5 (by decide +kernel) ?_
  refine lv_icmp_gt (tgt := 18) hx hb dX11_add_8 (by decide) (fun h9 => absurd h9 hc1) (fun _ => ?_)
  refine lv_iload_n hx hb dX11_add_11 rfl (lv_at hl 2 rfl) ?_
  have hPc := hP.sub (ws' := []) [] rfl
  have hDc := hD.sub (ws' := []) [] (by decide) rfl
  have hKc := hK.sub (tys' := []) [] rfl
  have hFc := va_free (wc := []) hD hS hA [] rfl
  refine va_calli (va_runS (As := [.int p2]) (rest := []) ⟨hx, hb, hml, hown, hts⟩ (c_X11_isTag_2 l dC dI  s.heap.size p2 hc2 hc3) (va_cwS 1 hts gX11_add_X11_isTag rfl rfl rfl (by decide +kernel) ⟨Nat.le_of_ble_eq_true rfl, Nat.le_of_ble_eq_true rfl⟩) ⟨zB_blind, (zPre hPc hDc hKc hS hFc hZ hN)⟩ rfl rfl hl.1 rfl (lv_room (Nat.le_of_ble_eq_true rfl)) dX11_add_12 ⟨Nat.le_of_ble_eq_true rfl, Nat.le_of_ble_eq_true rfl⟩) hS (fun q _ h => hFc q h) hFc (fun r u t H1 locs ht hvm hw hB hz1 hk1 hS => ?_)
  subst hw
  obtain ⟨hP1, hK1, hD1⟩ := hB
  rw [ht] at hP1
  have hK1 := va_K.moved hvm.symm hK1
  obtain ⟨hP, hD⟩ := va_join (wr := []) (w1 := []) hP hD [] [] rfl rfl (by decide) (by decide) hk1 hFc hP1 hD1
  have hK := (hK.sub (tys' := []) [] rfl).app hK1
  generalize H1 = H at hP hS ⊢
  have hP : va_P (dC, dI) vwCl [] H := hP
  have hD : va_D A [] := hD
  have hK : va_K (dC, dI) vwCl [] s := hK
  refine W.widen (k := 0) (n := 0) (Nat.le_of_ble_eq_true rfl) (Nat.le_of_ble_eq_true rfl) ?_
  refine lv_if_ne (tgt := 28) hx hb dX11_add_15 (by decide) (fun h9 => absurd (show (0 : Int32) = (0 : Int32) by decide +kernel) h9) (fun _ => ?_)
  obtain ⟨sa, hstr⟩ := hN.2.2.2.2.1 (RX11, 117, "no such value or tag") (by decide +kernel)
  refine vx_throwS (A := A) (cls := "java/lang/IllegalArgumentException") (names := ["java/lang/RuntimeException", "java/lang/Exception"]) (own := RX11) (text := "no such value or tag") hx hb hfl hown (by decide +kernel) (by decide +kernel) (hts (.classLink RX11 81 "java/lang/IllegalArgumentException") (by decide +kernel)) (hts (.initialized "java/lang/IllegalArgumentException") (by decide +kernel)) hstr (vx_hat (B := [Cond.castable "java/lang/IllegalArgumentException" "java/lang/IllegalArgumentException", Cond.declares (Bundle.initS "java/lang/RuntimeException"), Cond.declares (Bundle.initS "java/lang/Exception"), Cond.declares (Bundle.initS Bundle.tN)]) (fun w h => hts w (List.mem_cons_of_mem _ (List.mem_append_left _ (List.mem_append_left _ (List.mem_append_left _ (List.mem_append_right _ h)))))) (by decide +kernel) (zthr hN (by decide +kernel))) (by decide +kernel) hZ.1 hZ.2 hS (hl.1.trans hml.symm) dX11_add_18 dX11_add_21 dX11_add_22 dX11_add_24 dX11_add_27 (fun x h => (hnoex x h).elim) (Nat.lt_of_succ_le (Nat.le_of_ble_eq_true rfl)) (Nat.le_of_ble_eq_true rfl) (Nat.le_of_ble_eq_true rfl) (Nat.le_of_ble_eq_true rfl) hlocks ?_ hS.2.2 (Nat.le_refl _) (Nat.le_refl _)
  exact fun t hvm hz hk => ⟨(), trivial, rfl, zF hS hz hk⟩
set_option maxHeartbeats 4000000 in
set_option maxRecDepth 100000 in
theorem c_L_add_4 (l : Launch) (hfl : l.stackTraces = false) (dC : Nat → ClassId) (dI : Nat → Nat → Nat) (q0 q1 q2 q3 q4 q5 q6 q7 q8 q9 q10 q11 q12 q13 q14 : Nat) (sz : Nat) (p1 : Int32) (p2 : Int32) (hc0 : ¬ p1 < 0) (hc1 : ¬ (999 : Int32) < p1) (hc2 : ¬ p2 < 97) (hc3 : (122 : Int32) < p2) : Met l yL_add wsL_add ({ frames := 7, cells := 1, slots := 6, locals := 113 }) (va_Pc [.ref q0, .int p1, .int p2, .ref q1] (zB (dC, dI) [] [(q0, .inr (13, [.ref q2, .ref q3, .ref q4, .ref q5, .ref q6, .ref q7, .ref q8, .ref q9, .int 0, .ref q10, .ref q11, .ref q12, .ref q13, .ref q14]))] sz)) (va_Qi (fun (r : Int32) (_ : Unit) => 1 = r) (fun _ t => zE (dC, dI) [] [] (va_A [(q0, .inr (13, [.ref q2, .ref q3, .ref q4, .ref q5, .ref q6, .ref q7, .ref q8, .ref q9, .int 0, .ref q10, .ref q11, .ref q12, .ref q13, .ref q14]))] sz) t) (va_A [(q0, .inr (13, [.ref q2, .ref q3, .ref q4, .ref q5, .ref q6, .ref q7, .ref q8, .ref q9, .int 0, .ref q10, .ref q11, .ref q12, .ref q13, .ref q14]))] sz)) 1 6 (va_A [(q0, .inr (13, [.ref q2, .ref q3, .ref q4, .ref q5, .ref q6, .ref q7, .ref q8, .ref q9, .int 0, .ref q10, .ref q11, .ref q12, .ref q13, .ref q14]))] sz) := by
  refine va_MetW (cc := cL_add) (maxL := 5) (ret := (some .int)) (by decide) rfl ?_
  intro p e s m args below meth c s₁ B hml hv
  obtain ⟨rfl, hsz, hP, hK, hD0, hZ, hN⟩ := hv
  have hx := B.exec
  have hb := B.bytes
  have hr := B.returns
  have hts := atoms_spec (ws := wsL_add) B.pre
  have hown : s.vm.findClass RL = some m.cls := findClass_of_methodNamed B.named
  have hlocks := B.notSynchronized
  have htab := vx_table (x := yL_add) B (hts (.codeWith yL_add cL_add 5 (some .int) [(0, 10, 13, 13), (0, 10, 17, 15)]) List.mem_cons_self)
  subst hsz
  have hD := hD0.self (sz := s.heap.size)
  generalize hAe : va_A [(q0, .inr (13, [.ref q2, .ref q3, .ref q4, .ref q5, .ref q6, .ref q7, .ref q8, .ref q9, .int 0, .ref q10, .ref q11, .ref q12, .ref q13, .ref q14]))] s.heap.size = A at hD hZ ⊢
  have hA : ∀ q : Nat, s.heap.size ≤ q → A q := fun q h => by rw [← hAe]; exact Or.inr h
  have hS : va_S A s.heap s.heap [] := va_S.rf
  have hP : va_P (dC, dI) vwCl [(q0, .inr (13, [.ref q2, .ref q3, .ref q4, .ref q5, .ref q6, .ref q7, .ref q8, .ref q9, .int 0, .ref q10, .ref q11, .ref q12, .ref q13, .ref q14]))] s.heap := hP
  have hl := lv_entry ([.ref q0, .int p1, .int p2, .ref q1]) (n := 5) (Nat.le_of_ble_eq_true rfl)
  rw [lg_entry_eq]
  generalize (lg_sl ([.ref q0, .int p1, .int p2, .ref q1]) ++ List.replicate (5 - (lg_sl ([.ref q0, .int p1, .int p2, .ref q1])).length) Slot.unset).toArray = ls at hl ⊢
  have hl : lv_has ls 5 [(0, .ref q0), (1, .int p1), (2, .int p2), (3, .ref q1)] := hl
  refine lv_aload_n hx hb dL_add_0 rfl (lv_at hl 3 rfl) ?_
  refine lv_iconst (v := 0) hx hb dL_add_1 (by decide +kernel) ?_
  refine lv_aload_n hx hb dL_add_2 rfl (lv_at hl 0 rfl) ?_
  refine lv_iload_n hx hb dL_add_3 rfl (lv_at hl 1 rfl) ?_
  refine lv_iload_n hx hb dL_add_4 rfl (lv_at hl 2 rfl) ?_
  have hPc := hP.sub (ws' := []) [] rfl
  have hDc := hD.sub (ws' := []) [] (by decide) rfl
  have hKc := hK.sub (tys' := []) [] rfl
  have hFc := va_free (wc := []) hD hS hA [] rfl
  refine vx_calli (vx_runV (As := [.int p1, .int p2]) (rest := [.int 0, .ref q1]) ⟨hx, hb, hml, hown, hts⟩ (c_X11_add_4 l hfl dC dI q0 s.heap.size p1 p2 hc0 hc1 hc2 hc3) (cwV 2 hts gL_add_X11_add rfl rfl rfl (by decide +kernel) ⟨Nat.le_of_ble_eq_true rfl, Nat.le_of_ble_eq_true rfl⟩) ⟨zB_blind, va_recv hK hP (ci := 13) (q0 := 0) rfl rfl, (zPre hPc hDc hKc hS hFc hZ hN)⟩ rfl rfl hl.1 rfl (lv_room (Nat.le_of_ble_eq_true rfl)) dL_add_5 ⟨Nat.le_of_ble_eq_true rfl, Nat.le_of_ble_eq_true rfl⟩) hS (fun q _ h => hFc q h) hFc (fun q _ h => hFc q h) (fun E ce qx u t H1 locs1 ht hvm hpx hBX hz1 hk1 hS hq9 hv9 hcl9 => ?_) (fun r u t H1 locs1 _ _ hw => hw.elim)
  subst hBX
  refine vx_catch (name := "java/lang/IllegalArgumentException") hown [] ⟨0, 10, 13, 13⟩ [⟨0, 10, 17, 15⟩] (by rw [htab]; rfl) (fun z h => absurd h List.not_mem_nil) rfl (by decide) (hts (.classLink RL 13 "java/lang/IllegalArgumentException") (by decide +kernel)) (va_Nw.use rfl (hN.2.1 "java/lang/IllegalArgumentException" (by decide +kernel))) hq9 hv9 hcl9 ?_
  generalize H1 = H at hS ⊢
  refine W.widen (k := 1) (n := 6) (Nat.le_of_ble_eq_true rfl) (Nat.le_of_ble_eq_true rfl) ?_
  have hP : va_P (dC, dI) vwCl [] H := zP_nil
  have hD : va_D A [] := zD_nil
  have hK := hK.sub (tys' := []) [] rfl
  refine lv_astore (lv' := [(4, .ref qx), (0, .ref q0), (1, .int p1), (2, .int p2), (3, .ref q1)]) hx hb dL_add_13 hl (by decide) rfl (fun ls hl => ?_)
  refine lv_iconst (v := 1) hx hb dL_add_15 (by decide +kernel) ?_
  have hP9 := hP.sub (ws' := []) [] rfl
  have hD9 := hD.sub (ws' := []) [] (by decide) rfl
  have hK9 := hK.sub (tys' := []) [] rfl
  exact W.iret (v := 1) hx hb hr (fun t ht hW => ⟨⟨1, (), rfl, rfl, ⟨by rw [ht]; exact hP9, va_K.moved hW.alike hK9, hD9⟩⟩, hS.F ht⟩) hS.2.2 dL_add_16
set_option maxHeartbeats 4000000 in
set_option maxRecDepth 100000 in
theorem c_X13_in_10 (l : Launch) (dC : Nat → ClassId) (dI : Nat → Nat → Nat) (sz : Nat) (p0 : Int32) (hc0 : ¬ p0 < 97) (hc1 : (122 : Int32) < p0) : Met l yX13_in wsX13_in ({ frames := 0, cells := 0, slots := 0, locals := 0 }) (va_Pc [.int p0, .int 97, .int 122] (zB (dC, dI) [] [] sz)) (va_Qi (fun (r : Int32) (_ : Unit) => 0 = r) (fun _ t => zE (dC, dI) [] [] (va_A [] sz) t) (va_A [] sz)) 0 0 (va_A [] sz) := by
  refine Met.ofW (cc := cX13_in) (maxL := 3) (ret := (some .boolean)) (by decide) rfl ?_
  intro p e s m args below meth c s₁ B hml hv
  obtain ⟨rfl, hsz, hP, hK, hD0, hZ, hN⟩ := hv
  have hx := B.exec
  have hb := B.bytes
  have hr := B.returns
  have hts := atoms_spec (ws := wsX13_in) B.pre
  have hown : s.vm.findClass RX13 = some m.cls := findClass_of_methodNamed B.named
  have hlocks := B.notSynchronized
  subst hsz
  have hD := hD0.self (sz := s.heap.size)
  generalize hAe : va_A [] s.heap.size = A at hD hZ ⊢
  have hA : ∀ q : Nat, s.heap.size ≤ q → A q := fun q h => by rw [← hAe]; exact Or.inr h
  have hS : va_S A s.heap s.heap [] := va_S.rf
  have hP : va_P (dC, dI) vwCl [] s.heap := hP
  have hl := lv_entry ([.int p0, .int 97, .int 122]) (n := 3) (Nat.le_of_ble_eq_true rfl)
  rw [lg_entry_eq]
  generalize (lg_sl ([.int p0, .int 97, .int 122]) ++ List.replicate (3 - (lg_sl ([.int p0, .int 97, .int 122])).length) Slot.unset).toArray = ls at hl ⊢
  have hl : lv_has ls 3 [(0, .int p0), (1, .int 97), (2, .int 122)] := hl
  refine lv_iload_n hx hb dX13_in_0 rfl (lv_at hl 0 rfl) ?_
  refine lv_iload_n hx hb dX13_in_1 rfl (lv_at hl 1 rfl) ?_
  refine lv_icmp_lt (tgt := 14) hx hb dX13_in_2 (by decide) (fun h9 => absurd h9 hc0) (fun _ => ?_)
  refine lv_iload_n hx hb dX13_in_5 rfl (lv_at hl 0 rfl) ?_
  refine lv_iload_n hx hb dX13_in_6 rfl (lv_at hl 2 rfl) ?_
  refine lv_icmp_gt (tgt := 14) hx hb dX13_in_7 (by decide) (fun _ => ?_) (fun h9 => absurd hc1 h9)
  refine lv_iconst (v := 0) hx hb dX13_in_14 (by decide +kernel) ?_
  have hP9 := hP.sub (ws' := []) [] rfl
  have hD9 := hD.sub (ws' := []) [] (by decide) rfl
  have hK9 := hK.sub (tys' := []) [] rfl
  exact W.zret (v := 0) hx hb hr (by decide +kernel) (fun t ht hW => ⟨⟨0, (), rfl, rfl, ⟨by rw [ht]; exact hP9, va_K.moved hW.alike hK9, hD9⟩⟩, hS.F ht⟩) hS.2.2 dX13_in_15
set_option maxHeartbeats 4000000 in
set_option maxRecDepth 100000 in
theorem c_X13_add_4 (l : Launch) (dC : Nat → ClassId) (dI : Nat → Nat → Nat) (q0 q1 q2 q3 q4 q5 q6 q7 q8 q9 q10 q11 q12 q13 q14 q15 q16 q17 q18 q19 : Nat) (sz : Nat) (p1 : Int32) (p2 : Int32) (hc0 : ¬ p1 < 0) (hc1 : ¬ (999 : Int32) < p1) (hc2 : ¬ p2 < 97) (hc3 : (122 : Int32) < p2) : Met l yX13_add wsX13_add ({ frames := 1, cells := 0, slots := 0, locals := 22 }) (va_Pc [.ref q0, .int p1, .int p2] (zB (dC, dI) [] [(q0, .inr (15, [.ref q1, .ref q2, .ref q3, .ref q4, .ref q5, .ref q6, .int 0, .int 1, .ref q7, .int 0, .ref q8, .null, .ref q9, .null, .ref q10, .ref q11, .ref q12, .ref q13, .ref q14, .int 0, .ref q15, .ref q16, .ref q17, .ref q18, .ref q19, .int 0, .int 0]))] sz)) (va_Qi (fun (r : Int32) (_ : Unit) => 0 = r) (fun _ t => zE (dC, dI) [] [(q0, .inr (15, [.ref q1, .ref q2, .ref q3, .ref q4, .ref q5, .ref q6, .int 0, .int 1, .ref q7, .int 0, .ref q8, .null, .ref q9, .null, .ref q10, .ref q11, .ref q12, .ref q13, .ref q14, .int 1, .ref q15, .ref q16, .ref q17, .ref q18, .ref q19, .int 0, .int 0]))] (va_A [(q0, .inr (15, [.ref q1, .ref q2, .ref q3, .ref q4, .ref q5, .ref q6, .int 0, .int 1, .ref q7, .int 0, .ref q8, .null, .ref q9, .null, .ref q10, .ref q11, .ref q12, .ref q13, .ref q14, .int 0, .ref q15, .ref q16, .ref q17, .ref q18, .ref q19, .int 0, .int 0]))] sz) t) (va_A [(q0, .inr (15, [.ref q1, .ref q2, .ref q3, .ref q4, .ref q5, .ref q6, .int 0, .int 1, .ref q7, .int 0, .ref q8, .null, .ref q9, .null, .ref q10, .ref q11, .ref q12, .ref q13, .ref q14, .int 0, .ref q15, .ref q16, .ref q17, .ref q18, .ref q19, .int 0, .int 0]))] sz)) 0 0 (va_A [(q0, .inr (15, [.ref q1, .ref q2, .ref q3, .ref q4, .ref q5, .ref q6, .int 0, .int 1, .ref q7, .int 0, .ref q8, .null, .ref q9, .null, .ref q10, .ref q11, .ref q12, .ref q13, .ref q14, .int 0, .ref q15, .ref q16, .ref q17, .ref q18, .ref q19, .int 0, .int 0]))] sz) := by
  refine Met.ofW (cc := cX13_add) (maxL := 3) (ret := (some .int)) (by decide) rfl ?_
  intro p e s m args below meth c s₁ B hml hv
  obtain ⟨rfl, hsz, hP, hK, hD0, hZ, hN⟩ := hv
  have hx := B.exec
  have hb := B.bytes
  have hr := B.returns
  have hts := atoms_spec (ws := wsX13_add) B.pre
  have hown : s.vm.findClass RX13 = some m.cls := findClass_of_methodNamed B.named
  have hlocks := B.notSynchronized
  subst hsz
  have hD := hD0.self (sz := s.heap.size)
  generalize hAe : va_A [(q0, .inr (15, [.ref q1, .ref q2, .ref q3, .ref q4, .ref q5, .ref q6, .int 0, .int 1, .ref q7, .int 0, .ref q8, .null, .ref q9, .null, .ref q10, .ref q11, .ref q12, .ref q13, .ref q14, .int 0, .ref q15, .ref q16, .ref q17, .ref q18, .ref q19, .int 0, .int 0]))] s.heap.size = A at hD hZ ⊢
  have hA : ∀ q : Nat, s.heap.size ≤ q → A q := fun q h => by rw [← hAe]; exact Or.inr h
  have hS : va_S A s.heap s.heap [] := va_S.rf
  have hP : va_P (dC, dI) vwCl [(q0, .inr (15, [.ref q1, .ref q2, .ref q3, .ref q4, .ref q5, .ref q6, .int 0, .int 1, .ref q7, .int 0, .ref q8, .null, .ref q9, .null, .ref q10, .ref q11, .ref q12, .ref q13, .ref q14, .int 0, .ref q15, .ref q16, .ref q17, .ref q18, .ref q19, .int 0, .int 0]))] s.heap := hP
  have hl := lv_entry ([.ref q0, .int p1, .int p2]) (n := 3) (Nat.le_of_ble_eq_true rfl)
  rw [lg_entry_eq]
  generalize (lg_sl ([.ref q0, .int p1, .int p2]) ++ List.replicate (3 - (lg_sl ([.ref q0, .int p1, .int p2])).length) Slot.unset).toArray = ls at hl ⊢
  have hl : lv_has ls 3 [(0, .ref q0), (1, .int p1), (2, .int p2)] := hl
  refine lv_aload_n hx hb dX13_add_0 rfl (lv_at hl 0 rfl) ?_
  refine lv_iload_n hx hb dX13_add_1 rfl (lv_at hl 1 rfl) ?_
  refine lv_iconst (v := 0) hx hb dX13_add_2 (by decide +kernel) ?_
  refine lv_sipush (v := 999) hx hb dX13_add_3 (by decide +kernel) ?_
  have hPc := hP.sub (ws' := []) [] rfl
  have hDc := hD.sub (ws' := []) [] (by decide) rfl
  have hKc := hK.sub (tys' := []) [] rfl
  have hFc := va_free (wc := []) hD hS hA [] rfl
  refine va_calli (va_runS (As := [.int p1, .int 0, .int 999]) (rest := [.ref q0]) ⟨hx, hb, hml, hown, hts⟩ (c_X13_in_8 l dC dI  s.heap.size p1 hc0 hc1) (va_cwS 3 hts gX13_add_X13_in rfl rfl rfl (by decide +kernel) ⟨Nat.le_of_ble_eq_true rfl, Nat.le_of_ble_eq_true rfl⟩) ⟨zB_blind, (zPre hPc hDc hKc hS hFc hZ hN)⟩ rfl rfl hl.1 rfl (lv_room (Nat.le_of_ble_eq_true rfl)) dX13_add_6 ⟨Nat.le_of_ble_eq_true rfl, Nat.le_of_ble_eq_true rfl⟩) hS (fun q _ h => hFc q h) hFc (fun r u t H1 locs ht hvm hw hB hz1 hk1 hS => ?_)
  subst hw
  obtain ⟨hP1, hK1, hD1⟩ := hB
  rw [ht] at hP1
  have hK1 := va_K.moved hvm.symm hK1
  obtain ⟨hP, hD⟩ := va_join (wr := [(q0, .inr (15, [.ref q1, .ref q2, .ref q3, .ref q4, .ref q5, .ref q6, .int 0, .int 1, .ref q7, .int 0, .ref q8, .null, .ref q9, .null, .ref q10, .ref q11, .ref q12, .ref q13, .ref q14, .int 0, .ref q15, .ref q16, .ref q17, .ref q18, .ref q19, .int 0, .int 0]))]) (w1 := []) hP hD [] [0] rfl rfl (by decide) (by decide) hk1 hFc hP1 hD1
  have hK := (hK.sub (tys' := []) [] rfl).app hK1
  generalize H1 = H at hP hS ⊢
  have hP : va_P (dC, dI) vwCl [(q0, .inr (15, [.ref q1, .ref q2, .ref q3, .ref q4, .ref q5, .ref q6, .int 0, .int 1, .ref q7, .int 0, .ref q8, .null, .ref q9, .null, .ref q10, .ref q11, .ref q12, .ref q13, .ref q14, .int 0, .ref q15, .ref q16, .ref q17, .ref q18, .ref q19, .int 0, .int 0]))] H := hP
  have hD : va_D A [(q0, .inr (15, [.ref q1, .ref q2, .ref q3, .ref q4, .ref q5, .ref q6, .int 0, .int 1, .ref q7, .int 0, .ref q8, .null, .ref q9, .null, .ref q10, .ref q11, .ref q12, .ref q13, .ref q14, .int 0, .ref q15, .ref q16, .ref q17, .ref q18, .ref q19, .int 0, .int 0]))] := hD
  have hK : va_K (dC, dI) vwCl [] s := hK
  refine W.widen (k := 0) (n := 0) (Nat.le_of_ble_eq_true rfl) (Nat.le_of_ble_eq_true rfl) ?_
  refine lv_if_eq (tgt := 27) hx hb dX13_add_9 (by decide) (fun h9 => absurd h9 (show ¬ (1 : Int32) = (0 : Int32) by decide +kernel)) (fun _ => ?_)
  refine lv_iload_n hx hb dX13_add_12 rfl (lv_at hl 2 rfl) ?_
  refine lv_bipush (v := 97) hx hb dX13_add_13 (by decide +kernel) ?_
  refine lv_bipush (v := 122) hx hb dX13_add_15 (by decide +kernel) ?_
  have hPc := hP.sub (ws' := []) [] rfl
  have hDc := hD.sub (ws' := []) [] (by decide) rfl
  have hKc := hK.sub (tys' := []) [] rfl
  have hFc := va_free (wc := []) hD hS hA [] rfl
  refine va_calli (va_runS (As := [.int p2, .int 97, .int 122]) (rest := [.ref q0]) ⟨hx, hb, hml, hown, hts⟩ (c_X13_in_10 l dC dI  H.size p2 hc2 hc3) (va_cwS 3 hts gX13_add_X13_in rfl rfl rfl (by decide +kernel) ⟨Nat.le_of_ble_eq_true rfl, Nat.le_of_ble_eq_true rfl⟩) ⟨zB_blind, (zPre hPc hDc hKc hS hFc hZ hN)⟩ rfl rfl hl.1 rfl (lv_room (Nat.le_of_ble_eq_true rfl)) dX13_add_17 ⟨Nat.le_of_ble_eq_true rfl, Nat.le_of_ble_eq_true rfl⟩) hS (fun q _ h => hFc q h) hFc (fun r u t H1 locs ht hvm hw hB hz1 hk1 hS => ?_)
  subst hw
  obtain ⟨hP1, hK1, hD1⟩ := hB
  rw [ht] at hP1
  have hK1 := va_K.moved hvm.symm hK1
  obtain ⟨hP, hD⟩ := va_join (wr := [(q0, .inr (15, [.ref q1, .ref q2, .ref q3, .ref q4, .ref q5, .ref q6, .int 0, .int 1, .ref q7, .int 0, .ref q8, .null, .ref q9, .null, .ref q10, .ref q11, .ref q12, .ref q13, .ref q14, .int 0, .ref q15, .ref q16, .ref q17, .ref q18, .ref q19, .int 0, .int 0]))]) (w1 := []) hP hD [] [0] rfl rfl (by decide) (by decide) hk1 hFc hP1 hD1
  have hK := (hK.sub (tys' := []) [] rfl).app hK1
  generalize H1 = H at hP hS ⊢
  have hP : va_P (dC, dI) vwCl [(q0, .inr (15, [.ref q1, .ref q2, .ref q3, .ref q4, .ref q5, .ref q6, .int 0, .int 1, .ref q7, .int 0, .ref q8, .null, .ref q9, .null, .ref q10, .ref q11, .ref q12, .ref q13, .ref q14, .int 0, .ref q15, .ref q16, .ref q17, .ref q18, .ref q19, .int 0, .int 0]))] H := hP
  have hD : va_D A [(q0, .inr (15, [.ref q1, .ref q2, .ref q3, .ref q4, .ref q5, .ref q6, .int 0, .int 1, .ref q7, .int 0, .ref q8, .null, .ref q9, .null, .ref q10, .ref q11, .ref q12, .ref q13, .ref q14, .int 0, .ref q15, .ref q16, .ref q17, .ref q18, .ref q19, .int 0, .int 0]))] := hD
  have hK : va_K (dC, dI) vwCl [] s := hK
  refine W.widen (k := 0) (n := 0) (Nat.le_of_ble_eq_true rfl) (Nat.le_of_ble_eq_true rfl) ?_
  refine lv_if_eq (tgt := 27) hx hb dX13_add_20 (by decide) (fun _ => ?_) (fun h9 => absurd (show (0 : Int32) = (0 : Int32) by decide +kernel) h9)
  refine lv_iconst (v := 0) hx hb dX13_add_27 (by decide +kernel) ?_
  refine lv_iconst (v := 1) hx hb dX13_add_28 (by decide +kernel) ?_
  have hPc := hP.sub (ws' := [(q0, .inr (15, [.ref q1, .ref q2, .ref q3, .ref q4, .ref q5, .ref q6, .int 0, .int 1, .ref q7, .int 0, .ref q8, .null, .ref q9, .null, .ref q10, .ref q11, .ref q12, .ref q13, .ref q14, .int 0, .ref q15, .ref q16, .ref q17, .ref q18, .ref q19, .int 0, .int 0]))]) [0] rfl
  have hDc := hD.sub (ws' := [(q0, .inr (15, [.ref q1, .ref q2, .ref q3, .ref q4, .ref q5, .ref q6, .int 0, .int 1, .ref q7, .int 0, .ref q8, .null, .ref q9, .null, .ref q10, .ref q11, .ref q12, .ref q13, .ref q14, .int 0, .ref q15, .ref q16, .ref q17, .ref q18, .ref q19, .int 0, .int 0]))]) [0] (by decide) rfl
  have hKc := hK.sub (tys' := []) [] rfl
  have hFc := va_free (wc := [(q0, .inr (15, [.ref q1, .ref q2, .ref q3, .ref q4, .ref q5, .ref q6, .int 0, .int 1, .ref q7, .int 0, .ref q8, .null, .ref q9, .null, .ref q10, .ref q11, .ref q12, .ref q13, .ref q14, .int 0, .ref q15, .ref q16, .ref q17, .ref q18, .ref q19, .int 0, .int 0]))]) hD hS hA [0] rfl
  refine va_calli (va_runV (As := [.int 0, .int 1]) (rest := []) ⟨hx, hb, hml, hown, hts⟩ (c_X13_no l dC dI q0 q1 q2 q3 q4 q5 q6 q7 q8 q9 q10 q11 q12 q13 q14 q15 q16 q17 q18 q19 H.size  ) (cwV 2 hts gX13_add_X13_no rfl rfl rfl (by decide +kernel) ⟨Nat.le_of_ble_eq_true rfl, Nat.le_of_ble_eq_true rfl⟩) ⟨zB_blind, va_recv hK hP (ci := 15) (q0 := 0) rfl rfl, (zPre hPc hDc hKc hS hFc hZ hN)⟩ rfl rfl hl.1 rfl (lv_room (Nat.le_of_ble_eq_true rfl)) dX13_add_29 ⟨Nat.le_of_ble_eq_true rfl, Nat.le_of_ble_eq_true rfl⟩) hS (fun q _ h => hFc q h) hFc (fun r u t H1 locs ht hvm hw hB hz1 hk1 hS => ?_)
  subst hw
  obtain ⟨hP1, hK1, hD1⟩ := hB
  rw [ht] at hP1
  have hK1 := va_K.moved hvm.symm hK1
  obtain ⟨hP, hD⟩ := va_join (wr := []) (w1 := [(q0, .inr (15, [.ref q1, .ref q2, .ref q3, .ref q4, .ref q5, .ref q6, .int 0, .int 1, .ref q7, .int 0, .ref q8, .null, .ref q9, .null, .ref q10, .ref q11, .ref q12, .ref q13, .ref q14, .int 1, .ref q15, .ref q16, .ref q17, .ref q18, .ref q19, .int 0, .int 0]))]) hP hD [0] [] rfl rfl (by decide) (by decide) hk1 hFc hP1 hD1
  have hK := (hK.sub (tys' := []) [] rfl).app hK1
  generalize H1 = H at hP hS ⊢
  have hP : va_P (dC, dI) vwCl [(q0, .inr (15, [.ref q1, .ref q2, .ref q3, .ref q4, .ref q5, .ref q6, .int 0, .int 1, .ref q7, .int 0, .ref q8, .null, .ref q9, .null, .ref q10, .ref q11, .ref q12, .ref q13, .ref q14, .int 1, .ref q15, .ref q16, .ref q17, .ref q18, .ref q19, .int 0, .int 0]))] H := hP
  have hD : va_D A [(q0, .inr (15, [.ref q1, .ref q2, .ref q3, .ref q4, .ref q5, .ref q6, .int 0, .int 1, .ref q7, .int 0, .ref q8, .null, .ref q9, .null, .ref q10, .ref q11, .ref q12, .ref q13, .ref q14, .int 1, .ref q15, .ref q16, .ref q17, .ref q18, .ref q19, .int 0, .int 0]))] := hD
  have hK : va_K (dC, dI) vwCl [] s := hK
  refine W.widen (k := 0) (n := 0) (Nat.le_of_ble_eq_true rfl) (Nat.le_of_ble_eq_true rfl) ?_
  refine lv_if_ne (tgt := 57) hx hb dX13_add_32 (by decide) (fun _ => ?_) (fun h9 => absurd h9 (show ¬ (1 : Int32) = (0 : Int32) by decide +kernel))
  refine lv_iconst (v := 0) hx hb dX13_add_57 (by decide +kernel) ?_
  have hP9 := hP.sub (ws' := [(q0, .inr (15, [.ref q1, .ref q2, .ref q3, .ref q4, .ref q5, .ref q6, .int 0, .int 1, .ref q7, .int 0, .ref q8, .null, .ref q9, .null, .ref q10, .ref q11, .ref q12, .ref q13, .ref q14, .int 1, .ref q15, .ref q16, .ref q17, .ref q18, .ref q19, .int 0, .int 0]))]) [0] rfl
  have hD9 := hD.sub (ws' := [(q0, .inr (15, [.ref q1, .ref q2, .ref q3, .ref q4, .ref q5, .ref q6, .int 0, .int 1, .ref q7, .int 0, .ref q8, .null, .ref q9, .null, .ref q10, .ref q11, .ref q12, .ref q13, .ref q14, .int 1, .ref q15, .ref q16, .ref q17, .ref q18, .ref q19, .int 0, .int 0]))]) [0] (by decide) rfl
  have hK9 := hK.sub (tys' := []) [] rfl
  exact W.iret (v := 0) hx hb hr (fun t ht hW => ⟨⟨0, (), rfl, rfl, ⟨by rw [ht]; exact hP9, va_K.moved hW.alike hK9, hD9⟩⟩, hS.F ht⟩) hS.2.2 dX13_add_58
set_option maxHeartbeats 4000000 in
set_option maxRecDepth 100000 in
theorem c_X11_isTag_3 (l : Launch) (dC : Nat → ClassId) (dI : Nat → Nat → Nat) (sz : Nat) (p0 : Int32) (hc0 : ¬ p0 < 97) (hc1 : ¬ (122 : Int32) < p0) : Met l yX11_isTag wsX11_isTag ({ frames := 0, cells := 0, slots := 0, locals := 0 }) (va_Pc [.int p0] (zB (dC, dI) [] [] sz)) (va_Qi (fun (r : Int32) (_ : Unit) => 1 = r) (fun _ t => zE (dC, dI) [] [] (va_A [] sz) t) (va_A [] sz)) 0 0 (va_A [] sz) := by
  refine Met.ofW (cc := cX11_isTag) (maxL := 1) (ret := (some .boolean)) (by decide) rfl ?_
  intro p e s m args below meth c s₁ B hml hv
  obtain ⟨rfl, hsz, hP, hK, hD0, hZ, hN⟩ := hv
  have hx := B.exec
  have hb := B.bytes
  have hr := B.returns
  have hts := atoms_spec (ws := wsX11_isTag) B.pre
  have hown : s.vm.findClass RX11 = some m.cls := findClass_of_methodNamed B.named
  have hlocks := B.notSynchronized
  subst hsz
  have hD := hD0.self (sz := s.heap.size)
  generalize hAe : va_A [] s.heap.size = A at hD hZ ⊢
  have hA : ∀ q : Nat, s.heap.size ≤ q → A q := fun q h => by rw [← hAe]; exact Or.inr h
  have hS : va_S A s.heap s.heap [] := va_S.rf
  have hP : va_P (dC, dI) vwCl [] s.heap := hP
  have hl := lv_entry ([.int p0]) (n := 1) (Nat.le_of_ble_eq_true rfl)
  rw [lg_entry_eq]
  generalize (lg_sl ([.int p0]) ++ List.replicate (1 - (lg_sl ([.int p0])).length) Slot.unset).toArray = ls at hl ⊢
  have hl : lv_has ls 1 [(0, .int p0)] := hl
  refine lv_iload_n hx hb dX11_isTag_0 rfl (lv_at hl 0 rfl) ?_
  refine lv_bipush (v := 97) hx hb dX11_isTag_1 (by decide +kernel) ?_
  refine lv_icmp_lt (tgt := 16) hx hb dX11_isTag_3 (by decide) (fun h9 => absurd h9 hc0) (fun _ => ?_)
  refine lv_iload_n hx hb dX11_isTag_6 rfl (lv_at hl 0 rfl) ?_
  refine lv_bipush (v := 122) hx hb dX11_isTag_7 (by decide +kernel) ?_
  refine lv_icmp_gt (tgt := 16) hx hb dX11_isTag_9 (by decide) (fun h9 => absurd h9 hc1) (fun _ => ?_)
  refine lv_iconst (v := 1) hx hb dX11_isTag_12 (by decide +kernel) ?_
  refine lv_goto (tgt := 17) hx hb dX11_isTag_13 (by decide) ?_
  have hP9 := hP.sub (ws' := []) [] rfl
  have hD9 := hD.sub (ws' := []) [] (by decide) rfl
  have hK9 := hK.sub (tys' := []) [] rfl
  exact W.zret (v := 1) hx hb hr (by decide +kernel) (fun t ht hW => ⟨⟨1, (), rfl, rfl, ⟨by rw [ht]; exact hP9, va_K.moved hW.alike hK9, hD9⟩⟩, hS.F ht⟩) hS.2.2 dX11_isTag_17
set_option maxHeartbeats 4000000 in
set_option maxRecDepth 100000 in
theorem c_X8_came (l : Launch) (dC : Nat → ClassId) (dI : Nat → Nat → Nat) (q0 q1 : Nat) (sz : Nat) : Met l yX8_came wsX8_came ({ frames := 0, cells := 0, slots := 0, locals := 0 }) (va_Pc [.ref q0] (zB (dC, dI) [] [(q0, .inr (11, [.ref q1, .int 0, .int 1]))] sz)) (va_Qi (fun (r : Int32) (_ : Unit) => 0 = r) (fun _ t => zE (dC, dI) [] [(q0, .inr (11, [.ref q1, .int 0, .int 1]))] (va_A [(q0, .inr (11, [.ref q1, .int 0, .int 1]))] sz) t) (va_A [(q0, .inr (11, [.ref q1, .int 0, .int 1]))] sz)) 0 0 (va_A [(q0, .inr (11, [.ref q1, .int 0, .int 1]))] sz) := by
  refine Met.ofW (cc := cX8_came) (maxL := 1) (ret := (some .int)) (by decide) rfl ?_
  intro p e s m args below meth c s₁ B hml hv
  obtain ⟨rfl, hsz, hP, hK, hD0, hZ, hN⟩ := hv
  have hx := B.exec
  have hb := B.bytes
  have hr := B.returns
  have hts := atoms_spec (ws := wsX8_came) B.pre
  have hown : s.vm.findClass RX8 = some m.cls := findClass_of_methodNamed B.named
  have hlocks := B.notSynchronized
  subst hsz
  have hD := hD0.self (sz := s.heap.size)
  generalize hAe : va_A [(q0, .inr (11, [.ref q1, .int 0, .int 1]))] s.heap.size = A at hD hZ ⊢
  have hA : ∀ q : Nat, s.heap.size ≤ q → A q := fun q h => by rw [← hAe]; exact Or.inr h
  have hS : va_S A s.heap s.heap [] := va_S.rf
  have hP : va_P (dC, dI) vwCl [(q0, .inr (11, [.ref q1, .int 0, .int 1]))] s.heap := hP
  have hl := lv_entry ([.ref q0]) (n := 1) (Nat.le_of_ble_eq_true rfl)
  rw [lg_entry_eq]
  generalize (lg_sl ([.ref q0]) ++ List.replicate (1 - (lg_sl ([.ref q0])).length) Slot.unset).toArray = ls at hl ⊢
  have hl : lv_has ls 1 [(0, .ref q0)] := hl
  refine lv_aload_n hx hb dX8_came_0 rfl (lv_at hl 0 rfl) ?_
  refine va_get (D := (dC, dI)) (ci := 11) (v := .int 0) (C := RX8) (T := TX8) (N := 3) hx hb hts (fun _ h => List.mem_cons_of_mem _ (List.mem_append_right _ h)) hown hK hP 0 rfl rfl 1 (by decide) (hts (.fieldLink RX8 17 "Seekwell$Shelf" "came" "I") (by decide +kernel)) (fun _ h9 => h9) rfl dX8_came_1 ?_
  have hP9 := hP.sub (ws' := [(q0, .inr (11, [.ref q1, .int 0, .int 1]))]) [0] rfl
  have hD9 := hD.sub (ws' := [(q0, .inr (11, [.ref q1, .int 0, .int 1]))]) [0] (by decide) rfl
  have hK9 := hK.sub (tys' := []) [] rfl
  exact W.iret (v := 0) hx hb hr (fun t ht hW => ⟨⟨0, (), rfl, rfl, ⟨by rw [ht]; exact hP9, va_K.moved hW.alike hK9, hD9⟩⟩, hS.F ht⟩) hS.2.2 dX8_came_4
set_option maxHeartbeats 4000000 in
set_option maxRecDepth 100000 in
theorem c_X9_init (l : Launch) (dC : Nat → ClassId) (dI : Nat → Nat → Nat) (q0 : Nat) (sz : Nat) : Met l yX9_init wsX9_init ({ frames := 2, cells := 4, slots := 12, locals := 40 }) (va_Pc [.ref q0] (zB (dC, dI) [] [(q0, .inr (12, [.null, .null, .int 0, .int 0, .int 0, .int 0]))] sz)) (va_Qv (fun (_ : Unit) => True) (fun _ t => ∃ q1 : Nat, ∃ q2 : Nat, ∃ q3 : Nat, ∃ q4 : Nat, zE (dC, dI) [] [(q0, .inr (12, [.ref q1, .ref q2, .int 0, .int 97, .int 0, .int 0])), (q1, .inr (10, [.ref q3, .int 0])), (q2, .inr (10, [.ref q4, .int 0]))] (va_A [(q0, .inr (12, [.null, .null, .int 0, .int 0, .int 0, .int 0]))] sz) t) (va_A [(q0, .inr (12, [.null, .null, .int 0, .int 0, .int 0, .int 0]))] sz)) 4 12 (va_A [(q0, .inr (12, [.null, .null, .int 0, .int 0, .int 0, .int 0]))] sz) := by
  refine Met.ofW (cc := cX9_init) (maxL := 1) (ret := none) (by decide) rfl ?_
  intro p e s m args below meth c s₁ B hml hv
  obtain ⟨rfl, hsz, hP, hK, hD0, hZ, hN⟩ := hv
  have hx := B.exec
  have hb := B.bytes
  have hr := B.returns
  have hts := atoms_spec (ws := wsX9_init) B.pre
  have hown : s.vm.findClass RX9 = some m.cls := findClass_of_methodNamed B.named
  have hlocks := B.notSynchronized
  have hin : meth.name = "<init>" := (name_of_methodNamed B.named B.method).1
  subst hsz
  have hD := hD0.self (sz := s.heap.size)
  generalize hAe : va_A [(q0, .inr (12, [.null, .null, .int 0, .int 0, .int 0, .int 0]))] s.heap.size = A at hD hZ ⊢
  have hA : ∀ q : Nat, s.heap.size ≤ q → A q := fun q h => by rw [← hAe]; exact Or.inr h
  have hS : va_S A s.heap s.heap [] := va_S.rf
  have hP : va_P (dC, dI) vwCl [(q0, .inr (12, [.null, .null, .int 0, .int 0, .int 0, .int 0]))] s.heap := hP
  have hl := lv_entry ([.ref q0]) (n := 1) (Nat.le_of_ble_eq_true rfl)
  rw [lg_entry_eq]
  generalize (lg_sl ([.ref q0]) ++ List.replicate (1 - (lg_sl ([.ref q0])).length) Slot.unset).toArray = ls at hl ⊢
  have hl : lv_has ls 1 [(0, .ref q0)] := hl
  refine lv_aload_n hx hb dX9_init_0 rfl (lv_at hl 0 rfl) ?_
  refine z_objInit hx hb hown (hts (.methodLink RX9 1 objectInit) (by decide +kernel)) (hts (.instanceMethod objectInit) (by decide +kernel)) (hts (.code objectInit ⟨#[0xb1]⟩ 1 none) (by decide +kernel)) (hl.1.trans hml.symm) dX9_init_1 (Nat.le_of_ble_eq_true rfl) (Nat.le_of_ble_eq_true rfl) ?_
  refine lv_aload_n hx hb dX9_init_4 rfl (lv_at hl 0 rfl) ?_
  refine va_new (D := (dC, dI)) (ci := 10) (fs := [.null, .int 0]) (C := RX7) (T := TX7) (N := 2) hx hb hts (fun _ h => List.mem_cons_of_mem _ (List.mem_append_left _ (List.mem_append_right _ h))) tyX7 tyX7_ok hown (hts (.classLink RX9 7 RX7) (by decide +kernel)) (hts (.instantiable RX7 2) (by decide +kernel)) (hts (.initialized RX7) (by decide +kernel)) hK hP hD hS hA rfl (zfs (by decide)) (Nat.le_of_ble_eq_true rfl) (Nat.le_of_ble_eq_true rfl) dX9_init_5 (fun q1 H hP hD hS => ?_)
  have hP : va_P (dC, dI) vwCl [(q0, .inr (12, [.null, .null, .int 0, .int 0, .int 0, .int 0])), (q1, .inr (10, [.null, .int 0]))] H := hP
  have hD : va_D A [(q0, .inr (12, [.null, .null, .int 0, .int 0, .int 0, .int 0])), (q1, .inr (10, [.null, .int 0]))] := hD
  refine W.widen (k := 1) (n := 2) (Nat.le_of_ble_eq_true rfl) (Nat.le_of_ble_eq_true rfl) ?_
  refine lv_dup hx hb dX9_init_8 rfl ?_
  have hPc := hP.sub (ws' := [(q1, .inr (10, [.null, .int 0]))]) [1] rfl
  have hDc := hD.sub (ws' := [(q1, .inr (10, [.null, .int 0]))]) [1] (by decide) rfl
  have hKc := hK.sub (tys' := []) [] rfl
  have hFc := va_free (wc := [(q1, .inr (10, [.null, .int 0]))]) hD hS hA [1] rfl
  refine va_callv (va_runIN (As := []) (rest := [.ref q1, .ref q0]) ⟨hx, hb, hml, hown, hts⟩ (c_X7_init l dC dI q1 H.size  ) ⟨va_cnB (host := "Seekwell") 0 hts gX9_init_X7_init_n9 rfl rfl rfl (hN.1 (RX9, 9, yX7_init, "Seekwell") (by decide +kernel)) (hts (.initialized RX7) (by decide +kernel)) (by decide +kernel) ⟨Nat.le_of_ble_eq_true rfl, Nat.le_of_ble_eq_true rfl⟩, rfl, hts (.instanceMethod yX7_init) (by decide +kernel)⟩ ⟨zB_blind, (zPre hPc hDc hKc hS hFc hZ hN)⟩ rfl rfl hl.1 rfl (lv_room (Nat.le_of_ble_eq_true rfl)) dX9_init_9 ⟨Nat.le_of_ble_eq_true rfl, Nat.le_of_ble_eq_true rfl⟩) hS (fun q _ h => hFc q h) hFc (fun u t H1 locs ht hvm hw hB hz1 hk1 hS => ?_)
  obtain ⟨q3, hP1, hK1, hD1⟩ := hB
  rw [ht] at hP1
  have hK1 := va_K.moved hvm.symm hK1
  obtain ⟨hP, hD⟩ := va_join (wr := [(q0, .inr (12, [.null, .null, .int 0, .int 0, .int 0, .int 0]))]) (w1 := [(q1, .inr (10, [.ref q3, .int 0]))]) hP hD [1] [0] rfl rfl (by decide) (by decide) hk1 hFc hP1 hD1
  have hK := (hK.sub (tys' := []) [] rfl).app hK1
  generalize H1 = H at hP hS ⊢
  have hP : va_P (dC, dI) vwCl [(q0, .inr (12, [.null, .null, .int 0, .int 0, .int 0, .int 0])), (q1, .inr (10, [.ref q3, .int 0]))] H := hP
  have hD : va_D A [(q0, .inr (12, [.null, .null, .int 0, .int 0, .int 0, .int 0])), (q1, .inr (10, [.ref q3, .int 0]))] := hD
  have hK : va_K (dC, dI) vwCl [] s := hK
  refine W.widen (k := 2) (n := 6) (Nat.le_of_ble_eq_true rfl) (Nat.le_of_ble_eq_true rfl) ?_
  refine va_putF (D := (dC, dI)) (ci := 12) (v := .ref q1) (ty := (.object "Seekwell$Row")) (C := RX9) (T := TX9) (N := 6) hx hb hts (fun _ h => List.mem_cons_of_mem _ (List.mem_append_right _ h)) tyX9 tyX9_ok nmX9 hown hK hP hD hS 0 rfl rfl 0 (by decide) (hts (.fieldLink RX9 10 "Seekwell$Text" "title" "LSeekwell$Row;") (by decide +kernel)) (fun _ h9 => h9) rfl hin rfl (by decide +kernel) rfl rfl (Nat.le_of_ble_eq_true rfl) dX9_init_12 (fun H locs hP hD hS => ?_)
  have hP : va_P (dC, dI) vwCl [(q0, .inr (12, [.ref q1, .null, .int 0, .int 0, .int 0, .int 0])), (q1, .inr (10, [.ref q3, .int 0]))] H := hP
  have hD : va_D A [(q0, .inr (12, [.ref q1, .null, .int 0, .int 0, .int 0, .int 0])), (q1, .inr (10, [.ref q3, .int 0]))] := hD
  refine lv_aload_n hx hb dX9_init_15 rfl (lv_at hl 0 rfl) ?_
  refine va_new (D := (dC, dI)) (ci := 10) (fs := [.null, .int 0]) (C := RX7) (T := TX7) (N := 2) hx hb hts (fun _ h => List.mem_cons_of_mem _ (List.mem_append_left _ (List.mem_append_right _ h))) tyX7 tyX7_ok hown (hts (.classLink RX9 7 RX7) (by decide +kernel)) (hts (.instantiable RX7 2) (by decide +kernel)) (hts (.initialized RX7) (by decide +kernel)) hK hP hD hS hA rfl (zfs (by decide)) (Nat.le_of_ble_eq_true rfl) (Nat.le_of_ble_eq_true rfl) dX9_init_16 (fun q2 H hP hD hS => ?_)
  have hP : va_P (dC, dI) vwCl [(q0, .inr (12, [.ref q1, .null, .int 0, .int 0, .int 0, .int 0])), (q1, .inr (10, [.ref q3, .int 0])), (q2, .inr (10, [.null, .int 0]))] H := hP
  have hD : va_D A [(q0, .inr (12, [.ref q1, .null, .int 0, .int 0, .int 0, .int 0])), (q1, .inr (10, [.ref q3, .int 0])), (q2, .inr (10, [.null, .int 0]))] := hD
  refine W.widen (k := 3) (n := 8) (Nat.le_of_ble_eq_true rfl) (Nat.le_of_ble_eq_true rfl) ?_
  refine lv_dup hx hb dX9_init_19 rfl ?_
  have hPc := hP.sub (ws' := [(q2, .inr (10, [.null, .int 0]))]) [2] rfl
  have hDc := hD.sub (ws' := [(q2, .inr (10, [.null, .int 0]))]) [2] (by decide) rfl
  have hKc := hK.sub (tys' := []) [] rfl
  have hFc := va_free (wc := [(q2, .inr (10, [.null, .int 0]))]) hD hS hA [2] rfl
  refine va_callv (va_runIN (As := []) (rest := [.ref q2, .ref q0]) ⟨hx, hb, hml, hown, hts⟩ (c_X7_init l dC dI q2 H.size  ) ⟨va_cnB (host := "Seekwell") 0 hts gX9_init_X7_init_n9 rfl rfl rfl (hN.1 (RX9, 9, yX7_init, "Seekwell") (by decide +kernel)) (hts (.initialized RX7) (by decide +kernel)) (by decide +kernel) ⟨Nat.le_of_ble_eq_true rfl, Nat.le_of_ble_eq_true rfl⟩, rfl, hts (.instanceMethod yX7_init) (by decide +kernel)⟩ ⟨zB_blind, (zPre hPc hDc hKc hS hFc hZ hN)⟩ rfl rfl hl.1 rfl (lv_room (Nat.le_of_ble_eq_true rfl)) dX9_init_20 ⟨Nat.le_of_ble_eq_true rfl, Nat.le_of_ble_eq_true rfl⟩) hS (fun q _ h => hFc q h) hFc (fun u t H1 locs ht hvm hw hB hz1 hk1 hS => ?_)
  obtain ⟨q4, hP1, hK1, hD1⟩ := hB
  rw [ht] at hP1
  have hK1 := va_K.moved hvm.symm hK1
  obtain ⟨hP, hD⟩ := va_join (wr := [(q0, .inr (12, [.ref q1, .null, .int 0, .int 0, .int 0, .int 0])), (q1, .inr (10, [.ref q3, .int 0]))]) (w1 := [(q2, .inr (10, [.ref q4, .int 0]))]) hP hD [2] [0, 1] rfl rfl (by decide) (by decide) hk1 hFc hP1 hD1
  have hK := (hK.sub (tys' := []) [] rfl).app hK1
  generalize H1 = H at hP hS ⊢
  have hP : va_P (dC, dI) vwCl [(q0, .inr (12, [.ref q1, .null, .int 0, .int 0, .int 0, .int 0])), (q1, .inr (10, [.ref q3, .int 0])), (q2, .inr (10, [.ref q4, .int 0]))] H := hP
  have hD : va_D A [(q0, .inr (12, [.ref q1, .null, .int 0, .int 0, .int 0, .int 0])), (q1, .inr (10, [.ref q3, .int 0])), (q2, .inr (10, [.ref q4, .int 0]))] := hD
  have hK : va_K (dC, dI) vwCl [] s := hK
  refine W.widen (k := 4) (n := 12) (Nat.le_of_ble_eq_true rfl) (Nat.le_of_ble_eq_true rfl) ?_
  refine va_putF (D := (dC, dI)) (ci := 12) (v := .ref q2) (ty := (.object "Seekwell$Row")) (C := RX9) (T := TX9) (N := 6) hx hb hts (fun _ h => List.mem_cons_of_mem _ (List.mem_append_right _ h)) tyX9 tyX9_ok nmX9 hown hK hP hD hS 0 rfl rfl 1 (by decide) (hts (.fieldLink RX9 16 "Seekwell$Text" "body" "LSeekwell$Row;") (by decide +kernel)) (fun _ h9 => h9) rfl hin rfl (by decide +kernel) rfl rfl (Nat.le_of_ble_eq_true rfl) dX9_init_23 (fun H locs hP hD hS => ?_)
  have hP : va_P (dC, dI) vwCl [(q0, .inr (12, [.ref q1, .ref q2, .int 0, .int 0, .int 0, .int 0])), (q1, .inr (10, [.ref q3, .int 0])), (q2, .inr (10, [.ref q4, .int 0]))] H := hP
  have hD : va_D A [(q0, .inr (12, [.ref q1, .ref q2, .int 0, .int 0, .int 0, .int 0])), (q1, .inr (10, [.ref q3, .int 0])), (q2, .inr (10, [.ref q4, .int 0]))] := hD
  refine lv_aload_n hx hb dX9_init_26 rfl (lv_at hl 0 rfl) ?_
  refine lv_iconst (v := 0) hx hb dX9_init_27 (by decide +kernel) ?_
  refine va_put (D := (dC, dI)) (ci := 12) (v := .int 0) (ty := .int) (C := RX9) (T := TX9) (N := 6) hx hb hts (fun _ h => List.mem_cons_of_mem _ (List.mem_append_right _ h)) tyX9 tyX9_ok nmX9 hown hK hP hD hS 0 rfl rfl 2 (by decide) (hts (.fieldLink RX9 19 "Seekwell$Text" "value" "I") (by decide +kernel)) (fun _ h9 => h9) rfl (by decide +kernel) rfl rfl (Nat.le_of_ble_eq_true rfl) dX9_init_28 (fun H locs hP hD hS => ?_)
  have hP : va_P (dC, dI) vwCl [(q0, .inr (12, [.ref q1, .ref q2, .int 0, .int 0, .int 0, .int 0])), (q1, .inr (10, [.ref q3, .int 0])), (q2, .inr (10, [.ref q4, .int 0]))] H := hP
  have hD : va_D A [(q0, .inr (12, [.ref q1, .ref q2, .int 0, .int 0, .int 0, .int 0])), (q1, .inr (10, [.ref q3, .int 0])), (q2, .inr (10, [.ref q4, .int 0]))] := hD
  refine lv_aload_n hx hb dX9_init_31 rfl (lv_at hl 0 rfl) ?_
  refine lv_bipush (v := 97) hx hb dX9_init_32 (by decide +kernel) ?_
  refine va_put (D := (dC, dI)) (ci := 12) (v := .int 97) (ty := .char) (C := RX9) (T := TX9) (N := 6) hx hb hts (fun _ h => List.mem_cons_of_mem _ (List.mem_append_right _ h)) tyX9 tyX9_ok nmX9 hown hK hP hD hS 0 rfl rfl 3 (by decide) (hts (.fieldLink RX9 23 "Seekwell$Text" "tag" "C") (by decide +kernel)) (fun _ h9 => h9) rfl (by decide +kernel) rfl rfl (Nat.le_of_ble_eq_true rfl) dX9_init_34 (fun H locs hP hD hS => ?_)
  have hP : va_P (dC, dI) vwCl [(q0, .inr (12, [.ref q1, .ref q2, .int 0, .int 97, .int 0, .int 0])), (q1, .inr (10, [.ref q3, .int 0])), (q2, .inr (10, [.ref q4, .int 0]))] H := hP
  have hD : va_D A [(q0, .inr (12, [.ref q1, .ref q2, .int 0, .int 97, .int 0, .int 0])), (q1, .inr (10, [.ref q3, .int 0])), (q2, .inr (10, [.ref q4, .int 0]))] := hD
  refine lv_aload_n hx hb dX9_init_37 rfl (lv_at hl 0 rfl) ?_
  refine lv_iconst (v := 0) hx hb dX9_init_38 (by decide +kernel) ?_
  refine va_put (D := (dC, dI)) (ci := 12) (v := .int 0) (ty := .int) (C := RX9) (T := TX9) (N := 6) hx hb hts (fun _ h => List.mem_cons_of_mem _ (List.mem_append_right _ h)) tyX9 tyX9_ok nmX9 hown hK hP hD hS 0 rfl rfl 4 (by decide) (hts (.fieldLink RX9 27 "Seekwell$Text" "part" "I") (by decide +kernel)) (fun _ h9 => h9) rfl (by decide +kernel) rfl rfl (Nat.le_of_ble_eq_true rfl) dX9_init_39 (fun H locs hP hD hS => ?_)
  have hP : va_P (dC, dI) vwCl [(q0, .inr (12, [.ref q1, .ref q2, .int 0, .int 97, .int 0, .int 0])), (q1, .inr (10, [.ref q3, .int 0])), (q2, .inr (10, [.ref q4, .int 0]))] H := hP
  have hD : va_D A [(q0, .inr (12, [.ref q1, .ref q2, .int 0, .int 97, .int 0, .int 0])), (q1, .inr (10, [.ref q3, .int 0])), (q2, .inr (10, [.ref q4, .int 0]))] := hD
  refine lv_aload_n hx hb dX9_init_42 rfl (lv_at hl 0 rfl) ?_
  refine lv_iconst (v := 0) hx hb dX9_init_43 (by decide +kernel) ?_
  refine va_put (D := (dC, dI)) (ci := 12) (v := .int 0) (ty := .boolean) (C := RX9) (T := TX9) (N := 6) hx hb hts (fun _ h => List.mem_cons_of_mem _ (List.mem_append_right _ h)) tyX9 tyX9_ok nmX9 hown hK hP hD hS 0 rfl rfl 5 (by decide) (hts (.fieldLink RX9 30 "Seekwell$Text" "isPresent" "Z") (by decide +kernel)) (fun _ h9 => h9) rfl (by decide +kernel) rfl rfl (Nat.le_of_ble_eq_true rfl) dX9_init_44 (fun H locs hP hD hS => ?_)
  have hP : va_P (dC, dI) vwCl [(q0, .inr (12, [.ref q1, .ref q2, .int 0, .int 97, .int 0, .int 0])), (q1, .inr (10, [.ref q3, .int 0])), (q2, .inr (10, [.ref q4, .int 0]))] H := hP
  have hD : va_D A [(q0, .inr (12, [.ref q1, .ref q2, .int 0, .int 97, .int 0, .int 0])), (q1, .inr (10, [.ref q3, .int 0])), (q2, .inr (10, [.ref q4, .int 0]))] := hD
  have hP9 := hP.sub (ws' := [(q0, .inr (12, [.ref q1, .ref q2, .int 0, .int 97, .int 0, .int 0])), (q1, .inr (10, [.ref q3, .int 0])), (q2, .inr (10, [.ref q4, .int 0]))]) [0, 1, 2] rfl
  have hD9 := hD.sub (ws' := [(q0, .inr (12, [.ref q1, .ref q2, .int 0, .int 97, .int 0, .int 0])), (q1, .inr (10, [.ref q3, .int 0])), (q2, .inr (10, [.ref q4, .int 0]))]) [0, 1, 2] (by decide) rfl
  have hK9 := hK.sub (tys' := []) [] rfl
  exact W.vret hx hb hr (fun t ht hW => ⟨⟨(), rfl, trivial, q1, q2, q3, q4, ⟨by rw [ht]; exact hP9, va_K.moved hW.alike hK9, hD9⟩⟩, hS.F ht⟩) hS.2.2 dX9_init_47
set_option maxHeartbeats 4000000 in
set_option maxRecDepth 100000 in
theorem c_X8_place (l : Launch) (dC : Nat → ClassId) (dI : Nat → Nat → Nat) (q0 q1 : Nat) (k0 : ClassId) (sz : Nat) : Met l yX8_place wsX8_place ({ frames := 3, cells := 5, slots := 18, locals := 60 }) (va_Pc [.ref q0, .int 0] (zB (dC, dI) [(k0, (.object "Seekwell$Text"))] [(q0, .inr (11, [.ref q1, .int 0, .int 1])), (q1, .inl (k0, 24, .inr (.inr (.inr (.inr (fun _ => none))))))] sz)) (va_Qr (fun (_ : Unit) => True) (fun _ ra t => ∃ q2 : Nat, ∃ q3 : Nat, ∃ q4 : Nat, ∃ q5 : Nat, ∃ q6 : Nat, q2 = ra ∧ zE (dC, dI) [] [(q0, .inr (11, [.ref q1, .int 0, .int 1])), (q2, .inr (12, [.ref q3, .ref q4, .int 0, .int 97, .int 0, .int 1])), (q3, .inr (10, [.ref q5, .int 0])), (q4, .inr (10, [.ref q6, .int 0]))] (va_A [(q0, .inr (11, [.ref q1, .int 0, .int 1])), (q1, .inl (k0, 24, .inr (.inr (.inr (.inr (fun _ => none))))))] sz) t) (va_A [(q0, .inr (11, [.ref q1, .int 0, .int 1])), (q1, .inl (k0, 24, .inr (.inr (.inr (.inr (fun _ => none))))))] sz)) 5 18 (va_A [(q0, .inr (11, [.ref q1, .int 0, .int 1])), (q1, .inl (k0, 24, .inr (.inr (.inr (.inr (fun _ => none))))))] sz) := by
  refine Met.ofW (cc := cX8_place) (maxL := 3) (ret := (some (.object "Seekwell$Text"))) (by decide) rfl ?_
  intro p e s m args below meth c s₁ B hml hv
  obtain ⟨rfl, hsz, hP, hK, hD0, hZ, hN⟩ := hv
  have hx := B.exec
  have hb := B.bytes
  have hr := B.returns
  have hts := atoms_spec (ws := wsX8_place) B.pre
  have hown : s.vm.findClass RX8 = some m.cls := findClass_of_methodNamed B.named
  have hlocks := B.notSynchronized
  subst hsz
  have hD := hD0.self (sz := s.heap.size)
  generalize hAe : va_A [(q0, .inr (11, [.ref q1, .int 0, .int 1])), (q1, .inl (k0, 24, .inr (.inr (.inr (.inr (fun _ => none))))))] s.heap.size = A at hD hZ ⊢
  have hA : ∀ q : Nat, s.heap.size ≤ q → A q := fun q h => by rw [← hAe]; exact Or.inr h
  have hS : va_S A s.heap s.heap [] := va_S.rf
  have hP : va_P (dC, dI) vwCl [(q0, .inr (11, [.ref q1, .int 0, .int 1])), (q1, .inl (k0, 24, .inr (.inr (.inr (.inr (fun _ => none))))))] s.heap := hP
  have hl := lv_entry ([.ref q0, .int 0]) (n := 3) (Nat.le_of_ble_eq_true rfl)
  rw [lg_entry_eq]
  generalize (lg_sl ([.ref q0, .int 0]) ++ List.replicate (3 - (lg_sl ([.ref q0, .int 0])).length) Slot.unset).toArray = ls at hl ⊢
  have hl : lv_has ls 3 [(0, .ref q0), (1, .int 0)] := hl
  refine lv_iload_n hx hb dX8_place_0 rfl (lv_at hl 1 rfl) ?_
  refine lv_if_lt (tgt := 13) hx hb dX8_place_1 (by decide) (fun h9 => absurd h9 (show ¬ (0 : Int32) < (0 : Int32) by decide +kernel)) (fun _ => ?_)
  refine lv_iload_n hx hb dX8_place_4 rfl (lv_at hl 1 rfl) ?_
  refine lv_aload_n hx hb dX8_place_5 rfl (lv_at hl 0 rfl) ?_
  refine va_get (D := (dC, dI)) (ci := 11) (v := .ref q1) (C := RX8) (T := TX8) (N := 3) hx hb hts (fun _ h => List.mem_cons_of_mem _ (List.mem_append_left _ (List.mem_append_left _ (List.mem_append_right _ h)))) hown hK hP 0 rfl rfl 0 (by decide) (hts (.fieldLink RX8 11 "Seekwell$Shelf" "all" "[LSeekwell$Text;") (by decide +kernel)) (fun _ h9 => h9) rfl dX8_place_6 ?_
  refine va_alen (D := (dC, dI)) (v := 24) hx hb hK hP 1 0 rfl rfl (show Int32.ofNat 24 = 24 by decide +kernel) dX8_place_9 ?_
  refine lv_icmp_lt (tgt := 15) hx hb dX8_place_10 (by decide) (fun _ => ?_) (fun h9 => absurd (show (0 : Int32) < (24 : Int32) by decide +kernel) h9)
  refine lv_aload_n hx hb dX8_place_15 rfl (lv_at hl 0 rfl) ?_
  refine va_get (D := (dC, dI)) (ci := 11) (v := .ref q1) (C := RX8) (T := TX8) (N := 3) hx hb hts (fun _ h => List.mem_cons_of_mem _ (List.mem_append_left _ (List.mem_append_left _ (List.mem_append_right _ h)))) hown hK hP 0 rfl rfl 0 (by decide) (hts (.fieldLink RX8 11 "Seekwell$Shelf" "all" "[LSeekwell$Text;") (by decide +kernel)) (fun _ h9 => h9) rfl dX8_place_16 ?_
  refine lv_iload_n hx hb dX8_place_19 rfl (lv_at hl 1 rfl) ?_
  refine va_aldq (D := (dC, dI)) hx hb hK hP 1 0 rfl rfl (i := 0) (zin (by decide +kernel)) dX8_place_20 ?_
  refine zt_v (w := .null) rfl ?_
  refine lv_ifnonnullN hx hb dX8_place_21 ?_
  refine lv_aload_n hx hb dX8_place_24 rfl (lv_at hl 0 rfl) ?_
  refine va_get (D := (dC, dI)) (ci := 11) (v := .ref q1) (C := RX8) (T := TX8) (N := 3) hx hb hts (fun _ h => List.mem_cons_of_mem _ (List.mem_append_left _ (List.mem_append_left _ (List.mem_append_right _ h)))) hown hK hP 0 rfl rfl 0 (by decide) (hts (.fieldLink RX8 11 "Seekwell$Shelf" "all" "[LSeekwell$Text;") (by decide +kernel)) (fun _ h9 => h9) rfl dX8_place_25 ?_
  refine lv_iload_n hx hb dX8_place_28 rfl (lv_at hl 1 rfl) ?_
  refine va_new (D := (dC, dI)) (ci := 12) (fs := [.null, .null, .int 0, .int 0, .int 0, .int 0]) (C := RX9) (T := TX9) (N := 6) hx hb hts (fun _ h => List.mem_cons_of_mem _ (List.mem_append_left _ (List.mem_append_right _ h))) tyX9 tyX9_ok hown (hts (.classLink RX8 9 RX9) (by decide +kernel)) (hts (.instantiable RX9 6) (by decide +kernel)) (hts (.initialized RX9) (by decide +kernel)) hK hP hD hS hA rfl (zfs (by decide)) (Nat.le_of_ble_eq_true rfl) (Nat.le_of_ble_eq_true rfl) dX8_place_29 (fun q2 H hP hD hS => ?_)
  have hP : va_P (dC, dI) vwCl [(q0, .inr (11, [.ref q1, .int 0, .int 1])), (q1, .inl (k0, 24, .inr (.inr (.inr (.inr (fun _ => none)))))), (q2, .inr (12, [.null, .null, .int 0, .int 0, .int 0, .int 0]))] H := hP
  have hD : va_D A [(q0, .inr (11, [.ref q1, .int 0, .int 1])), (q1, .inl (k0, 24, .inr (.inr (.inr (.inr (fun _ => none)))))), (q2, .inr (12, [.null, .null, .int 0, .int 0, .int 0, .int 0]))] := hD
  refine W.widen (k := 1) (n := 6) (Nat.le_of_ble_eq_true rfl) (Nat.le_of_ble_eq_true rfl) ?_
  refine lv_dup hx hb dX8_place_32 rfl ?_
  have hPc := hP.sub (ws' := [(q2, .inr (12, [.null, .null, .int 0, .int 0, .int 0, .int 0]))]) [2] rfl
  have hDc := hD.sub (ws' := [(q2, .inr (12, [.null, .null, .int 0, .int 0, .int 0, .int 0]))]) [2] (by decide) rfl
  have hKc := hK.sub (tys' := []) [] rfl
  have hFc := va_free (wc := [(q2, .inr (12, [.null, .null, .int 0, .int 0, .int 0, .int 0]))]) hD hS hA [2] rfl
  refine va_callv (va_runIN (As := []) (rest := [.ref q2, .int 0, .ref q1]) ⟨hx, hb, hml, hown, hts⟩ (c_X9_init l dC dI q2 H.size  ) ⟨va_cnB (host := "Seekwell") 0 hts gX8_place_X9_init_n28 rfl rfl rfl (hN.1 (RX8, 28, yX9_init, "Seekwell") (by decide +kernel)) (hts (.initialized RX9) (by decide +kernel)) (by decide +kernel) ⟨Nat.le_of_ble_eq_true rfl, Nat.le_of_ble_eq_true rfl⟩, rfl, hts (.instanceMethod yX9_init) (by decide +kernel)⟩ ⟨zB_blind, (zPre hPc hDc hKc hS hFc hZ hN)⟩ rfl rfl hl.1 rfl (lv_room (Nat.le_of_ble_eq_true rfl)) dX8_place_33 ⟨Nat.le_of_ble_eq_true rfl, Nat.le_of_ble_eq_true rfl⟩) hS (fun q _ h => hFc q h) hFc (fun u t H1 locs ht hvm hw hB hz1 hk1 hS => ?_)
  obtain ⟨q3, q4, q5, q6, hP1, hK1, hD1⟩ := hB
  rw [ht] at hP1
  have hK1 := va_K.moved hvm.symm hK1
  obtain ⟨hP, hD⟩ := va_join (wr := [(q0, .inr (11, [.ref q1, .int 0, .int 1])), (q1, .inl (k0, 24, .inr (.inr (.inr (.inr (fun _ => none))))))]) (w1 := [(q2, .inr (12, [.ref q3, .ref q4, .int 0, .int 97, .int 0, .int 0])), (q3, .inr (10, [.ref q5, .int 0])), (q4, .inr (10, [.ref q6, .int 0]))]) hP hD [2] [0, 1] rfl rfl (by decide) (by decide) hk1 hFc hP1 hD1
  have hK := (hK.sub (tys' := [(k0, (.object "Seekwell$Text"))]) [0] rfl).app hK1
  generalize H1 = H at hP hS ⊢
  have hP : va_P (dC, dI) vwCl [(q0, .inr (11, [.ref q1, .int 0, .int 1])), (q1, .inl (k0, 24, .inr (.inr (.inr (.inr (fun _ => none)))))), (q2, .inr (12, [.ref q3, .ref q4, .int 0, .int 97, .int 0, .int 0])), (q3, .inr (10, [.ref q5, .int 0])), (q4, .inr (10, [.ref q6, .int 0]))] H := hP
  have hD : va_D A [(q0, .inr (11, [.ref q1, .int 0, .int 1])), (q1, .inl (k0, 24, .inr (.inr (.inr (.inr (fun _ => none)))))), (q2, .inr (12, [.ref q3, .ref q4, .int 0, .int 97, .int 0, .int 0])), (q3, .inr (10, [.ref q5, .int 0])), (q4, .inr (10, [.ref q6, .int 0]))] := hD
  have hK : va_K (dC, dI) vwCl [(k0, (.object "Seekwell$Text"))] s := hK
  refine W.widen (k := 5) (n := 18) (Nat.le_of_ble_eq_true rfl) (Nat.le_of_ble_eq_true rfl) ?_
  refine va_astq (D := (dC, dI)) hx hb hK hP hD hS 1 0 2 12 rfl rfl rfl rfl (i := 0) (zin (by decide +kernel)) dX8_place_36 (fun H locs hP hD hS => ?_)
  have hP : va_P (dC, dI) vwCl [(q0, .inr (11, [.ref q1, .int 0, .int 1])), (q1, .inl (k0, 24, .inr (.inr (.inr (.inr (va_up (fun _ => none) (0 : Int32).toNatClampNeg (some q2))))))), (q2, .inr (12, [.ref q3, .ref q4, .int 0, .int 97, .int 0, .int 0])), (q3, .inr (10, [.ref q5, .int 0])), (q4, .inr (10, [.ref q6, .int 0]))] H := hP
  have hD : va_D A [(q0, .inr (11, [.ref q1, .int 0, .int 1])), (q1, .inl (k0, 24, .inr (.inr (.inr (.inr (va_up (fun _ => none) (0 : Int32).toNatClampNeg (some q2))))))), (q2, .inr (12, [.ref q3, .ref q4, .int 0, .int 97, .int 0, .int 0])), (q3, .inr (10, [.ref q5, .int 0])), (q4, .inr (10, [.ref q6, .int 0]))] := hD
  refine lv_aload_n hx hb dX8_place_37 rfl (lv_at hl 0 rfl) ?_
  refine va_get (D := (dC, dI)) (ci := 11) (v := .ref q1) (C := RX8) (T := TX8) (N := 3) hx hb hts (fun _ h => List.mem_cons_of_mem _ (List.mem_append_left _ (List.mem_append_left _ (List.mem_append_right _ h)))) hown hK hP 0 rfl rfl 0 (by decide) (hts (.fieldLink RX8 11 "Seekwell$Shelf" "all" "[LSeekwell$Text;") (by decide +kernel)) (fun _ h9 => h9) rfl dX8_place_38 ?_
  refine lv_iload_n hx hb dX8_place_41 rfl (lv_at hl 1 rfl) ?_
  refine va_aldq (D := (dC, dI)) hx hb hK hP 1 0 rfl rfl (i := 0) (zin (by decide +kernel)) dX8_place_42 ?_
  refine zt_v (w := .ref q2) rfl ?_
  refine lv_astore_n (lv' := [(2, .ref q2), (0, .ref q0), (1, .int 0)]) hx hb dX8_place_43 rfl hl (by decide) rfl (fun ls hl => ?_)
  refine lv_aload_n hx hb dX8_place_44 rfl (lv_at hl 0 rfl) ?_
  refine lv_aload_n hx hb dX8_place_45 rfl (lv_at hl 1 rfl) ?_
  refine va_get (D := (dC, dI)) (ci := 11) (v := .int 1) (C := RX8) (T := TX8) (N := 3) hx hb hts (fun _ h => List.mem_cons_of_mem _ (List.mem_append_left _ (List.mem_append_left _ (List.mem_append_right _ h)))) hown hK hP 0 rfl rfl 2 (by decide) (hts (.fieldLink RX8 21 "Seekwell$Shelf" "partCount" "I") (by decide +kernel)) (fun _ h9 => h9) rfl dX8_place_46 ?_
  refine lv_iconst (v := 1) hx hb dX8_place_49 (by decide +kernel) ?_
  refine lv_isub hx hb dX8_place_50 ?_
  refine zt_i (v := 0) (by decide +kernel) ?_
  refine va_put (D := (dC, dI)) (ci := 12) (v := .int 0) (ty := .int) (C := RX9) (T := TX9) (N := 6) hx hb hts (fun _ h => List.mem_cons_of_mem _ (List.mem_append_left _ (List.mem_append_right _ h))) tyX9 tyX9_ok nmX9 hown hK hP hD hS 2 rfl rfl 4 (by decide) (hts (.fieldLink RX8 29 "Seekwell$Text" "part" "I") (by decide +kernel)) (fun _ h9 => h9) rfl (by decide +kernel) rfl rfl (Nat.le_of_ble_eq_true rfl) dX8_place_51 (fun H locs hP hD hS => ?_)
  have hP : va_P (dC, dI) vwCl [(q0, .inr (11, [.ref q1, .int 0, .int 1])), (q1, .inl (k0, 24, .inr (.inr (.inr (.inr (va_up (fun _ => none) (0 : Int32).toNatClampNeg (some q2))))))), (q2, .inr (12, [.ref q3, .ref q4, .int 0, .int 97, .int 0, .int 0])), (q3, .inr (10, [.ref q5, .int 0])), (q4, .inr (10, [.ref q6, .int 0]))] H := hP
  have hD : va_D A [(q0, .inr (11, [.ref q1, .int 0, .int 1])), (q1, .inl (k0, 24, .inr (.inr (.inr (.inr (va_up (fun _ => none) (0 : Int32).toNatClampNeg (some q2))))))), (q2, .inr (12, [.ref q3, .ref q4, .int 0, .int 97, .int 0, .int 0])), (q3, .inr (10, [.ref q5, .int 0])), (q4, .inr (10, [.ref q6, .int 0]))] := hD
  refine lv_aload_n hx hb dX8_place_54 rfl (lv_at hl 0 rfl) ?_
  refine lv_iconst (v := 1) hx hb dX8_place_55 (by decide +kernel) ?_
  refine va_put (D := (dC, dI)) (ci := 12) (v := .int 1) (ty := .boolean) (C := RX9) (T := TX9) (N := 6) hx hb hts (fun _ h => List.mem_cons_of_mem _ (List.mem_append_left _ (List.mem_append_right _ h))) tyX9 tyX9_ok nmX9 hown hK hP hD hS 2 rfl rfl 5 (by decide) (hts (.fieldLink RX8 24 "Seekwell$Text" "isPresent" "Z") (by decide +kernel)) (fun _ h9 => h9) rfl (by decide +kernel) rfl rfl (Nat.le_of_ble_eq_true rfl) dX8_place_56 (fun H locs hP hD hS => ?_)
  have hP : va_P (dC, dI) vwCl [(q0, .inr (11, [.ref q1, .int 0, .int 1])), (q1, .inl (k0, 24, .inr (.inr (.inr (.inr (va_up (fun _ => none) (0 : Int32).toNatClampNeg (some q2))))))), (q2, .inr (12, [.ref q3, .ref q4, .int 0, .int 97, .int 0, .int 1])), (q3, .inr (10, [.ref q5, .int 0])), (q4, .inr (10, [.ref q6, .int 0]))] H := hP
  have hD : va_D A [(q0, .inr (11, [.ref q1, .int 0, .int 1])), (q1, .inl (k0, 24, .inr (.inr (.inr (.inr (va_up (fun _ => none) (0 : Int32).toNatClampNeg (some q2))))))), (q2, .inr (12, [.ref q3, .ref q4, .int 0, .int 97, .int 0, .int 1])), (q3, .inr (10, [.ref q5, .int 0])), (q4, .inr (10, [.ref q6, .int 0]))] := hD
  refine lv_aload_n hx hb dX8_place_59 rfl (lv_at hl 0 rfl) ?_
  have hP9 := hP.sub (ws' := [(q0, .inr (11, [.ref q1, .int 0, .int 1])), (q2, .inr (12, [.ref q3, .ref q4, .int 0, .int 97, .int 0, .int 1])), (q3, .inr (10, [.ref q5, .int 0])), (q4, .inr (10, [.ref q6, .int 0]))]) [0, 2, 3, 4] rfl
  have hD9 := hD.sub (ws' := [(q0, .inr (11, [.ref q1, .int 0, .int 1])), (q2, .inr (12, [.ref q3, .ref q4, .int 0, .int 97, .int 0, .int 1])), (q3, .inr (10, [.ref q5, .int 0])), (q4, .inr (10, [.ref q6, .int 0]))]) [0, 2, 3, 4] (by decide) rfl
  have hK9 := hK.sub (tys' := []) [] rfl
  exact W.aret (v := .ref q2) hx hb hr (Or.inl ⟨_, rfl⟩) (Or.inr ⟨_, rfl⟩) (fun t ht hW => ⟨⟨(), q2, rfl, trivial, q2, q3, q4, q5, q6, rfl, ⟨by rw [ht]; exact hP9, va_K.moved hW.alike hK9, hD9⟩⟩, hS.F ht⟩) hS.2.2 dX8_place_60
set_option maxHeartbeats 4000000 in
set_option maxRecDepth 100000 in
theorem c_X4_placeOf (l : Launch) (dC : Nat → ClassId) (dI : Nat → Nat → Nat) (q0 q1 : Nat) (sz : Nat) : Met l yX4_placeOf wsX4_placeOf ({ frames := 0, cells := 0, slots := 0, locals := 0 }) (va_Pc [.ref q0, .int 124] (zB (dC, dI) [] [(q0, .inr (7, [.ref q1, .int 0]))] sz)) (va_Qi (fun (r : Int32) (_ : Unit) => (-1) = r) (fun _ t => zE (dC, dI) [] [(q0, .inr (7, [.ref q1, .int 0]))] (va_A [(q0, .inr (7, [.ref q1, .int 0]))] sz) t) (va_A [(q0, .inr (7, [.ref q1, .int 0]))] sz)) 0 0 (va_A [(q0, .inr (7, [.ref q1, .int 0]))] sz) := by
  refine Met.ofW (cc := cX4_placeOf) (maxL := 3) (ret := (some .int)) (by decide) rfl ?_
  intro p e s m args below meth c s₁ B hml hv
  obtain ⟨rfl, hsz, hP, hK, hD0, hZ, hN⟩ := hv
  have hx := B.exec
  have hb := B.bytes
  have hr := B.returns
  have hts := atoms_spec (ws := wsX4_placeOf) B.pre
  have hown : s.vm.findClass RX4 = some m.cls := findClass_of_methodNamed B.named
  have hlocks := B.notSynchronized
  subst hsz
  have hD := hD0.self (sz := s.heap.size)
  generalize hAe : va_A [(q0, .inr (7, [.ref q1, .int 0]))] s.heap.size = A at hD hZ ⊢
  have hA : ∀ q : Nat, s.heap.size ≤ q → A q := fun q h => by rw [← hAe]; exact Or.inr h
  have hS : va_S A s.heap s.heap [] := va_S.rf
  have hP : va_P (dC, dI) vwCl [(q0, .inr (7, [.ref q1, .int 0]))] s.heap := hP
  have hl := lv_entry ([.ref q0, .int 124]) (n := 3) (Nat.le_of_ble_eq_true rfl)
  rw [lg_entry_eq]
  generalize (lg_sl ([.ref q0, .int 124]) ++ List.replicate (3 - (lg_sl ([.ref q0, .int 124])).length) Slot.unset).toArray = ls at hl ⊢
  have hl : lv_has ls 3 [(0, .ref q0), (1, .int 124)] := hl
  refine lv_iconst (v := 0) hx hb dX4_placeOf_0 (by decide +kernel) ?_
  refine lv_istore_n (lv' := [(2, .int 0), (0, .ref q0), (1, .int 124)]) hx hb dX4_placeOf_1 rfl hl (by decide) rfl (fun ls hl => ?_)
  refine lv_iload_n hx hb dX4_placeOf_2 rfl (lv_at hl 0 rfl) ?_
  refine lv_aload_n hx hb dX4_placeOf_3 rfl (lv_at hl 1 rfl) ?_
  refine va_get (D := (dC, dI)) (ci := 7) (v := .int 0) (C := RX4) (T := TX4) (N := 2) hx hb hts (fun _ h => List.mem_cons_of_mem _ (List.mem_append_left _ (List.mem_append_right _ h))) hown hK hP 0 rfl rfl 1 (by decide) (hts (.fieldLink RX4 15 "Seekwell$Line" "size" "I") (by decide +kernel)) (fun _ h9 => h9) rfl dX4_placeOf_4 ?_
  refine lv_icmp_ge (tgt := 27) hx hb dX4_placeOf_7 (by decide) (fun _ => ?_) (fun h9 => absurd (show (0 : Int32) ≤ (0 : Int32) by decide +kernel) h9)
  refine lv_iconst (v := (-1)) hx hb dX4_placeOf_27 (by decide +kernel) ?_
  have hP9 := hP.sub (ws' := [(q0, .inr (7, [.ref q1, .int 0]))]) [0] rfl
  have hD9 := hD.sub (ws' := [(q0, .inr (7, [.ref q1, .int 0]))]) [0] (by decide) rfl
  have hK9 := hK.sub (tys' := []) [] rfl
  exact W.iret (v := (-1)) hx hb hr (fun t ht hW => ⟨⟨(-1), (), rfl, rfl, ⟨by rw [ht]; exact hP9, va_K.moved hW.alike hK9, hD9⟩⟩, hS.F ht⟩) hS.2.2 dX4_placeOf_28
set_option maxHeartbeats 4000000 in
set_option maxRecDepth 100000 in
theorem c_X7_clear (l : Launch) (dC : Nat → ClassId) (dI : Nat → Nat → Nat) (q0 q1 : Nat) (sz : Nat) : Met l yX7_clear wsX7_clear ({ frames := 0, cells := 0, slots := 0, locals := 0 }) (va_Pc [.ref q0] (zB (dC, dI) [] [(q0, .inr (10, [.ref q1, .int 0]))] sz)) (va_Qv (fun (_ : Unit) => True) (fun _ t => zE (dC, dI) [] [] (va_A [(q0, .inr (10, [.ref q1, .int 0]))] sz) t) (va_A [(q0, .inr (10, [.ref q1, .int 0]))] sz)) 0 0 (va_A [(q0, .inr (10, [.ref q1, .int 0]))] sz) := by
  refine Met.ofW (cc := cX7_clear) (maxL := 1) (ret := none) (by decide) rfl ?_
  intro p e s m args below meth c s₁ B hml hv
  obtain ⟨rfl, hsz, hP, hK, hD0, hZ, hN⟩ := hv
  have hx := B.exec
  have hb := B.bytes
  have hr := B.returns
  have hts := atoms_spec (ws := wsX7_clear) B.pre
  have hown : s.vm.findClass RX7 = some m.cls := findClass_of_methodNamed B.named
  have hlocks := B.notSynchronized
  subst hsz
  have hD := hD0.self (sz := s.heap.size)
  generalize hAe : va_A [(q0, .inr (10, [.ref q1, .int 0]))] s.heap.size = A at hD hZ ⊢
  have hA : ∀ q : Nat, s.heap.size ≤ q → A q := fun q h => by rw [← hAe]; exact Or.inr h
  have hS : va_S A s.heap s.heap [] := va_S.rf
  have hP : va_P (dC, dI) vwCl [(q0, .inr (10, [.ref q1, .int 0]))] s.heap := hP
  have hl := lv_entry ([.ref q0]) (n := 1) (Nat.le_of_ble_eq_true rfl)
  rw [lg_entry_eq]
  generalize (lg_sl ([.ref q0]) ++ List.replicate (1 - (lg_sl ([.ref q0])).length) Slot.unset).toArray = ls at hl ⊢
  have hl : lv_has ls 1 [(0, .ref q0)] := hl
  refine lv_aload_n hx hb dX7_clear_0 rfl (lv_at hl 0 rfl) ?_
  refine lv_iconst (v := 0) hx hb dX7_clear_1 (by decide +kernel) ?_
  refine va_put (D := (dC, dI)) (ci := 10) (v := .int 0) (ty := .int) (C := RX7) (T := TX7) (N := 2) hx hb hts (fun _ h => List.mem_cons_of_mem _ (List.mem_append_right _ h)) tyX7 tyX7_ok nmX7 hown hK hP hD hS 0 rfl rfl 1 (by decide) (hts (.fieldLink RX7 15 "Seekwell$Row" "size" "I") (by decide +kernel)) (fun _ h9 => h9) rfl (by decide +kernel) rfl rfl (Nat.le_of_ble_eq_true rfl) dX7_clear_2 (fun H locs hP hD hS => ?_)
  have hP : va_P (dC, dI) vwCl [(q0, .inr (10, [.ref q1, .int 0]))] H := hP
  have hD : va_D A [(q0, .inr (10, [.ref q1, .int 0]))] := hD
  have hP9 := hP.sub (ws' := []) [] rfl
  have hD9 := hD.sub (ws' := []) [] (by decide) rfl
  have hK9 := hK.sub (tys' := []) [] rfl
  exact W.vret hx hb hr (fun t ht hW => ⟨⟨(), rfl, trivial, ⟨by rw [ht]; exact hP9, va_K.moved hW.alike hK9, hD9⟩⟩, hS.F ht⟩) hS.2.2 dX7_clear_5
set_option maxHeartbeats 4000000 in
set_option maxRecDepth 100000 in
theorem c_X7_read (l : Launch) (dC : Nat → ClassId) (dI : Nat → Nat → Nat) (q0 q1 q2 : Nat) (sz : Nat) : Met l yX7_read wsX7_read ({ frames := 1, cells := 0, slots := 0, locals := 20 }) (va_Pc [.ref q0, .ref q1, .int 0, .int (-1)] (zB (dC, dI) [] [(q0, .inr (10, [.ref q2, .int 0]))] sz)) (va_Qv (fun (_ : Unit) => True) (fun _ t => zE (dC, dI) [] [] (va_A [(q0, .inr (10, [.ref q2, .int 0]))] sz) t) (va_A [(q0, .inr (10, [.ref q2, .int 0]))] sz)) 0 0 (va_A [(q0, .inr (10, [.ref q2, .int 0]))] sz) := by
  refine Met.ofW (cc := cX7_read) (maxL := 6) (ret := none) (by decide) rfl ?_
  intro p e s m args below meth c s₁ B hml hv
  obtain ⟨rfl, hsz, hP, hK, hD0, hZ, hN⟩ := hv
  have hx := B.exec
  have hb := B.bytes
  have hr := B.returns
  have hts := atoms_spec (ws := wsX7_read) B.pre
  have hown : s.vm.findClass RX7 = some m.cls := findClass_of_methodNamed B.named
  have hlocks := B.notSynchronized
  subst hsz
  have hD := hD0.self (sz := s.heap.size)
  generalize hAe : va_A [(q0, .inr (10, [.ref q2, .int 0]))] s.heap.size = A at hD hZ ⊢
  have hA : ∀ q : Nat, s.heap.size ≤ q → A q := fun q h => by rw [← hAe]; exact Or.inr h
  have hS : va_S A s.heap s.heap [] := va_S.rf
  have hP : va_P (dC, dI) vwCl [(q0, .inr (10, [.ref q2, .int 0]))] s.heap := hP
  have hl := lv_entry ([.ref q0, .ref q1, .int 0, .int (-1)]) (n := 6) (Nat.le_of_ble_eq_true rfl)
  rw [lg_entry_eq]
  generalize (lg_sl ([.ref q0, .ref q1, .int 0, .int (-1)]) ++ List.replicate (6 - (lg_sl ([.ref q0, .ref q1, .int 0, .int (-1)])).length) Slot.unset).toArray = ls at hl ⊢
  have hl : lv_has ls 6 [(0, .ref q0), (1, .ref q1), (2, .int 0), (3, .int (-1))] := hl
  refine lv_aload_n hx hb dX7_read_0 rfl (lv_at hl 0 rfl) ?_
  have hPc := hP.sub (ws' := [(q0, .inr (10, [.ref q2, .int 0]))]) [0] rfl
  have hDc := hD.sub (ws' := [(q0, .inr (10, [.ref q2, .int 0]))]) [0] (by decide) rfl
  have hKc := hK.sub (tys' := []) [] rfl
  have hFc := va_free (wc := [(q0, .inr (10, [.ref q2, .int 0]))]) hD hS hA [0] rfl
  refine va_callv (va_runV (As := []) (rest := []) ⟨hx, hb, hml, hown, hts⟩ (c_X7_clear l dC dI q0 q2 s.heap.size  ) (cwV 0 hts gX7_read_X7_clear rfl rfl rfl (by decide +kernel) ⟨Nat.le_of_ble_eq_true rfl, Nat.le_of_ble_eq_true rfl⟩) ⟨zB_blind, va_recv hK hP (ci := 10) (q0 := 0) rfl rfl, (zPre hPc hDc hKc hS hFc hZ hN)⟩ rfl rfl hl.1 rfl (lv_room (Nat.le_of_ble_eq_true rfl)) dX7_read_1 ⟨Nat.le_of_ble_eq_true rfl, Nat.le_of_ble_eq_true rfl⟩) hS (fun q _ h => hFc q h) hFc (fun u t H1 locs ht hvm hw hB hz1 hk1 hS => ?_)
  obtain ⟨hP1, hK1, hD1⟩ := hB
  rw [ht] at hP1
  have hK1 := va_K.moved hvm.symm hK1
  obtain ⟨hP, hD⟩ := va_join (wr := []) (w1 := []) hP hD [0] [] rfl rfl (by decide) (by decide) hk1 hFc hP1 hD1
  have hK := (hK.sub (tys' := []) [] rfl).app hK1
  generalize H1 = H at hP hS ⊢
  have hP : va_P (dC, dI) vwCl [] H := hP
  have hD : va_D A [] := hD
  have hK : va_K (dC, dI) vwCl [] s := hK
  refine W.widen (k := 0) (n := 0) (Nat.le_of_ble_eq_true rfl) (Nat.le_of_ble_eq_true rfl) ?_
  refine lv_iload_n hx hb dX7_read_4 rfl (lv_at hl 2 rfl) ?_
  refine lv_istore (lv' := [(4, .int 0), (0, .ref q0), (1, .ref q1), (2, .int 0), (3, .int (-1))]) hx hb dX7_read_5 hl (by decide) rfl (fun ls hl => ?_)
  refine lv_iload hx hb dX7_read_7 (lv_at hl 0 rfl) ?_
  refine lv_iload_n hx hb dX7_read_9 rfl (lv_at hl 4 rfl) ?_
  refine lv_icmp_ge (tgt := 53) hx hb dX7_read_10 (by decide) (fun _ => ?_) (fun h9 => absurd (show ((-1) : Int32) ≤ (0 : Int32) by decide +kernel) h9)
  have hP9 := hP.sub (ws' := []) [] rfl
  have hD9 := hD.sub (ws' := []) [] (by decide) rfl
  have hK9 := hK.sub (tys' := []) [] rfl
  exact W.vret hx hb hr (fun t ht hW => ⟨⟨(), rfl, trivial, ⟨by rw [ht]; exact hP9, va_K.moved hW.alike hK9, hD9⟩⟩, hS.F ht⟩) hS.2.2 dX7_read_53
