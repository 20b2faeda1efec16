/-! contracts -/
set_option maxHeartbeats 4000000 in
set_option maxRecDepth 100000 in
theorem c_X11_add (l : Launch) (hfl : l.stackTraces = false) (dC : Nat → ClassId) (dI : Nat → Nat → Nat) (q0 : Nat) (sz : Nat) (p1 : Int32) (p2 : Int32) (hc0 : p1 < 0) : vx_Met l yX11_add wsX11_add ({ frames := 6, cells := 1, slots := 6, locals := 90 }) (va_Pc [.ref q0, .int p1, .int p2] (zB (dC, dI) [] [] sz)) (va_Qi (fun (_ : Int32) (_ : Unit) => False) (fun _ _ => True) (va_A [] sz)) (vx_X (fun (_ : Unit) => True) (fun E _ _ => "java/lang/IllegalArgumentException" = E) (va_A [] sz)) 1 6 (va_A [] sz) := by
  refine vx_ofW (cc := cX11_add) (maxL := 4) (ret := (some .int)) (by decide) rfl ?_
  intro p e s m args below meth c s₁ B hml hnoex hv
  obtain ⟨rfl, hsz, hP, hK, hD0, hZ, hN⟩ := hv
  have hx := B.exec
  have hb := B.bytes
  have hr := B.returns
  have hts := atoms_spec (ws := wsX11_add) B.pre
  have hown : s.vm.findClass RX11 = some m.cls := findClass_of_methodNamed B.named
  have hlocks := B.notSynchronized
  subst hsz
  have hD := hD0.self (sz := s.heap.size)
  generalize hAe : va_A [] s.heap.size = A at hD hZ ⊢
  have hA : ∀ q : Nat, s.heap.size ≤ q → A q := fun q h => by rw [← hAe]; exact Or.inr h
  have hS : va_S A s.heap s.heap [] := va_S.rf
  have hP : va_P (dC, dI) vwCl [] s.heap := hP
  have hl := lv_entry ([.ref q0, .int p1, .int p2]) (n := 4) (Nat.le_of_ble_eq_true rfl)
  rw [lg_entry_eq]
  generalize (lg_sl ([.ref q0, .int p1, .int p2]) ++ List.replicate (4 - (lg_sl ([.ref q0, .int p1, .int p2])).length) Slot.unset).toArray = ls at hl ⊢
  have hl : lv_has ls 4 [(0, .ref q0), (1, .int p1), (2, .int p2)] := hl
  refine lv_iload_n hx hb dX11_add_0 rfl (lv_at hl 1 rfl) ?_
  refine lv_if_lt (tgt := 18) hx hb dX11_add_1 (by decide) (fun _ => ?_) (fun h9 => absurd hc0 h9)
  obtain ⟨sa, hstr⟩ := hN.2.2.2.2.1 (RX11, 117, "no such value or tag") (by decide +kernel)
  refine vx_throwS (A := A) (cls := "java/lang/IllegalArgumentException") (names := ["java/lang/RuntimeException", "java/lang/Exception"]) (own := RX11) (text := "no such value or tag") hx hb hfl hown (by decide +kernel) (by decide +kernel) (hts (.classLink RX11 81 "java/lang/IllegalArgumentException") (by decide +kernel)) (hts (.initialized "java/lang/IllegalArgumentException") (by decide +kernel)) hstr (vx_hat (B := [Cond.castable "java/lang/IllegalArgumentException" "java/lang/IllegalArgumentException", Cond.declares (Bundle.initS "java/lang/RuntimeException"), Cond.declares (Bundle.initS "java/lang/Exception"), Cond.declares (Bundle.initS Bundle.tN)]) (fun w h => hts w (List.mem_cons_of_mem _ (List.mem_append_left _ (List.mem_append_left _ (List.mem_append_left _ (List.mem_append_right _ h)))))) (by decide +kernel) (zthr hN (by decide +kernel))) (by decide +kernel) hZ.1 hZ.2 hS (hl.1.trans hml.symm) dX11_add_18 dX11_add_21 dX11_add_22 dX11_add_24 dX11_add_27 (fun x h => (hnoex x h).elim) (Nat.lt_of_succ_le (Nat.le_of_ble_eq_true rfl)) (Nat.le_of_ble_eq_true rfl) (Nat.le_of_ble_eq_true rfl) (Nat.le_of_ble_eq_true rfl) hlocks ?_ hS.2.2 (Nat.le_refl _) (Nat.le_refl _)
  exact fun t hvm hz hk => ⟨(), trivial, rfl, zF hS hz hk⟩
set_option maxHeartbeats 4000000 in
set_option maxRecDepth 100000 in
theorem c_X13_init (l : Launch) (dC : Nat → ClassId) (dI : Nat → Nat → Nat) (q0 : Nat) (sz : Nat) : Met l yX13_init wsX13_init ({ frames := 1, cells := 43, slots := 5388, locals := 20 }) (va_Pc [.ref q0] (zB (dC, dI) [] [(q0, .inr (15, [.null, .null, .null, .null, .null, .null, .int 0, .int 0, .null, .int 0, .null, .null, .null, .null, .null, .null, .null, .null, .null, .int 0, .null, .null, .null, .null, .null, .int 0, .int 0]))] sz)) (va_Qv (fun (_ : Unit) => True) (fun _ t => ∃ q1 : Nat, ∃ q2 : Nat, ∃ q3 : Nat, ∃ q4 : Nat, ∃ q5 : Nat, ∃ q6 : Nat, ∃ q7 : Nat, ∃ q8 : Nat, ∃ q9 : Nat, ∃ q10 : Nat, ∃ q11 : Nat, ∃ q12 : Nat, ∃ q13 : Nat, ∃ q14 : Nat, ∃ q15 : Nat, ∃ q16 : Nat, ∃ q17 : Nat, ∃ q18 : Nat, ∃ q19 : Nat, ∃ k0 : ClassId, ∃ k1 : ClassId, ∃ k2 : ClassId, ∃ k3 : ClassId, ∃ k4 : ClassId, ∃ k5 : ClassId, ∃ k6 : ClassId, ∃ k7 : ClassId, ∃ k8 : ClassId, zE (dC, dI) [(k0, .boolean), (k1, .int), (k2, .int), (k3, .char), (k4, (.array .long)), (k5, (.array .long)), (k6, .int), (k7, .int), (k8, .boolean)] [(q0, .inr (15, [.ref q1, .ref q2, .ref q3, .ref q4, .ref q5, .ref q6, .int 0, .int 1, .ref q7, .int 0, .ref q8, .null, .ref q9, .null, .ref q10, .ref q11, .ref q12, .ref q13, .ref q14, .int 0, .ref q15, .ref q16, .ref q17, .ref q18, .ref q19, .int 0, .int 0])), (q1, .inl (k0, 24, .inl (fun _ => 0))), (q2, .inl (k1, 24, .inl (fun _ => 0))), (q3, .inl (k2, 24, .inl (fun _ => 0))), (q4, .inl (k3, 24, .inl (fun _ => 0))), (q5, .inl (k4, 24, .inr (.inr (.inr (.inr (fun _ => none)))))), (q6, .inl (k5, 24, .inr (.inr (.inr (.inr (fun _ => none)))))), (q7, .inl (k6, 4000, .inl (fun _ => 0))), (q8, .inl (k7, 0, .inl (fun _ => 0))), (q10, .inl (k8, 24, .inl (fun _ => 0)))] (va_A [(q0, .inr (15, [.null, .null, .null, .null, .null, .null, .int 0, .int 0, .null, .int 0, .null, .null, .null, .null, .null, .null, .null, .null, .null, .int 0, .null, .null, .null, .null, .null, .int 0, .int 0]))] sz) t) (va_A [(q0, .inr (15, [.null, .null, .null, .null, .null, .null, .int 0, .int 0, .null, .int 0, .null, .null, .null, .null, .null, .null, .null, .null, .null, .int 0, .null, .null, .null, .null, .null, .int 0, .int 0]))] sz)) 43 5388 (va_A [(q0, .inr (15, [.null, .null, .null, .null, .null, .null, .int 0, .int 0, .null, .int 0, .null, .null, .null, .null, .null, .null, .null, .null, .null, .int 0, .null, .null, .null, .null, .null, .int 0, .int 0]))] sz) := by
  refine Met.ofW (cc := cX13_init) (maxL := 1) (ret := none) (by decide) rfl ?_
  intro p e s m args below meth c s₁ B hml hv
  obtain ⟨rfl, hsz, hP, hK, hD0, hZ, hN⟩ := hv
  have hx := B.exec
  have hb := B.bytes
  have hr := B.returns
  have hts := atoms_spec (ws := wsX13_init) B.pre
  have hown : s.vm.findClass RX13 = some m.cls := findClass_of_methodNamed B.named
  have hlocks := B.notSynchronized
  have hin : meth.name = "<init>" := (name_of_methodNamed B.named B.method).1
  subst hsz
  have hD := hD0.self (sz := s.heap.size)
  generalize hAe : va_A [(q0, .inr (15, [.null, .null, .null, .null, .null, .null, .int 0, .int 0, .null, .int 0, .null, .null, .null, .null, .null, .null, .null, .null, .null, .int 0, .null, .null, .null, .null, .null, .int 0, .int 0]))] s.heap.size = A at hD hZ ⊢
  have hA : ∀ q : Nat, s.heap.size ≤ q → A q := fun q h => by rw [← hAe]; exact Or.inr h
  have hS : va_S A s.heap s.heap [] := va_S.rf
  have hP : va_P (dC, dI) vwCl [(q0, .inr (15, [.null, .null, .null, .null, .null, .null, .int 0, .int 0, .null, .int 0, .null, .null, .null, .null, .null, .null, .null, .null, .null, .int 0, .null, .null, .null, .null, .null, .int 0, .int 0]))] s.heap := hP
  have hl := lv_entry ([.ref q0]) (n := 1) (Nat.le_of_ble_eq_true rfl)
  rw [lg_entry_eq]
  generalize (lg_sl ([.ref q0]) ++ List.replicate (1 - (lg_sl ([.ref q0])).length) Slot.unset).toArray = ls at hl ⊢
  have hl : lv_has ls 1 [(0, .ref q0)] := hl
  refine lv_aload_n hx hb dX13_init_0 rfl (lv_at hl 0 rfl) ?_
  refine z_objInit hx hb hown (hts (.methodLink RX13 1 objectInit) (by decide +kernel)) (hts (.instanceMethod objectInit) (by decide +kernel)) (hts (.code objectInit ⟨#[0xb1]⟩ 1 none) (by decide +kernel)) (hl.1.trans hml.symm) dX13_init_1 (Nat.le_of_ble_eq_true rfl) (Nat.le_of_ble_eq_true rfl) ?_
  refine lv_aload_n hx hb dX13_init_4 rfl (lv_at hl 0 rfl) ?_
  refine lv_bipush (v := 24) hx hb dX13_init_5 (by decide +kernel) ?_
  refine va_newa (D := (dC, dI)) (atype := .boolean) (ty := .boolean) (a0 := (24, .inl (fun _ => 0))) (N' := 24) hx hb (hts (.arrayClass .boolean) (by decide +kernel)) rfl hK hP hD hS hA (fun _ => rfl) (by decide +kernel) (by decide +kernel) (Nat.le_of_ble_eq_true rfl) (Nat.le_of_ble_eq_true rfl) (Nat.le_of_ble_eq_true rfl) dX13_init_7 (fun q1 k0 H hK hP hD hS => ?_)
  have hP : va_P (dC, dI) vwCl [(q0, .inr (15, [.null, .null, .null, .null, .null, .null, .int 0, .int 0, .null, .int 0, .null, .null, .null, .null, .null, .null, .null, .null, .null, .int 0, .null, .null, .null, .null, .null, .int 0, .int 0])), (q1, .inl (k0, 24, .inl (fun _ => 0)))] H := hP
  have hD : va_D A [(q0, .inr (15, [.null, .null, .null, .null, .null, .null, .int 0, .int 0, .null, .int 0, .null, .null, .null, .null, .null, .null, .null, .null, .null, .int 0, .null, .null, .null, .null, .null, .int 0, .int 0])), (q1, .inl (k0, 24, .inl (fun _ => 0)))] := hD
  have hK : va_K (dC, dI) vwCl [(k0, .boolean)] s := hK
  refine W.widen (k := 1) (n := 24) (Nat.le_of_ble_eq_true rfl) (Nat.le_of_ble_eq_true rfl) ?_
  refine va_putF (D := (dC, dI)) (ci := 15) (v := .ref q1) (ty := (.array .boolean)) (C := RX13) (T := TX13) (N := 27) hx hb hts (fun _ h => List.mem_cons_of_mem _ (List.mem_append_right _ h)) tyX13 tyX13_ok nmX13 hown hK hP hD hS 0 rfl rfl 0 (by decide) (hts (.fieldLink RX13 9 "SeekwellModel" "isThere" "[Z") (by decide +kernel)) (fun _ h9 => h9) rfl hin rfl (by decide +kernel) rfl rfl (Nat.le_of_ble_eq_true rfl) dX13_init_9 (fun H locs hP hD hS => ?_)
  have hP : va_P (dC, dI) vwCl [(q0, .inr (15, [.ref q1, .null, .null, .null, .null, .null, .int 0, .int 0, .null, .int 0, .null, .null, .null, .null, .null, .null, .null, .null, .null, .int 0, .null, .null, .null, .null, .null, .int 0, .int 0])), (q1, .inl (k0, 24, .inl (fun _ => 0)))] H := hP
  have hD : va_D A [(q0, .inr (15, [.ref q1, .null, .null, .null, .null, .null, .int 0, .int 0, .null, .int 0, .null, .null, .null, .null, .null, .null, .null, .null, .null, .int 0, .null, .null, .null, .null, .null, .int 0, .int 0])), (q1, .inl (k0, 24, .inl (fun _ => 0)))] := hD
  refine lv_aload_n hx hb dX13_init_12 rfl (lv_at hl 0 rfl) ?_
  refine lv_bipush (v := 24) hx hb dX13_init_13 (by decide +kernel) ?_
  refine va_newa (D := (dC, dI)) (atype := .int) (ty := .int) (a0 := (24, .inl (fun _ => 0))) (N' := 24) hx hb (hts (.arrayClass .int) (by decide +kernel)) rfl hK hP hD hS hA (fun _ => rfl) (by decide +kernel) (by decide +kernel) (Nat.le_of_ble_eq_true rfl) (Nat.le_of_ble_eq_true rfl) (Nat.le_of_ble_eq_true rfl) dX13_init_15 (fun q2 k1 H hK hP hD hS => ?_)
  have hP : va_P (dC, dI) vwCl [(q0, .inr (15, [.ref q1, .null, .null, .null, .null, .null, .int 0, .int 0, .null, .int 0, .null, .null, .null, .null, .null, .null, .null, .null, .null, .int 0, .null, .null, .null, .null, .null, .int 0, .int 0])), (q1, .inl (k0, 24, .inl (fun _ => 0))), (q2, .inl (k1, 24, .inl (fun _ => 0)))] H := hP
  have hD : va_D A [(q0, .inr (15, [.ref q1, .null, .null, .null, .null, .null, .int 0, .int 0, .null, .int 0, .null, .null, .null, .null, .null, .null, .null, .null, .null, .int 0, .null, .null, .null, .null, .null, .int 0, .int 0])), (q1, .inl (k0, 24, .inl (fun _ => 0))), (q2, .inl (k1, 24, .inl (fun _ => 0)))] := hD
  have hK : va_K (dC, dI) vwCl [(k0, .boolean), (k1, .int)] s := hK
  refine W.widen (k := 2) (n := 48) (Nat.le_of_ble_eq_true rfl) (Nat.le_of_ble_eq_true rfl) ?_
  refine va_putF (D := (dC, dI)) (ci := 15) (v := .ref q2) (ty := (.array .int)) (C := RX13) (T := TX13) (N := 27) hx hb hts (fun _ h => List.mem_cons_of_mem _ (List.mem_append_right _ h)) tyX13 tyX13_ok nmX13 hown hK hP hD hS 0 rfl rfl 1 (by decide) (hts (.fieldLink RX13 13 "SeekwellModel" "values" "[I") (by decide +kernel)) (fun _ h9 => h9) rfl hin rfl (by decide +kernel) rfl rfl (Nat.le_of_ble_eq_true rfl) dX13_init_17 (fun H locs hP hD hS => ?_)
  have hP : va_P (dC, dI) vwCl [(q0, .inr (15, [.ref q1, .ref q2, .null, .null, .null, .null, .int 0, .int 0, .null, .int 0, .null, .null, .null, .null, .null, .null, .null, .null, .null, .int 0, .null, .null, .null, .null, .null, .int 0, .int 0])), (q1, .inl (k0, 24, .inl (fun _ => 0))), (q2, .inl (k1, 24, .inl (fun _ => 0)))] H := hP
  have hD : va_D A [(q0, .inr (15, [.ref q1, .ref q2, .null, .null, .null, .null, .int 0, .int 0, .null, .int 0, .null, .null, .null, .null, .null, .null, .null, .null, .null, .int 0, .null, .null, .null, .null, .null, .int 0, .int 0])), (q1, .inl (k0, 24, .inl (fun _ => 0))), (q2, .inl (k1, 24, .inl (fun _ => 0)))] := hD
  refine lv_aload_n hx hb dX13_init_20 rfl (lv_at hl 0 rfl) ?_
  refine lv_bipush (v := 24) hx hb dX13_init_21 (by decide +kernel) ?_
  refine va_newa (D := (dC, dI)) (atype := .int) (ty := .int) (a0 := (24, .inl (fun _ => 0))) (N' := 24) hx hb (hts (.arrayClass .int) (by decide +kernel)) rfl hK hP hD hS hA (fun _ => rfl) (by decide +kernel) (by decide +kernel) (Nat.le_of_ble_eq_true rfl) (Nat.le_of_ble_eq_true rfl) (Nat.le_of_ble_eq_true rfl) dX13_init_23 (fun q3 k2 H hK hP hD hS => ?_)
  have hP : va_P (dC, dI) vwCl [(q0, .inr (15, [.ref q1, .ref q2, .null, .null, .null, .null, .int 0, .int 0, .null, .int 0, .null, .null, .null, .null, .null, .null, .null, .null, .null, .int 0, .null, .null, .null, .null, .null, .int 0, .int 0])), (q1, .inl (k0, 24, .inl (fun _ => 0))), (q2, .inl (k1, 24, .inl (fun _ => 0))), (q3, .inl (k2, 24, .inl (fun _ => 0)))] H := hP
  have hD : va_D A [(q0, .inr (15, [.ref q1, .ref q2, .null, .null, .null, .null, .int 0, .int 0, .null, .int 0, .null, .null, .null, .null, .null, .null, .null, .null, .null, .int 0, .null, .null, .null, .null, .null, .int 0, .int 0])), (q1, .inl (k0, 24, .inl (fun _ => 0))), (q2, .inl (k1, 24, .inl (fun _ => 0))), (q3, .inl (k2, 24, .inl (fun _ => 0)))] := hD
  have hK : va_K (dC, dI) vwCl [(k0, .boolean), (k1, .int), (k2, .int)] s := hK
  refine W.widen (k := 3) (n := 72) (Nat.le_of_ble_eq_true rfl) (Nat.le_of_ble_eq_true rfl) ?_
  refine va_putF (D := (dC, dI)) (ci := 15) (v := .ref q3) (ty := (.array .int)) (C := RX13) (T := TX13) (N := 27) hx hb hts (fun _ h => List.mem_cons_of_mem _ (List.mem_append_right _ h)) tyX13 tyX13_ok nmX13 hown hK hP hD hS 0 rfl rfl 2 (by decide) (hts (.fieldLink RX13 17 "SeekwellModel" "partOf" "[I") (by decide +kernel)) (fun _ h9 => h9) rfl hin rfl (by decide +kernel) rfl rfl (Nat.le_of_ble_eq_true rfl) dX13_init_25 (fun H locs hP hD hS => ?_)
  have hP : va_P (dC, dI) vwCl [(q0, .inr (15, [.ref q1, .ref q2, .ref q3, .null, .null, .null, .int 0, .int 0, .null, .int 0, .null, .null, .null, .null, .null, .null, .null, .null, .null, .int 0, .null, .null, .null, .null, .null, .int 0, .int 0])), (q1, .inl (k0, 24, .inl (fun _ => 0))), (q2, .inl (k1, 24, .inl (fun _ => 0))), (q3, .inl (k2, 24, .inl (fun _ => 0)))] H := hP
  have hD : va_D A [(q0, .inr (15, [.ref q1, .ref q2, .ref q3, .null, .null, .null, .int 0, .int 0, .null, .int 0, .null, .null, .null, .null, .null, .null, .null, .null, .null, .int 0, .null, .null, .null, .null, .null, .int 0, .int 0])), (q1, .inl (k0, 24, .inl (fun _ => 0))), (q2, .inl (k1, 24, .inl (fun _ => 0))), (q3, .inl (k2, 24, .inl (fun _ => 0)))] := hD
  refine lv_aload_n hx hb dX13_init_28 rfl (lv_at hl 0 rfl) ?_
  refine lv_bipush (v := 24) hx hb dX13_init_29 (by decide +kernel) ?_
  refine va_newa (D := (dC, dI)) (atype := .char) (ty := .char) (a0 := (24, .inl (fun _ => 0))) (N' := 24) hx hb (hts (.arrayClass .char) (by decide +kernel)) rfl hK hP hD hS hA (fun _ => rfl) (by decide +kernel) (by decide +kernel) (Nat.le_of_ble_eq_true rfl) (Nat.le_of_ble_eq_true rfl) (Nat.le_of_ble_eq_true rfl) dX13_init_31 (fun q4 k3 H hK hP hD hS => ?_)
  have hP : va_P (dC, dI) vwCl [(q0, .inr (15, [.ref q1, .ref q2, .ref q3, .null, .null, .null, .int 0, .int 0, .null, .int 0, .null, .null, .null, .null, .null, .null, .null, .null, .null, .int 0, .null, .null, .null, .null, .null, .int 0, .int 0])), (q1, .inl (k0, 24, .inl (fun _ => 0))), (q2, .inl (k1, 24, .inl (fun _ => 0))), (q3, .inl (k2, 24, .inl (fun _ => 0))), (q4, .inl (k3, 24, .inl (fun _ => 0)))] H := hP
  have hD : va_D A [(q0, .inr (15, [.ref q1, .ref q2, .ref q3, .null, .null, .null, .int 0, .int 0, .null, .int 0, .null, .null, .null, .null, .null, .null, .null, .null, .null, .int 0, .null, .null, .null, .null, .null, .int 0, .int 0])), (q1, .inl (k0, 24, .inl (fun _ => 0))), (q2, .inl (k1, 24, .inl (fun _ => 0))), (q3, .inl (k2, 24, .inl (fun _ => 0))), (q4, .inl (k3, 24, .inl (fun _ => 0)))] := hD
  have hK : va_K (dC, dI) vwCl [(k0, .boolean), (k1, .int), (k2, .int), (k3, .char)] s := hK
  refine W.widen (k := 4) (n := 96) (Nat.le_of_ble_eq_true rfl) (Nat.le_of_ble_eq_true rfl) ?_
  refine va_putF (D := (dC, dI)) (ci := 15) (v := .ref q4) (ty := (.array .char)) (C := RX13) (T := TX13) (N := 27) hx hb hts (fun _ h => List.mem_cons_of_mem _ (List.mem_append_right _ h)) tyX13 tyX13_ok nmX13 hown hK hP hD hS 0 rfl rfl 3 (by decide) (hts (.fieldLink RX13 20 "SeekwellModel" "tags" "[C") (by decide +kernel)) (fun _ h9 => h9) rfl hin rfl (by decide +kernel) rfl rfl (Nat.le_of_ble_eq_true rfl) dX13_init_33 (fun H locs hP hD hS => ?_)
  have hP : va_P (dC, dI) vwCl [(q0, .inr (15, [.ref q1, .ref q2, .ref q3, .ref q4, .null, .null, .int 0, .int 0, .null, .int 0, .null, .null, .null, .null, .null, .null, .null, .null, .null, .int 0, .null, .null, .null, .null, .null, .int 0, .int 0])), (q1, .inl (k0, 24, .inl (fun _ => 0))), (q2, .inl (k1, 24, .inl (fun _ => 0))), (q3, .inl (k2, 24, .inl (fun _ => 0))), (q4, .inl (k3, 24, .inl (fun _ => 0)))] H := hP
  have hD : va_D A [(q0, .inr (15, [.ref q1, .ref q2, .ref q3, .ref q4, .null, .null, .int 0, .int 0, .null, .int 0, .null, .null, .null, .null, .null, .null, .null, .null, .null, .int 0, .null, .null, .null, .null, .null, .int 0, .int 0])), (q1, .inl (k0, 24, .inl (fun _ => 0))), (q2, .inl (k1, 24, .inl (fun _ => 0))), (q3, .inl (k2, 24, .inl (fun _ => 0))), (q4, .inl (k3, 24, .inl (fun _ => 0)))] := hD
  refine lv_aload_n hx hb dX13_init_36 rfl (lv_at hl 0 rfl) ?_
  refine lv_bipush (v := 24) hx hb dX13_init_37 (by decide +kernel) ?_
  refine va_newqA (D := (dC, dI)) (ty := .long) (N' := 24) hx hb hown (hts (.classLink RX13 24 "[J") (by decide +kernel)) (hN.2.2.2.1 .long (by decide +kernel)) hK hP hD hS hA (by decide +kernel) (by decide +kernel) (Nat.le_of_ble_eq_true rfl) (Nat.le_of_ble_eq_true rfl) (Nat.le_of_ble_eq_true rfl) dX13_init_39 (fun q5 k4 H hK hP hD hS => ?_)
  have hP : va_P (dC, dI) vwCl [(q0, .inr (15, [.ref q1, .ref q2, .ref q3, .ref q4, .null, .null, .int 0, .int 0, .null, .int 0, .null, .null, .null, .null, .null, .null, .null, .null, .null, .int 0, .null, .null, .null, .null, .null, .int 0, .int 0])), (q1, .inl (k0, 24, .inl (fun _ => 0))), (q2, .inl (k1, 24, .inl (fun _ => 0))), (q3, .inl (k2, 24, .inl (fun _ => 0))), (q4, .inl (k3, 24, .inl (fun _ => 0))), (q5, .inl (k4, 24, .inr (.inr (.inr (.inr (fun _ => none))))))] H := hP
  have hD : va_D A [(q0, .inr (15, [.ref q1, .ref q2, .ref q3, .ref q4, .null, .null, .int 0, .int 0, .null, .int 0, .null, .null, .null, .null, .null, .null, .null, .null, .null, .int 0, .null, .null, .null, .null, .null, .int 0, .int 0])), (q1, .inl (k0, 24, .inl (fun _ => 0))), (q2, .inl (k1, 24, .inl (fun _ => 0))), (q3, .inl (k2, 24, .inl (fun _ => 0))), (q4, .inl (k3, 24, .inl (fun _ => 0))), (q5, .inl (k4, 24, .inr (.inr (.inr (.inr (fun _ => none))))))] := hD
  have hK : va_K (dC, dI) vwCl [(k0, .boolean), (k1, .int), (k2, .int), (k3, .char), (k4, (.array .long))] s := hK
  refine W.widen (k := 5) (n := 120) (Nat.le_of_ble_eq_true rfl) (Nat.le_of_ble_eq_true rfl) ?_
  refine va_putF (D := (dC, dI)) (ci := 15) (v := .ref q5) (ty := (.array (.array .long))) (C := RX13) (T := TX13) (N := 27) hx hb hts (fun _ h => List.mem_cons_of_mem _ (List.mem_append_right _ h)) tyX13 tyX13_ok nmX13 hown hK hP hD hS 0 rfl rfl 4 (by decide) (hts (.fieldLink RX13 26 "SeekwellModel" "titles" "[[J") (by decide +kernel)) (fun _ h9 => h9) rfl hin rfl (by decide +kernel) rfl rfl (Nat.le_of_ble_eq_true rfl) dX13_init_42 (fun H locs hP hD hS => ?_)
  have hP : va_P (dC, dI) vwCl [(q0, .inr (15, [.ref q1, .ref q2, .ref q3, .ref q4, .ref q5, .null, .int 0, .int 0, .null, .int 0, .null, .null, .null, .null, .null, .null, .null, .null, .null, .int 0, .null, .null, .null, .null, .null, .int 0, .int 0])), (q1, .inl (k0, 24, .inl (fun _ => 0))), (q2, .inl (k1, 24, .inl (fun _ => 0))), (q3, .inl (k2, 24, .inl (fun _ => 0))), (q4, .inl (k3, 24, .inl (fun _ => 0))), (q5, .inl (k4, 24, .inr (.inr (.inr (.inr (fun _ => none))))))] H := hP
  have hD : va_D A [(q0, .inr (15, [.ref q1, .ref q2, .ref q3, .ref q4, .ref q5, .null, .int 0, .int 0, .null, .int 0, .null, .null, .null, .null, .null, .null, .null, .null, .null, .int 0, .null, .null, .null, .null, .null, .int 0, .int 0])), (q1, .inl (k0, 24, .inl (fun _ => 0))), (q2, .inl (k1, 24, .inl (fun _ => 0))), (q3, .inl (k2, 24, .inl (fun _ => 0))), (q4, .inl (k3, 24, .inl (fun _ => 0))), (q5, .inl (k4, 24, .inr (.inr (.inr (.inr (fun _ => none))))))] := hD
  refine lv_aload_n hx hb dX13_init_45 rfl (lv_at hl 0 rfl) ?_
  refine lv_bipush (v := 24) hx hb dX13_init_46 (by decide +kernel) ?_
  refine va_newqA (D := (dC, dI)) (ty := .long) (N' := 24) hx hb hown (hts (.classLink RX13 24 "[J") (by decide +kernel)) (hN.2.2.2.1 .long (by decide +kernel)) hK hP hD hS hA (by decide +kernel) (by decide +kernel) (Nat.le_of_ble_eq_true rfl) (Nat.le_of_ble_eq_true rfl) (Nat.le_of_ble_eq_true rfl) dX13_init_48 (fun q6 k5 H hK hP hD hS => ?_)
  have hP : va_P (dC, dI) vwCl [(q0, .inr (15, [.ref q1, .ref q2, .ref q3, .ref q4, .ref q5, .null, .int 0, .int 0, .null, .int 0, .null, .null, .null, .null, .null, .null, .null, .null, .null, .int 0, .null, .null, .null, .null, .null, .int 0, .int 0])), (q1, .inl (k0, 24, .inl (fun _ => 0))), (q2, .inl (k1, 24, .inl (fun _ => 0))), (q3, .inl (k2, 24, .inl (fun _ => 0))), (q4, .inl (k3, 24, .inl (fun _ => 0))), (q5, .inl (k4, 24, .inr (.inr (.inr (.inr (fun _ => none)))))), (q6, .inl (k5, 24, .inr (.inr (.inr (.inr (fun _ => none))))))] H := hP
  have hD : va_D A [(q0, .inr (15, [.ref q1, .ref q2, .ref q3, .ref q4, .ref q5, .null, .int 0, .int 0, .null, .int 0, .null, .null, .null, .null, .null, .null, .null, .null, .null, .int 0, .null, .null, .null, .null, .null, .int 0, .int 0])), (q1, .inl (k0, 24, .inl (fun _ => 0))), (q2, .inl (k1, 24, .inl (fun _ => 0))), (q3, .inl (k2, 24, .inl (fun _ => 0))), (q4, .inl (k3, 24, .inl (fun _ => 0))), (q5, .inl (k4, 24, .inr (.inr (.inr (.inr (fun _ => none)))))), (q6, .inl (k5, 24, .inr (.inr (.inr (.inr (fun _ => none))))))] := hD
  have hK : va_K (dC, dI) vwCl [(k0, .boolean), (k1, .int), (k2, .int), (k3, .char), (k4, (.array .long)), (k5, (.array .long))] s := hK
  refine W.widen (k := 6) (n := 144) (Nat.le_of_ble_eq_true rfl) (Nat.le_of_ble_eq_true rfl) ?_
  refine va_putF (D := (dC, dI)) (ci := 15) (v := .ref q6) (ty := (.array (.array .long))) (C := RX13) (T := TX13) (N := 27) hx hb hts (fun _ h => List.mem_cons_of_mem _ (List.mem_append_right _ h)) tyX13 tyX13_ok nmX13 hown hK hP hD hS 0 rfl rfl 5 (by decide) (hts (.fieldLink RX13 30 "SeekwellModel" "bodies" "[[J") (by decide +kernel)) (fun _ h9 => h9) rfl hin rfl (by decide +kernel) rfl rfl (Nat.le_of_ble_eq_true rfl) dX13_init_51 (fun H locs hP hD hS => ?_)
  have hP : va_P (dC, dI) vwCl [(q0, .inr (15, [.ref q1, .ref q2, .ref q3, .ref q4, .ref q5, .ref q6, .int 0, .int 0, .null, .int 0, .null, .null, .null, .null, .null, .null, .null, .null, .null, .int 0, .null, .null, .null, .null, .null, .int 0, .int 0])), (q1, .inl (k0, 24, .inl (fun _ => 0))), (q2, .inl (k1, 24, .inl (fun _ => 0))), (q3, .inl (k2, 24, .inl (fun _ => 0))), (q4, .inl (k3, 24, .inl (fun _ => 0))), (q5, .inl (k4, 24, .inr (.inr (.inr (.inr (fun _ => none)))))), (q6, .inl (k5, 24, .inr (.inr (.inr (.inr (fun _ => none))))))] H := hP
  have hD : va_D A [(q0, .inr (15, [.ref q1, .ref q2, .ref q3, .ref q4, .ref q5, .ref q6, .int 0, .int 0, .null, .int 0, .null, .null, .null, .null, .null, .null, .null, .null, .null, .int 0, .null, .null, .null, .null, .null, .int 0, .int 0])), (q1, .inl (k0, 24, .inl (fun _ => 0))), (q2, .inl (k1, 24, .inl (fun _ => 0))), (q3, .inl (k2, 24, .inl (fun _ => 0))), (q4, .inl (k3, 24, .inl (fun _ => 0))), (q5, .inl (k4, 24, .inr (.inr (.inr (.inr (fun _ => none)))))), (q6, .inl (k5, 24, .inr (.inr (.inr (.inr (fun _ => none))))))] := hD
  refine lv_aload_n hx hb dX13_init_54 rfl (lv_at hl 0 rfl) ?_
  refine lv_iconst (v := 1) hx hb dX13_init_55 (by decide +kernel) ?_
  refine va_put (D := (dC, dI)) (ci := 15) (v := .int 1) (ty := .int) (C := RX13) (T := TX13) (N := 27) hx hb hts (fun _ h => List.mem_cons_of_mem _ (List.mem_append_right _ h)) tyX13 tyX13_ok nmX13 hown hK hP hD hS 0 rfl rfl 7 (by decide) (hts (.fieldLink RX13 33 "SeekwellModel" "parts" "I") (by decide +kernel)) (fun _ h9 => h9) rfl (by decide +kernel) rfl rfl (Nat.le_of_ble_eq_true rfl) dX13_init_56 (fun H locs hP hD hS => ?_)
  have hP : va_P (dC, dI) vwCl [(q0, .inr (15, [.ref q1, .ref q2, .ref q3, .ref q4, .ref q5, .ref q6, .int 0, .int 1, .null, .int 0, .null, .null, .null, .null, .null, .null, .null, .null, .null, .int 0, .null, .null, .null, .null, .null, .int 0, .int 0])), (q1, .inl (k0, 24, .inl (fun _ => 0))), (q2, .inl (k1, 24, .inl (fun _ => 0))), (q3, .inl (k2, 24, .inl (fun _ => 0))), (q4, .inl (k3, 24, .inl (fun _ => 0))), (q5, .inl (k4, 24, .inr (.inr (.inr (.inr (fun _ => none)))))), (q6, .inl (k5, 24, .inr (.inr (.inr (.inr (fun _ => none))))))] H := hP
  have hD : va_D A [(q0, .inr (15, [.ref q1, .ref q2, .ref q3, .ref q4, .ref q5, .ref q6, .int 0, .int 1, .null, .int 0, .null, .null, .null, .null, .null, .null, .null, .null, .null, .int 0, .null, .null, .null, .null, .null, .int 0, .int 0])), (q1, .inl (k0, 24, .inl (fun _ => 0))), (q2, .inl (k1, 24, .inl (fun _ => 0))), (q3, .inl (k2, 24, .inl (fun _ => 0))), (q4, .inl (k3, 24, .inl (fun _ => 0))), (q5, .inl (k4, 24, .inr (.inr (.inr (.inr (fun _ => none)))))), (q6, .inl (k5, 24, .inr (.inr (.inr (.inr (fun _ => none))))))] := hD
  refine lv_aload_n hx hb dX13_init_59 rfl (lv_at hl 0 rfl) ?_
  refine lv_sipush (v := 4000) hx hb dX13_init_60 (by decide +kernel) ?_
  refine va_newa (D := (dC, dI)) (atype := .int) (ty := .int) (a0 := (4000, .inl (fun _ => 0))) (N' := 4000) hx hb (hts (.arrayClass .int) (by decide +kernel)) rfl hK hP hD hS hA (fun _ => rfl) (by decide +kernel) (by decide +kernel) (Nat.le_of_ble_eq_true rfl) (Nat.le_of_ble_eq_true rfl) (Nat.le_of_ble_eq_true rfl) dX13_init_63 (fun q7 k6 H hK hP hD hS => ?_)
  have hP : va_P (dC, dI) vwCl [(q0, .inr (15, [.ref q1, .ref q2, .ref q3, .ref q4, .ref q5, .ref q6, .int 0, .int 1, .null, .int 0, .null, .null, .null, .null, .null, .null, .null, .null, .null, .int 0, .null, .null, .null, .null, .null, .int 0, .int 0])), (q1, .inl (k0, 24, .inl (fun _ => 0))), (q2, .inl (k1, 24, .inl (fun _ => 0))), (q3, .inl (k2, 24, .inl (fun _ => 0))), (q4, .inl (k3, 24, .inl (fun _ => 0))), (q5, .inl (k4, 24, .inr (.inr (.inr (.inr (fun _ => none)))))), (q6, .inl (k5, 24, .inr (.inr (.inr (.inr (fun _ => none)))))), (q7, .inl (k6, 4000, .inl (fun _ => 0)))] H := hP
  have hD : va_D A [(q0, .inr (15, [.ref q1, .ref q2, .ref q3, .ref q4, .ref q5, .ref q6, .int 0, .int 1, .null, .int 0, .null, .null, .null, .null, .null, .null, .null, .null, .null, .int 0, .null, .null, .null, .null, .null, .int 0, .int 0])), (q1, .inl (k0, 24, .inl (fun _ => 0))), (q2, .inl (k1, 24, .inl (fun _ => 0))), (q3, .inl (k2, 24, .inl (fun _ => 0))), (q4, .inl (k3, 24, .inl (fun _ => 0))), (q5, .inl (k4, 24, .inr (.inr (.inr (.inr (fun _ => none)))))), (q6, .inl (k5, 24, .inr (.inr (.inr (.inr (fun _ => none)))))), (q7, .inl (k6, 4000, .inl (fun _ => 0)))] := hD
  have hK : va_K (dC, dI) vwCl [(k0, .boolean), (k1, .int), (k2, .int), (k3, .char), (k4, (.array .long)), (k5, (.array .long)), (k6, .int)] s := hK
  refine W.widen (k := 7) (n := 4144) (Nat.le_of_ble_eq_true rfl) (Nat.le_of_ble_eq_true rfl) ?_
  refine va_putF (D := (dC, dI)) (ci := 15) (v := .ref q7) (ty := (.array .int)) (C := RX13) (T := TX13) (N := 27) hx hb hts (fun _ h => List.mem_cons_of_mem _ (List.mem_append_right _ h)) tyX13 tyX13_ok nmX13 hown hK hP hD hS 0 rfl rfl 8 (by decide) (hts (.fieldLink RX13 37 "SeekwellModel" "signs" "[I") (by decide +kernel)) (fun _ h9 => h9) rfl hin rfl (by decide +kernel) rfl rfl (Nat.le_of_ble_eq_true rfl) dX13_init_65 (fun H locs hP hD hS => ?_)
  have hP : va_P (dC, dI) vwCl [(q0, .inr (15, [.ref q1, .ref q2, .ref q3, .ref q4, .ref q5, .ref q6, .int 0, .int 1, .ref q7, .int 0, .null, .null, .null, .null, .null, .null, .null, .null, .null, .int 0, .null, .null, .null, .null, .null, .int 0, .int 0])), (q1, .inl (k0, 24, .inl (fun _ => 0))), (q2, .inl (k1, 24, .inl (fun _ => 0))), (q3, .inl (k2, 24, .inl (fun _ => 0))), (q4, .inl (k3, 24, .inl (fun _ => 0))), (q5, .inl (k4, 24, .inr (.inr (.inr (.inr (fun _ => none)))))), (q6, .inl (k5, 24, .inr (.inr (.inr (.inr (fun _ => none)))))), (q7, .inl (k6, 4000, .inl (fun _ => 0)))] H := hP
  have hD : va_D A [(q0, .inr (15, [.ref q1, .ref q2, .ref q3, .ref q4, .ref q5, .ref q6, .int 0, .int 1, .ref q7, .int 0, .null, .null, .null, .null, .null, .null, .null, .null, .null, .int 0, .null, .null, .null, .null, .null, .int 0, .int 0])), (q1, .inl (k0, 24, .inl (fun _ => 0))), (q2, .inl (k1, 24, .inl (fun _ => 0))), (q3, .inl (k2, 24, .inl (fun _ => 0))), (q4, .inl (k3, 24, .inl (fun _ => 0))), (q5, .inl (k4, 24, .inr (.inr (.inr (.inr (fun _ => none)))))), (q6, .inl (k5, 24, .inr (.inr (.inr (.inr (fun _ => none)))))), (q7, .inl (k6, 4000, .inl (fun _ => 0)))] := hD
  refine lv_aload_n hx hb dX13_init_68 rfl (lv_at hl 0 rfl) ?_
  refine lv_iconst (v := 0) hx hb dX13_init_69 (by decide +kernel) ?_
  refine va_newa (D := (dC, dI)) (atype := .int) (ty := .int) (a0 := (0, .inl (fun _ => 0))) (N' := 0) hx hb (hts (.arrayClass .int) (by decide +kernel)) rfl hK hP hD hS hA (fun _ => rfl) (by decide +kernel) (by decide +kernel) (Nat.le_of_ble_eq_true rfl) (Nat.le_of_ble_eq_true rfl) (Nat.le_of_ble_eq_true rfl) dX13_init_70 (fun q8 k7 H hK hP hD hS => ?_)
  have hP : va_P (dC, dI) vwCl [(q0, .inr (15, [.ref q1, .ref q2, .ref q3, .ref q4, .ref q5, .ref q6, .int 0, .int 1, .ref q7, .int 0, .null, .null, .null, .null, .null, .null, .null, .null, .null, .int 0, .null, .null, .null, .null, .null, .int 0, .int 0])), (q1, .inl (k0, 24, .inl (fun _ => 0))), (q2, .inl (k1, 24, .inl (fun _ => 0))), (q3, .inl (k2, 24, .inl (fun _ => 0))), (q4, .inl (k3, 24, .inl (fun _ => 0))), (q5, .inl (k4, 24, .inr (.inr (.inr (.inr (fun _ => none)))))), (q6, .inl (k5, 24, .inr (.inr (.inr (.inr (fun _ => none)))))), (q7, .inl (k6, 4000, .inl (fun _ => 0))), (q8, .inl (k7, 0, .inl (fun _ => 0)))] H := hP
  have hD : va_D A [(q0, .inr (15, [.ref q1, .ref q2, .ref q3, .ref q4, .ref q5, .ref q6, .int 0, .int 1, .ref q7, .int 0, .null, .null, .null, .null, .null, .null, .null, .null, .null, .int 0, .null, .null, .null, .null, .null, .int 0, .int 0])), (q1, .inl (k0, 24, .inl (fun _ => 0))), (q2, .inl (k1, 24, .inl (fun _ => 0))), (q3, .inl (k2, 24, .inl (fun _ => 0))), (q4, .inl (k3, 24, .inl (fun _ => 0))), (q5, .inl (k4, 24, .inr (.inr (.inr (.inr (fun _ => none)))))), (q6, .inl (k5, 24, .inr (.inr (.inr (.inr (fun _ => none)))))), (q7, .inl (k6, 4000, .inl (fun _ => 0))), (q8, .inl (k7, 0, .inl (fun _ => 0)))] := hD
  have hK : va_K (dC, dI) vwCl [(k0, .boolean), (k1, .int), (k2, .int), (k3, .char), (k4, (.array .long)), (k5, (.array .long)), (k6, .int), (k7, .int)] s := hK
  refine W.widen (k := 8) (n := 4144) (Nat.le_of_ble_eq_true rfl) (Nat.le_of_ble_eq_true rfl) ?_
  refine va_put (D := (dC, dI)) (ci := 15) (v := .ref q8) (ty := (.array .int)) (C := RX13) (T := TX13) (N := 27) hx hb hts (fun _ h => List.mem_cons_of_mem _ (List.mem_append_right _ h)) tyX13 tyX13_ok nmX13 hown hK hP hD hS 0 rfl rfl 10 (by decide) (hts (.fieldLink RX13 40 "SeekwellModel" "row" "[I") (by decide +kernel)) (fun _ h9 => h9) rfl (by decide +kernel) rfl rfl (Nat.le_of_ble_eq_true rfl) dX13_init_72 (fun H locs hP hD hS => ?_)
  have hP : va_P (dC, dI) vwCl [(q0, .inr (15, [.ref q1, .ref q2, .ref q3, .ref q4, .ref q5, .ref q6, .int 0, .int 1, .ref q7, .int 0, .ref q8, .null, .null, .null, .null, .null, .null, .null, .null, .int 0, .null, .null, .null, .null, .null, .int 0, .int 0])), (q1, .inl (k0, 24, .inl (fun _ => 0))), (q2, .inl (k1, 24, .inl (fun _ => 0))), (q3, .inl (k2, 24, .inl (fun _ => 0))), (q4, .inl (k3, 24, .inl (fun _ => 0))), (q5, .inl (k4, 24, .inr (.inr (.inr (.inr (fun _ => none)))))), (q6, .inl (k5, 24, .inr (.inr (.inr (.inr (fun _ => none)))))), (q7, .inl (k6, 4000, .inl (fun _ => 0))), (q8, .inl (k7, 0, .inl (fun _ => 0)))] H := hP
  have hD : va_D A [(q0, .inr (15, [.ref q1, .ref q2, .ref q3, .ref q4, .ref q5, .ref q6, .int 0, .int 1, .ref q7, .int 0, .ref q8, .null, .null, .null, .null, .null, .null, .null, .null, .int 0, .null, .null, .null, .null, .null, .int 0, .int 0])), (q1, .inl (k0, 24, .inl (fun _ => 0))), (q2, .inl (k1, 24, .inl (fun _ => 0))), (q3, .inl (k2, 24, .inl (fun _ => 0))), (q4, .inl (k3, 24, .inl (fun _ => 0))), (q5, .inl (k4, 24, .inr (.inr (.inr (.inr (fun _ => none)))))), (q6, .inl (k5, 24, .inr (.inr (.inr (.inr (fun _ => none)))))), (q7, .inl (k6, 4000, .inl (fun _ => 0))), (q8, .inl (k7, 0, .inl (fun _ => 0)))] := hD
  refine lv_aload_n hx hb dX13_init_75 rfl (lv_at hl 0 rfl) ?_
  refine lv_iconst (v := 4) hx hb dX13_init_76 (by decide +kernel) ?_
  refine va_newq (D := (dC, dI)) (C := "SeekwellModel$Node") (N' := 4) hx hb hown (hts (.classLink RX13 43 "SeekwellModel$Node") (by decide +kernel)) (hN.2.2.1 "SeekwellModel$Node" (by decide +kernel)) hK hP hD hS hA (by decide +kernel) (by decide +kernel) (Nat.le_of_ble_eq_true rfl) (Nat.le_of_ble_eq_true rfl) (Nat.le_of_ble_eq_true rfl) dX13_init_77 (fun q9 k9 H hK hP hD hS => ?_)
  have hP : va_P (dC, dI) vwCl [(q0, .inr (15, [.ref q1, .ref q2, .ref q3, .ref q4, .ref q5, .ref q6, .int 0, .int 1, .ref q7, .int 0, .ref q8, .null, .null, .null, .null, .null, .null, .null, .null, .int 0, .null, .null, .null, .null, .null, .int 0, .int 0])), (q1, .inl (k0, 24, .inl (fun _ => 0))), (q2, .inl (k1, 24, .inl (fun _ => 0))), (q3, .inl (k2, 24, .inl (fun _ => 0))), (q4, .inl (k3, 24, .inl (fun _ => 0))), (q5, .inl (k4, 24, .inr (.inr (.inr (.inr (fun _ => none)))))), (q6, .inl (k5, 24, .inr (.inr (.inr (.inr (fun _ => none)))))), (q7, .inl (k6, 4000, .inl (fun _ => 0))), (q8, .inl (k7, 0, .inl (fun _ => 0))), (q9, .inl (k9, 4, .inr (.inr (.inr (.inr (fun _ => none))))))] H := hP
  have hD : va_D A [(q0, .inr (15, [.ref q1, .ref q2, .ref q3, .ref q4, .ref q5, .ref q6, .int 0, .int 1, .ref q7, .int 0, .ref q8, .null, .null, .null, .null, .null, .null, .null, .null, .int 0, .null, .null, .null, .null, .null, .int 0, .int 0])), (q1, .inl (k0, 24, .inl (fun _ => 0))), (q2, .inl (k1, 24, .inl (fun _ => 0))), (q3, .inl (k2, 24, .inl (fun _ => 0))), (q4, .inl (k3, 24, .inl (fun _ => 0))), (q5, .inl (k4, 24, .inr (.inr (.inr (.inr (fun _ => none)))))), (q6, .inl (k5, 24, .inr (.inr (.inr (.inr (fun _ => none)))))), (q7, .inl (k6, 4000, .inl (fun _ => 0))), (q8, .inl (k7, 0, .inl (fun _ => 0))), (q9, .inl (k9, 4, .inr (.inr (.inr (.inr (fun _ => none))))))] := hD
  have hK : va_K (dC, dI) vwCl [(k0, .boolean), (k1, .int), (k2, .int), (k3, .char), (k4, (.array .long)), (k5, (.array .long)), (k6, .int), (k7, .int), (k9, (.object "SeekwellModel$Node"))] s := hK
  refine W.widen (k := 9) (n := 4148) (Nat.le_of_ble_eq_true rfl) (Nat.le_of_ble_eq_true rfl) ?_
  refine va_putF (D := (dC, dI)) (ci := 15) (v := .ref q9) (ty := (.array (.object "SeekwellModel$Node"))) (C := RX13) (T := TX13) (N := 27) hx hb hts (fun _ h => List.mem_cons_of_mem _ (List.mem_append_right _ h)) tyX13 tyX13_ok nmX13 hown hK hP hD hS 0 rfl rfl 12 (by decide) (hts (.fieldLink RX13 45 "SeekwellModel" "saved" "[LSeekwellModel$Node;") (by decide +kernel)) (fun _ h9 => h9) rfl hin rfl (by decide +kernel) rfl rfl (Nat.le_of_ble_eq_true rfl) dX13_init_80 (fun H locs hP hD hS => ?_)
  have hP : va_P (dC, dI) vwCl [(q0, .inr (15, [.ref q1, .ref q2, .ref q3, .ref q4, .ref q5, .ref q6, .int 0, .int 1, .ref q7, .int 0, .ref q8, .null, .ref q9, .null, .null, .null, .null, .null, .null, .int 0, .null, .null, .null, .null, .null, .int 0, .int 0])), (q1, .inl (k0, 24, .inl (fun _ => 0))), (q2, .inl (k1, 24, .inl (fun _ => 0))), (q3, .inl (k2, 24, .inl (fun _ => 0))), (q4, .inl (k3, 24, .inl (fun _ => 0))), (q5, .inl (k4, 24, .inr (.inr (.inr (.inr (fun _ => none)))))), (q6, .inl (k5, 24, .inr (.inr (.inr (.inr (fun _ => none)))))), (q7, .inl (k6, 4000, .inl (fun _ => 0))), (q8, .inl (k7, 0, .inl (fun _ => 0))), (q9, .inl (k9, 4, .inr (.inr (.inr (.inr (fun _ => none))))))] H := hP
  have hD : va_D A [(q0, .inr (15, [.ref q1, .ref q2, .ref q3, .ref q4, .ref q5, .ref q6, .int 0, .int 1, .ref q7, .int 0, .ref q8, .null, .ref q9, .null, .null, .null, .null, .null, .null, .int 0, .null, .null, .null, .null, .null, .int 0, .int 0])), (q1, .inl (k0, 24, .inl (fun _ => 0))), (q2, .inl (k1, 24, .inl (fun _ => 0))), (q3, .inl (k2, 24, .inl (fun _ => 0))), (q4, .inl (k3, 24, .inl (fun _ => 0))), (q5, .inl (k4, 24, .inr (.inr (.inr (.inr (fun _ => none)))))), (q6, .inl (k5, 24, .inr (.inr (.inr (.inr (fun _ => none)))))), (q7, .inl (k6, 4000, .inl (fun _ => 0))), (q8, .inl (k7, 0, .inl (fun _ => 0))), (q9, .inl (k9, 4, .inr (.inr (.inr (.inr (fun _ => none))))))] := hD
  refine lv_aload_n hx hb dX13_init_83 rfl (lv_at hl 0 rfl) ?_
  refine lv_bipush (v := 24) hx hb dX13_init_84 (by decide +kernel) ?_
  refine va_newa (D := (dC, dI)) (atype := .boolean) (ty := .boolean) (a0 := (24, .inl (fun _ => 0))) (N' := 24) hx hb (hts (.arrayClass .boolean) (by decide +kernel)) rfl hK hP hD hS hA (fun _ => rfl) (by decide +kernel) (by decide +kernel) (Nat.le_of_ble_eq_true rfl) (Nat.le_of_ble_eq_true rfl) (Nat.le_of_ble_eq_true rfl) dX13_init_86 (fun q10 k8 H hK hP hD hS => ?_)
  have hP : va_P (dC, dI) vwCl [(q0, .inr (15, [.ref q1, .ref q2, .ref q3, .ref q4, .ref q5, .ref q6, .int 0, .int 1, .ref q7, .int 0, .ref q8, .null, .ref q9, .null, .null, .null, .null, .null, .null, .int 0, .null, .null, .null, .null, .null, .int 0, .int 0])), (q1, .inl (k0, 24, .inl (fun _ => 0))), (q2, .inl (k1, 24, .inl (fun _ => 0))), (q3, .inl (k2, 24, .inl (fun _ => 0))), (q4, .inl (k3, 24, .inl (fun _ => 0))), (q5, .inl (k4, 24, .inr (.inr (.inr (.inr (fun _ => none)))))), (q6, .inl (k5, 24, .inr (.inr (.inr (.inr (fun _ => none)))))), (q7, .inl (k6, 4000, .inl (fun _ => 0))), (q8, .inl (k7, 0, .inl (fun _ => 0))), (q9, .inl (k9, 4, .inr (.inr (.inr (.inr (fun _ => none)))))), (q10, .inl (k8, 24, .inl (fun _ => 0)))] H := hP
  have hD : va_D A [(q0, .inr (15, [.ref q1, .ref q2, .ref q3, .ref q4, .ref q5, .ref q6, .int 0, .int 1, .ref q7, .int 0, .ref q8, .null, .ref q9, .null, .null, .null, .null, .null, .null, .int 0, .null, .null, .null, .null, .null, .int 0, .int 0])), (q1, .inl (k0, 24, .inl (fun _ => 0))), (q2, .inl (k1, 24, .inl (fun _ => 0))), (q3, .inl (k2, 24, .inl (fun _ => 0))), (q4, .inl (k3, 24, .inl (fun _ => 0))), (q5, .inl (k4, 24, .inr (.inr (.inr (.inr (fun _ => none)))))), (q6, .inl (k5, 24, .inr (.inr (.inr (.inr (fun _ => none)))))), (q7, .inl (k6, 4000, .inl (fun _ => 0))), (q8, .inl (k7, 0, .inl (fun _ => 0))), (q9, .inl (k9, 4, .inr (.inr (.inr (.inr (fun _ => none)))))), (q10, .inl (k8, 24, .inl (fun _ => 0)))] := hD
  have hK : va_K (dC, dI) vwCl [(k0, .boolean), (k1, .int), (k2, .int), (k3, .char), (k4, (.array .long)), (k5, (.array .long)), (k6, .int), (k7, .int), (k9, (.object "SeekwellModel$Node")), (k8, .boolean)] s := hK
  refine W.widen (k := 10) (n := 4172) (Nat.le_of_ble_eq_true rfl) (Nat.le_of_ble_eq_true rfl) ?_
  refine va_putF (D := (dC, dI)) (ci := 15) (v := .ref q10) (ty := (.array .boolean)) (C := RX13) (T := TX13) (N := 27) hx hb hts (fun _ h => List.mem_cons_of_mem _ (List.mem_append_right _ h)) tyX13 tyX13_ok nmX13 hown hK hP hD hS 0 rfl rfl 14 (by decide) (hts (.fieldLink RX13 49 "SeekwellModel" "wasThere" "[Z") (by decide +kernel)) (fun _ h9 => h9) rfl hin rfl (by decide +kernel) rfl rfl (Nat.le_of_ble_eq_true rfl) dX13_init_88 (fun H locs hP hD hS => ?_)
  have hP : va_P (dC, dI) vwCl [(q0, .inr (15, [.ref q1, .ref q2, .ref q3, .ref q4, .ref q5, .ref q6, .int 0, .int 1, .ref q7, .int 0, .ref q8, .null, .ref q9, .null, .ref q10, .null, .null, .null, .null, .int 0, .null, .null, .null, .null, .null, .int 0, .int 0])), (q1, .inl (k0, 24, .inl (fun _ => 0))), (q2, .inl (k1, 24, .inl (fun _ => 0))), (q3, .inl (k2, 24, .inl (fun _ => 0))), (q4, .inl (k3, 24, .inl (fun _ => 0))), (q5, .inl (k4, 24, .inr (.inr (.inr (.inr (fun _ => none)))))), (q6, .inl (k5, 24, .inr (.inr (.inr (.inr (fun _ => none)))))), (q7, .inl (k6, 4000, .inl (fun _ => 0))), (q8, .inl (k7, 0, .inl (fun _ => 0))), (q9, .inl (k9, 4, .inr (.inr (.inr (.inr (fun _ => none)))))), (q10, .inl (k8, 24, .inl (fun _ => 0)))] H := hP
  have hD : va_D A [(q0, .inr (15, [.ref q1, .ref q2, .ref q3, .ref q4, .ref q5, .ref q6, .int 0, .int 1, .ref q7, .int 0, .ref q8, .null, .ref q9, .null, .ref q10, .null, .null, .null, .null, .int 0, .null, .null, .null, .null, .null, .int 0, .int 0])), (q1, .inl (k0, 24, .inl (fun _ => 0))), (q2, .inl (k1, 24, .inl (fun _ => 0))), (q3, .inl (k2, 24, .inl (fun _ => 0))), (q4, .inl (k3, 24, .inl (fun _ => 0))), (q5, .inl (k4, 24, .inr (.inr (.inr (.inr (fun _ => none)))))), (q6, .inl (k5, 24, .inr (.inr (.inr (.inr (fun _ => none)))))), (q7, .inl (k6, 4000, .inl (fun _ => 0))), (q8, .inl (k7, 0, .inl (fun _ => 0))), (q9, .inl (k9, 4, .inr (.inr (.inr (.inr (fun _ => none)))))), (q10, .inl (k8, 24, .inl (fun _ => 0)))] := hD
  refine lv_aload_n hx hb dX13_init_91 rfl (lv_at hl 0 rfl) ?_
  refine lv_bipush (v := 24) hx hb dX13_init_92 (by decide +kernel) ?_
  refine va_newa (D := (dC, dI)) (atype := .int) (ty := .int) (a0 := (24, .inl (fun _ => 0))) (N' := 24) hx hb (hts (.arrayClass .int) (by decide +kernel)) rfl hK hP hD hS hA (fun _ => rfl) (by decide +kernel) (by decide +kernel) (Nat.le_of_ble_eq_true rfl) (Nat.le_of_ble_eq_true rfl) (Nat.le_of_ble_eq_true rfl) dX13_init_94 (fun q11 k10 H hK hP hD hS => ?_)
  have hP : va_P (dC, dI) vwCl [(q0, .inr (15, [.ref q1, .ref q2, .ref q3, .ref q4, .ref q5, .ref q6, .int 0, .int 1, .ref q7, .int 0, .ref q8, .null, .ref q9, .null, .ref q10, .null, .null, .null, .null, .int 0, .null, .null, .null, .null, .null, .int 0, .int 0])), (q1, .inl (k0, 24, .inl (fun _ => 0))), (q2, .inl (k1, 24, .inl (fun _ => 0))), (q3, .inl (k2, 24, .inl (fun _ => 0))), (q4, .inl (k3, 24, .inl (fun _ => 0))), (q5, .inl (k4, 24, .inr (.inr (.inr (.inr (fun _ => none)))))), (q6, .inl (k5, 24, .inr (.inr (.inr (.inr (fun _ => none)))))), (q7, .inl (k6, 4000, .inl (fun _ => 0))), (q8, .inl (k7, 0, .inl (fun _ => 0))), (q9, .inl (k9, 4, .inr (.inr (.inr (.inr (fun _ => none)))))), (q10, .inl (k8, 24, .inl (fun _ => 0))), (q11, .inl (k10, 24, .inl (fun _ => 0)))] H := hP
  have hD : va_D A [(q0, .inr (15, [.ref q1, .ref q2, .ref q3, .ref q4, .ref q5, .ref q6, .int 0, .int 1, .ref q7, .int 0, .ref q8, .null, .ref q9, .null, .ref q10, .null, .null, .null, .null, .int 0, .null, .null, .null, .null, .null, .int 0, .int 0])), (q1, .inl (k0, 24, .inl (fun _ => 0))), (q2, .inl (k1, 24, .inl (fun _ => 0))), (q3, .inl (k2, 24, .inl (fun _ => 0))), (q4, .inl (k3, 24, .inl (fun _ => 0))), (q5, .inl (k4, 24, .inr (.inr (.inr (.inr (fun _ => none)))))), (q6, .inl (k5, 24, .inr (.inr (.inr (.inr (fun _ => none)))))), (q7, .inl (k6, 4000, .inl (fun _ => 0))), (q8, .inl (k7, 0, .inl (fun _ => 0))), (q9, .inl (k9, 4, .inr (.inr (.inr (.inr (fun _ => none)))))), (q10, .inl (k8, 24, .inl (fun _ => 0))), (q11, .inl (k10, 24, .inl (fun _ => 0)))] := hD
  have hK : va_K (dC, dI) vwCl [(k0, .boolean), (k1, .int), (k2, .int), (k3, .char), (k4, (.array .long)), (k5, (.array .long)), (k6, .int), (k7, .int), (k9, (.object "SeekwellModel$Node")), (k8, .boolean), (k10, .int)] s := hK
  refine W.widen (k := 11) (n := 4196) (Nat.le_of_ble_eq_true rfl) (Nat.le_of_ble_eq_true rfl) ?_
  refine va_putF (D := (dC, dI)) (ci := 15) (v := .ref q11) (ty := (.array .int)) (C := RX13) (T := TX13) (N := 27) hx hb hts (fun _ h => List.mem_cons_of_mem _ (List.mem_append_right _ h)) tyX13 tyX13_ok nmX13 hown hK hP hD hS 0 rfl rfl 15 (by decide) (hts (.fieldLink RX13 52 "SeekwellModel" "wasValues" "[I") (by decide +kernel)) (fun _ h9 => h9) rfl hin rfl (by decide +kernel) rfl rfl (Nat.le_of_ble_eq_true rfl) dX13_init_96 (fun H locs hP hD hS => ?_)
  have hP : va_P (dC, dI) vwCl [(q0, .inr (15, [.ref q1, .ref q2, .ref q3, .ref q4, .ref q5, .ref q6, .int 0, .int 1, .ref q7, .int 0, .ref q8, .null, .ref q9, .null, .ref q10, .ref q11, .null, .null, .null, .int 0, .null, .null, .null, .null, .null, .int 0, .int 0])), (q1, .inl (k0, 24, .inl (fun _ => 0))), (q2, .inl (k1, 24, .inl (fun _ => 0))), (q3, .inl (k2, 24, .inl (fun _ => 0))), (q4, .inl (k3, 24, .inl (fun _ => 0))), (q5, .inl (k4, 24, .inr (.inr (.inr (.inr (fun _ => none)))))), (q6, .inl (k5, 24, .inr (.inr (.inr (.inr (fun _ => none)))))), (q7, .inl (k6, 4000, .inl (fun _ => 0))), (q8, .inl (k7, 0, .inl (fun _ => 0))), (q9, .inl (k9, 4, .inr (.inr (.inr (.inr (fun _ => none)))))), (q10, .inl (k8, 24, .inl (fun _ => 0))), (q11, .inl (k10, 24, .inl (fun _ => 0)))] H := hP
  have hD : va_D A [(q0, .inr (15, [.ref q1, .ref q2, .ref q3, .ref q4, .ref q5, .ref q6, .int 0, .int 1, .ref q7, .int 0, .ref q8, .null, .ref q9, .null, .ref q10, .ref q11, .null, .null, .null, .int 0, .null, .null, .null, .null, .null, .int 0, .int 0])), (q1, .inl (k0, 24, .inl (fun _ => 0))), (q2, .inl (k1, 24, .inl (fun _ => 0))), (q3, .inl (k2, 24, .inl (fun _ => 0))), (q4, .inl (k3, 24, .inl (fun _ => 0))), (q5, .inl (k4, 24, .inr (.inr (.inr (.inr (fun _ => none)))))), (q6, .inl (k5, 24, .inr (.inr (.inr (.inr (fun _ => none)))))), (q7, .inl (k6, 4000, .inl (fun _ => 0))), (q8, .inl (k7, 0, .inl (fun _ => 0))), (q9, .inl (k9, 4, .inr (.inr (.inr (.inr (fun _ => none)))))), (q10, .inl (k8, 24, .inl (fun _ => 0))), (q11, .inl (k10, 24, .inl (fun _ => 0)))] := hD
  refine lv_aload_n hx hb dX13_init_99 rfl (lv_at hl 0 rfl) ?_
  refine lv_bipush (v := 24) hx hb dX13_init_100 (by decide +kernel) ?_
  refine va_newa (D := (dC, dI)) (atype := .char) (ty := .char) (a0 := (24, .inl (fun _ => 0))) (N' := 24) hx hb (hts (.arrayClass .char) (by decide +kernel)) rfl hK hP hD hS hA (fun _ => rfl) (by decide +kernel) (by decide +kernel) (Nat.le_of_ble_eq_true rfl) (Nat.le_of_ble_eq_true rfl) (Nat.le_of_ble_eq_true rfl) dX13_init_102 (fun q12 k11 H hK hP hD hS => ?_)
  have hP : va_P (dC, dI) vwCl [(q0, .inr (15, [.ref q1, .ref q2, .ref q3, .ref q4, .ref q5, .ref q6, .int 0, .int 1, .ref q7, .int 0, .ref q8, .null, .ref q9, .null, .ref q10, .ref q11, .null, .null, .null, .int 0, .null, .null, .null, .null, .null, .int 0, .int 0])), (q1, .inl (k0, 24, .inl (fun _ => 0))), (q2, .inl (k1, 24, .inl (fun _ => 0))), (q3, .inl (k2, 24, .inl (fun _ => 0))), (q4, .inl (k3, 24, .inl (fun _ => 0))), (q5, .inl (k4, 24, .inr (.inr (.inr (.inr (fun _ => none)))))), (q6, .inl (k5, 24, .inr (.inr (.inr (.inr (fun _ => none)))))), (q7, .inl (k6, 4000, .inl (fun _ => 0))), (q8, .inl (k7, 0, .inl (fun _ => 0))), (q9, .inl (k9, 4, .inr (.inr (.inr (.inr (fun _ => none)))))), (q10, .inl (k8, 24, .inl (fun _ => 0))), (q11, .inl (k10, 24, .inl (fun _ => 0))), (q12, .inl (k11, 24, .inl (fun _ => 0)))] H := hP
  have hD : va_D A [(q0, .inr (15, [.ref q1, .ref q2, .ref q3, .ref q4, .ref q5, .ref q6, .int 0, .int 1, .ref q7, .int 0, .ref q8, .null, .ref q9, .null, .ref q10, .ref q11, .null, .null, .null, .int 0, .null, .null, .null, .null, .null, .int 0, .int 0])), (q1, .inl (k0, 24, .inl (fun _ => 0))), (q2, .inl (k1, 24, .inl (fun _ => 0))), (q3, .inl (k2, 24, .inl (fun _ => 0))), (q4, .inl (k3, 24, .inl (fun _ => 0))), (q5, .inl (k4, 24, .inr (.inr (.inr (.inr (fun _ => none)))))), (q6, .inl (k5, 24, .inr (.inr (.inr (.inr (fun _ => none)))))), (q7, .inl (k6, 4000, .inl (fun _ => 0))), (q8, .inl (k7, 0, .inl (fun _ => 0))), (q9, .inl (k9, 4, .inr (.inr (.inr (.inr (fun _ => none)))))), (q10, .inl (k8, 24, .inl (fun _ => 0))), (q11, .inl (k10, 24, .inl (fun _ => 0))), (q12, .inl (k11, 24, .inl (fun _ => 0)))] := hD
  have hK : va_K (dC, dI) vwCl [(k0, .boolean), (k1, .int), (k2, .int), (k3, .char), (k4, (.array .long)), (k5, (.array .long)), (k6, .int), (k7, .int), (k9, (.object "SeekwellModel$Node")), (k8, .boolean), (k10, .int), (k11, .char)] s := hK
  refine W.widen (k := 12) (n := 4220) (Nat.le_of_ble_eq_true rfl) (Nat.le_of_ble_eq_true rfl) ?_
  refine va_putF (D := (dC, dI)) (ci := 15) (v := .ref q12) (ty := (.array .char)) (C := RX13) (T := TX13) (N := 27) hx hb hts (fun _ h => List.mem_cons_of_mem _ (List.mem_append_right _ h)) tyX13 tyX13_ok nmX13 hown hK hP hD hS 0 rfl rfl 16 (by decide) (hts (.fieldLink RX13 55 "SeekwellModel" "wasTags" "[C") (by decide +kernel)) (fun _ h9 => h9) rfl hin rfl (by decide +kernel) rfl rfl (Nat.le_of_ble_eq_true rfl) dX13_init_104 (fun H locs hP hD hS => ?_)
  have hP : va_P (dC, dI) vwCl [(q0, .inr (15, [.ref q1, .ref q2, .ref q3, .ref q4, .ref q5, .ref q6, .int 0, .int 1, .ref q7, .int 0, .ref q8, .null, .ref q9, .null, .ref q10, .ref q11, .ref q12, .null, .null, .int 0, .null, .null, .null, .null, .null, .int 0, .int 0])), (q1, .inl (k0, 24, .inl (fun _ => 0))), (q2, .inl (k1, 24, .inl (fun _ => 0))), (q3, .inl (k2, 24, .inl (fun _ => 0))), (q4, .inl (k3, 24, .inl (fun _ => 0))), (q5, .inl (k4, 24, .inr (.inr (.inr (.inr (fun _ => none)))))), (q6, .inl (k5, 24, .inr (.inr (.inr (.inr (fun _ => none)))))), (q7, .inl (k6, 4000, .inl (fun _ => 0))), (q8, .inl (k7, 0, .inl (fun _ => 0))), (q9, .inl (k9, 4, .inr (.inr (.inr (.inr (fun _ => none)))))), (q10, .inl (k8, 24, .inl (fun _ => 0))), (q11, .inl (k10, 24, .inl (fun _ => 0))), (q12, .inl (k11, 24, .inl (fun _ => 0)))] H := hP
  have hD : va_D A [(q0, .inr (15, [.ref q1, .ref q2, .ref q3, .ref q4, .ref q5, .ref q6, .int 0, .int 1, .ref q7, .int 0, .ref q8, .null, .ref q9, .null, .ref q10, .ref q11, .ref q12, .null, .null, .int 0, .null, .null, .null, .null, .null, .int 0, .int 0])), (q1, .inl (k0, 24, .inl (fun _ => 0))), (q2, .inl (k1, 24, .inl (fun _ => 0))), (q3, .inl (k2, 24, .inl (fun _ => 0))), (q4, .inl (k3, 24, .inl (fun _ => 0))), (q5, .inl (k4, 24, .inr (.inr (.inr (.inr (fun _ => none)))))), (q6, .inl (k5, 24, .inr (.inr (.inr (.inr (fun _ => none)))))), (q7, .inl (k6, 4000, .inl (fun _ => 0))), (q8, .inl (k7, 0, .inl (fun _ => 0))), (q9, .inl (k9, 4, .inr (.inr (.inr (.inr (fun _ => none)))))), (q10, .inl (k8, 24, .inl (fun _ => 0))), (q11, .inl (k10, 24, .inl (fun _ => 0))), (q12, .inl (k11, 24, .inl (fun _ => 0)))] := hD
  refine lv_aload_n hx hb dX13_init_107 rfl (lv_at hl 0 rfl) ?_
  refine lv_bipush (v := 24) hx hb dX13_init_108 (by decide +kernel) ?_
  refine va_newqA (D := (dC, dI)) (ty := .long) (N' := 24) hx hb hown (hts (.classLink RX13 24 "[J") (by decide +kernel)) (hN.2.2.2.1 .long (by decide +kernel)) hK hP hD hS hA (by decide +kernel) (by decide +kernel) (Nat.le_of_ble_eq_true rfl) (Nat.le_of_ble_eq_true rfl) (Nat.le_of_ble_eq_true rfl) dX13_init_110 (fun q13 k12 H hK hP hD hS => ?_)
  have hP : va_P (dC, dI) vwCl [(q0, .inr (15, [.ref q1, .ref q2, .ref q3, .ref q4, .ref q5, .ref q6, .int 0, .int 1, .ref q7, .int 0, .ref q8, .null, .ref q9, .null, .ref q10, .ref q11, .ref q12, .null, .null, .int 0, .null, .null, .null, .null, .null, .int 0, .int 0])), (q1, .inl (k0, 24, .inl (fun _ => 0))), (q2, .inl (k1, 24, .inl (fun _ => 0))), (q3, .inl (k2, 24, .inl (fun _ => 0))), (q4, .inl (k3, 24, .inl (fun _ => 0))), (q5, .inl (k4, 24, .inr (.inr (.inr (.inr (fun _ => none)))))), (q6, .inl (k5, 24, .inr (.inr (.inr (.inr (fun _ => none)))))), (q7, .inl (k6, 4000, .inl (fun _ => 0))), (q8, .inl (k7, 0, .inl (fun _ => 0))), (q9, .inl (k9, 4, .inr (.inr (.inr (.inr (fun _ => none)))))), (q10, .inl (k8, 24, .inl (fun _ => 0))), (q11, .inl (k10, 24, .inl (fun _ => 0))), (q12, .inl (k11, 24, .inl (fun _ => 0))), (q13, .inl (k12, 24, .inr (.inr (.inr (.inr (fun _ => none))))))] H := hP
  have hD : va_D A [(q0, .inr (15, [.ref q1, .ref q2, .ref q3, .ref q4, .ref q5, .ref q6, .int 0, .int 1, .ref q7, .int 0, .ref q8, .null, .ref q9, .null, .ref q10, .ref q11, .ref q12, .null, .null, .int 0, .null, .null, .null, .null, .null, .int 0, .int 0])), (q1, .inl (k0, 24, .inl (fun _ => 0))), (q2, .inl (k1, 24, .inl (fun _ => 0))), (q3, .inl (k2, 24, .inl (fun _ => 0))), (q4, .inl (k3, 24, .inl (fun _ => 0))), (q5, .inl (k4, 24, .inr (.inr (.inr (.inr (fun _ => none)))))), (q6, .inl (k5, 24, .inr (.inr (.inr (.inr (fun _ => none)))))), (q7, .inl (k6, 4000, .inl (fun _ => 0))), (q8, .inl (k7, 0, .inl (fun _ => 0))), (q9, .inl (k9, 4, .inr (.inr (.inr (.inr (fun _ => none)))))), (q10, .inl (k8, 24, .inl (fun _ => 0))), (q11, .inl (k10, 24, .inl (fun _ => 0))), (q12, .inl (k11, 24, .inl (fun _ => 0))), (q13, .inl (k12, 24, .inr (.inr (.inr (.inr (fun _ => none))))))] := hD
  have hK : va_K (dC, dI) vwCl [(k0, .boolean), (k1, .int), (k2, .int), (k3, .char), (k4, (.array .long)), (k5, (.array .long)), (k6, .int), (k7, .int), (k9, (.object "SeekwellModel$Node")), (k8, .boolean), (k10, .int), (k11, .char), (k12, (.array .long))] s := hK
  refine W.widen (k := 13) (n := 4244) (Nat.le_of_ble_eq_true rfl) (Nat.le_of_ble_eq_true rfl) ?_
  refine va_putF (D := (dC, dI)) (ci := 15) (v := .ref q13) (ty := (.array (.array .long))) (C := RX13) (T := TX13) (N := 27) hx hb hts (fun _ h => List.mem_cons_of_mem _ (List.mem_append_right _ h)) tyX13 tyX13_ok nmX13 hown hK hP hD hS 0 rfl rfl 17 (by decide) (hts (.fieldLink RX13 58 "SeekwellModel" "wasTitles" "[[J") (by decide +kernel)) (fun _ h9 => h9) rfl hin rfl (by decide +kernel) rfl rfl (Nat.le_of_ble_eq_true rfl) dX13_init_113 (fun H locs hP hD hS => ?_)
  have hP : va_P (dC, dI) vwCl [(q0, .inr (15, [.ref q1, .ref q2, .ref q3, .ref q4, .ref q5, .ref q6, .int 0, .int 1, .ref q7, .int 0, .ref q8, .null, .ref q9, .null, .ref q10, .ref q11, .ref q12, .ref q13, .null, .int 0, .null, .null, .null, .null, .null, .int 0, .int 0])), (q1, .inl (k0, 24, .inl (fun _ => 0))), (q2, .inl (k1, 24, .inl (fun _ => 0))), (q3, .inl (k2, 24, .inl (fun _ => 0))), (q4, .inl (k3, 24, .inl (fun _ => 0))), (q5, .inl (k4, 24, .inr (.inr (.inr (.inr (fun _ => none)))))), (q6, .inl (k5, 24, .inr (.inr (.inr (.inr (fun _ => none)))))), (q7, .inl (k6, 4000, .inl (fun _ => 0))), (q8, .inl (k7, 0, .inl (fun _ => 0))), (q9, .inl (k9, 4, .inr (.inr (.inr (.inr (fun _ => none)))))), (q10, .inl (k8, 24, .inl (fun _ => 0))), (q11, .inl (k10, 24, .inl (fun _ => 0))), (q12, .inl (k11, 24, .inl (fun _ => 0))), (q13, .inl (k12, 24, .inr (.inr (.inr (.inr (fun _ => none))))))] H := hP
  have hD : va_D A [(q0, .inr (15, [.ref q1, .ref q2, .ref q3, .ref q4, .ref q5, .ref q6, .int 0, .int 1, .ref q7, .int 0, .ref q8, .null, .ref q9, .null, .ref q10, .ref q11, .ref q12, .ref q13, .null, .int 0, .null, .null, .null, .null, .null, .int 0, .int 0])), (q1, .inl (k0, 24, .inl (fun _ => 0))), (q2, .inl (k1, 24, .inl (fun _ => 0))), (q3, .inl (k2, 24, .inl (fun _ => 0))), (q4, .inl (k3, 24, .inl (fun _ => 0))), (q5, .inl (k4, 24, .inr (.inr (.inr (.inr (fun _ => none)))))), (q6, .inl (k5, 24, .inr (.inr (.inr (.inr (fun _ => none)))))), (q7, .inl (k6, 4000, .inl (fun _ => 0))), (q8, .inl (k7, 0, .inl (fun _ => 0))), (q9, .inl (k9, 4, .inr (.inr (.inr (.inr (fun _ => none)))))), (q10, .inl (k8, 24, .inl (fun _ => 0))), (q11, .inl (k10, 24, .inl (fun _ => 0))), (q12, .inl (k11, 24, .inl (fun _ => 0))), (q13, .inl (k12, 24, .inr (.inr (.inr (.inr (fun _ => none))))))] := hD
  refine lv_aload_n hx hb dX13_init_116 rfl (lv_at hl 0 rfl) ?_
  refine lv_bipush (v := 24) hx hb dX13_init_117 (by decide +kernel) ?_
  refine va_newqA (D := (dC, dI)) (ty := .long) (N' := 24) hx hb hown (hts (.classLink RX13 24 "[J") (by decide +kernel)) (hN.2.2.2.1 .long (by decide +kernel)) hK hP hD hS hA (by decide +kernel) (by decide +kernel) (Nat.le_of_ble_eq_true rfl) (Nat.le_of_ble_eq_true rfl) (Nat.le_of_ble_eq_true rfl) dX13_init_119 (fun q14 k13 H hK hP hD hS => ?_)
  have hP : va_P (dC, dI) vwCl [(q0, .inr (15, [.ref q1, .ref q2, .ref q3, .ref q4, .ref q5, .ref q6, .int 0, .int 1, .ref q7, .int 0, .ref q8, .null, .ref q9, .null, .ref q10, .ref q11, .ref q12, .ref q13, .null, .int 0, .null, .null, .null, .null, .null, .int 0, .int 0])), (q1, .inl (k0, 24, .inl (fun _ => 0))), (q2, .inl (k1, 24, .inl (fun _ => 0))), (q3, .inl (k2, 24, .inl (fun _ => 0))), (q4, .inl (k3, 24, .inl (fun _ => 0))), (q5, .inl (k4, 24, .inr (.inr (.inr (.inr (fun _ => none)))))), (q6, .inl (k5, 24, .inr (.inr (.inr (.inr (fun _ => none)))))), (q7, .inl (k6, 4000, .inl (fun _ => 0))), (q8, .inl (k7, 0, .inl (fun _ => 0))), (q9, .inl (k9, 4, .inr (.inr (.inr (.inr (fun _ => none)))))), (q10, .inl (k8, 24, .inl (fun _ => 0))), (q11, .inl (k10, 24, .inl (fun _ => 0))), (q12, .inl (k11, 24, .inl (fun _ => 0))), (q13, .inl (k12, 24, .inr (.inr (.inr (.inr (fun _ => none)))))), (q14, .inl (k13, 24, .inr (.inr (.inr (.inr (fun _ => none))))))] H := hP
  have hD : va_D A [(q0, .inr (15, [.ref q1, .ref q2, .ref q3, .ref q4, .ref q5, .ref q6, .int 0, .int 1, .ref q7, .int 0, .ref q8, .null, .ref q9, .null, .ref q10, .ref q11, .ref q12, .ref q13, .null, .int 0, .null, .null, .null, .null, .null, .int 0, .int 0])), (q1, .inl (k0, 24, .inl (fun _ => 0))), (q2, .inl (k1, 24, .inl (fun _ => 0))), (q3, .inl (k2, 24, .inl (fun _ => 0))), (q4, .inl (k3, 24, .inl (fun _ => 0))), (q5, .inl (k4, 24, .inr (.inr (.inr (.inr (fun _ => none)))))), (q6, .inl (k5, 24, .inr (.inr (.inr (.inr (fun _ => none)))))), (q7, .inl (k6, 4000, .inl (fun _ => 0))), (q8, .inl (k7, 0, .inl (fun _ => 0))), (q9, .inl (k9, 4, .inr (.inr (.inr (.inr (fun _ => none)))))), (q10, .inl (k8, 24, .inl (fun _ => 0))), (q11, .inl (k10, 24, .inl (fun _ => 0))), (q12, .inl (k11, 24, .inl (fun _ => 0))), (q13, .inl (k12, 24, .inr (.inr (.inr (.inr (fun _ => none)))))), (q14, .inl (k13, 24, .inr (.inr (.inr (.inr (fun _ => none))))))] := hD
  have hK : va_K (dC, dI) vwCl [(k0, .boolean), (k1, .int), (k2, .int), (k3, .char), (k4, (.array .long)), (k5, (.array .long)), (k6, .int), (k7, .int), (k9, (.object "SeekwellModel$Node")), (k8, .boolean), (k10, .int), (k11, .char), (k12, (.array .long)), (k13, (.array .long))] s := hK
  refine W.widen (k := 14) (n := 4268) (Nat.le_of_ble_eq_true rfl) (Nat.le_of_ble_eq_true rfl) ?_
  refine va_putF (D := (dC, dI)) (ci := 15) (v := .ref q14) (ty := (.array (.array .long))) (C := RX13) (T := TX13) (N := 27) hx hb hts (fun _ h => List.mem_cons_of_mem _ (List.mem_append_right _ h)) tyX13 tyX13_ok nmX13 hown hK hP hD hS 0 rfl rfl 18 (by decide) (hts (.fieldLink RX13 61 "SeekwellModel" "wasBodies" "[[J") (by decide +kernel)) (fun _ h9 => h9) rfl hin rfl (by decide +kernel) rfl rfl (Nat.le_of_ble_eq_true rfl) dX13_init_122 (fun H locs hP hD hS => ?_)
  have hP : va_P (dC, dI) vwCl [(q0, .inr (15, [.ref q1, .ref q2, .ref q3, .ref q4, .ref q5, .ref q6, .int 0, .int 1, .ref q7, .int 0, .ref q8, .null, .ref q9, .null, .ref q10, .ref q11, .ref q12, .ref q13, .ref q14, .int 0, .null, .null, .null, .null, .null, .int 0, .int 0])), (q1, .inl (k0, 24, .inl (fun _ => 0))), (q2, .inl (k1, 24, .inl (fun _ => 0))), (q3, .inl (k2, 24, .inl (fun _ => 0))), (q4, .inl (k3, 24, .inl (fun _ => 0))), (q5, .inl (k4, 24, .inr (.inr (.inr (.inr (fun _ => none)))))), (q6, .inl (k5, 24, .inr (.inr (.inr (.inr (fun _ => none)))))), (q7, .inl (k6, 4000, .inl (fun _ => 0))), (q8, .inl (k7, 0, .inl (fun _ => 0))), (q9, .inl (k9, 4, .inr (.inr (.inr (.inr (fun _ => none)))))), (q10, .inl (k8, 24, .inl (fun _ => 0))), (q11, .inl (k10, 24, .inl (fun _ => 0))), (q12, .inl (k11, 24, .inl (fun _ => 0))), (q13, .inl (k12, 24, .inr (.inr (.inr (.inr (fun _ => none)))))), (q14, .inl (k13, 24, .inr (.inr (.inr (.inr (fun _ => none))))))] H := hP
  have hD : va_D A [(q0, .inr (15, [.ref q1, .ref q2, .ref q3, .ref q4, .ref q5, .ref q6, .int 0, .int 1, .ref q7, .int 0, .ref q8, .null, .ref q9, .null, .ref q10, .ref q11, .ref q12, .ref q13, .ref q14, .int 0, .null, .null, .null, .null, .null, .int 0, .int 0])), (q1, .inl (k0, 24, .inl (fun _ => 0))), (q2, .inl (k1, 24, .inl (fun _ => 0))), (q3, .inl (k2, 24, .inl (fun _ => 0))), (q4, .inl (k3, 24, .inl (fun _ => 0))), (q5, .inl (k4, 24, .inr (.inr (.inr (.inr (fun _ => none)))))), (q6, .inl (k5, 24, .inr (.inr (.inr (.inr (fun _ => none)))))), (q7, .inl (k6, 4000, .inl (fun _ => 0))), (q8, .inl (k7, 0, .inl (fun _ => 0))), (q9, .inl (k9, 4, .inr (.inr (.inr (.inr (fun _ => none)))))), (q10, .inl (k8, 24, .inl (fun _ => 0))), (q11, .inl (k10, 24, .inl (fun _ => 0))), (q12, .inl (k11, 24, .inl (fun _ => 0))), (q13, .inl (k12, 24, .inr (.inr (.inr (.inr (fun _ => none)))))), (q14, .inl (k13, 24, .inr (.inr (.inr (.inr (fun _ => none))))))] := hD
  refine lv_aload_n hx hb dX13_init_125 rfl (lv_at hl 0 rfl) ?_
  refine lv_bipush (v := 16) hx hb dX13_init_126 (by decide +kernel) ?_
  refine va_newqA (D := (dC, dI)) (ty := .int) (N' := 16) hx hb hown (hts (.classLink RX13 64 "[I") (by decide +kernel)) (hN.2.2.2.1 .int (by decide +kernel)) hK hP hD hS hA (by decide +kernel) (by decide +kernel) (Nat.le_of_ble_eq_true rfl) (Nat.le_of_ble_eq_true rfl) (Nat.le_of_ble_eq_true rfl) dX13_init_128 (fun q15 k14 H hK hP hD hS => ?_)
  have hP : va_P (dC, dI) vwCl [(q0, .inr (15, [.ref q1, .ref q2, .ref q3, .ref q4, .ref q5, .ref q6, .int 0, .int 1, .ref q7, .int 0, .ref q8, .null, .ref q9, .null, .ref q10, .ref q11, .ref q12, .ref q13, .ref q14, .int 0, .null, .null, .null, .null, .null, .int 0, .int 0])), (q1, .inl (k0, 24, .inl (fun _ => 0))), (q2, .inl (k1, 24, .inl (fun _ => 0))), (q3, .inl (k2, 24, .inl (fun _ => 0))), (q4, .inl (k3, 24, .inl (fun _ => 0))), (q5, .inl (k4, 24, .inr (.inr (.inr (.inr (fun _ => none)))))), (q6, .inl (k5, 24, .inr (.inr (.inr (.inr (fun _ => none)))))), (q7, .inl (k6, 4000, .inl (fun _ => 0))), (q8, .inl (k7, 0, .inl (fun _ => 0))), (q9, .inl (k9, 4, .inr (.inr (.inr (.inr (fun _ => none)))))), (q10, .inl (k8, 24, .inl (fun _ => 0))), (q11, .inl (k10, 24, .inl (fun _ => 0))), (q12, .inl (k11, 24, .inl (fun _ => 0))), (q13, .inl (k12, 24, .inr (.inr (.inr (.inr (fun _ => none)))))), (q14, .inl (k13, 24, .inr (.inr (.inr (.inr (fun _ => none)))))), (q15, .inl (k14, 16, .inr (.inr (.inr (.inr (fun _ => none))))))] H := hP
  have hD : va_D A [(q0, .inr (15, [.ref q1, .ref q2, .ref q3, .ref q4, .ref q5, .ref q6, .int 0, .int 1, .ref q7, .int 0, .ref q8, .null, .ref q9, .null, .ref q10, .ref q11, .ref q12, .ref q13, .ref q14, .int 0, .null, .null, .null, .null, .null, .int 0, .int 0])), (q1, .inl (k0, 24, .inl (fun _ => 0))), (q2, .inl (k1, 24, .inl (fun _ => 0))), (q3, .inl (k2, 24, .inl (fun _ => 0))), (q4, .inl (k3, 24, .inl (fun _ => 0))), (q5, .inl (k4, 24, .inr (.inr (.inr (.inr (fun _ => none)))))), (q6, .inl (k5, 24, .inr (.inr (.inr (.inr (fun _ => none)))))), (q7, .inl (k6, 4000, .inl (fun _ => 0))), (q8, .inl (k7, 0, .inl (fun _ => 0))), (q9, .inl (k9, 4, .inr (.inr (.inr (.inr (fun _ => none)))))), (q10, .inl (k8, 24, .inl (fun _ => 0))), (q11, .inl (k10, 24, .inl (fun _ => 0))), (q12, .inl (k11, 24, .inl (fun _ => 0))), (q13, .inl (k12, 24, .inr (.inr (.inr (.inr (fun _ => none)))))), (q14, .inl (k13, 24, .inr (.inr (.inr (.inr (fun _ => none)))))), (q15, .inl (k14, 16, .inr (.inr (.inr (.inr (fun _ => none))))))] := hD
  have hK : va_K (dC, dI) vwCl [(k0, .boolean), (k1, .int), (k2, .int), (k3, .char), (k4, (.array .long)), (k5, (.array .long)), (k6, .int), (k7, .int), (k9, (.object "SeekwellModel$Node")), (k8, .boolean), (k10, .int), (k11, .char), (k12, (.array .long)), (k13, (.array .long)), (k14, (.array .int))] s := hK
  refine W.widen (k := 15) (n := 4284) (Nat.le_of_ble_eq_true rfl) (Nat.le_of_ble_eq_true rfl) ?_
  refine va_put (D := (dC, dI)) (ci := 15) (v := .ref q15) (ty := (.array (.array .int))) (C := RX13) (T := TX13) (N := 27) hx hb hts (fun _ h => List.mem_cons_of_mem _ (List.mem_append_right _ h)) tyX13 tyX13_ok nmX13 hown hK hP hD hS 0 rfl rfl 20 (by decide) (hts (.fieldLink RX13 65 "SeekwellModel" "weights" "[[I") (by decide +kernel)) (fun _ h9 => h9) rfl (by decide +kernel) rfl rfl (Nat.le_of_ble_eq_true rfl) dX13_init_131 (fun H locs hP hD hS => ?_)
  have hP : va_P (dC, dI) vwCl [(q0, .inr (15, [.ref q1, .ref q2, .ref q3, .ref q4, .ref q5, .ref q6, .int 0, .int 1, .ref q7, .int 0, .ref q8, .null, .ref q9, .null, .ref q10, .ref q11, .ref q12, .ref q13, .ref q14, .int 0, .ref q15, .null, .null, .null, .null, .int 0, .int 0])), (q1, .inl (k0, 24, .inl (fun _ => 0))), (q2, .inl (k1, 24, .inl (fun _ => 0))), (q3, .inl (k2, 24, .inl (fun _ => 0))), (q4, .inl (k3, 24, .inl (fun _ => 0))), (q5, .inl (k4, 24, .inr (.inr (.inr (.inr (fun _ => none)))))), (q6, .inl (k5, 24, .inr (.inr (.inr (.inr (fun _ => none)))))), (q7, .inl (k6, 4000, .inl (fun _ => 0))), (q8, .inl (k7, 0, .inl (fun _ => 0))), (q9, .inl (k9, 4, .inr (.inr (.inr (.inr (fun _ => none)))))), (q10, .inl (k8, 24, .inl (fun _ => 0))), (q11, .inl (k10, 24, .inl (fun _ => 0))), (q12, .inl (k11, 24, .inl (fun _ => 0))), (q13, .inl (k12, 24, .inr (.inr (.inr (.inr (fun _ => none)))))), (q14, .inl (k13, 24, .inr (.inr (.inr (.inr (fun _ => none)))))), (q15, .inl (k14, 16, .inr (.inr (.inr (.inr (fun _ => none))))))] H := hP
  have hD : va_D A [(q0, .inr (15, [.ref q1, .ref q2, .ref q3, .ref q4, .ref q5, .ref q6, .int 0, .int 1, .ref q7, .int 0, .ref q8, .null, .ref q9, .null, .ref q10, .ref q11, .ref q12, .ref q13, .ref q14, .int 0, .ref q15, .null, .null, .null, .null, .int 0, .int 0])), (q1, .inl (k0, 24, .inl (fun _ => 0))), (q2, .inl (k1, 24, .inl (fun _ => 0))), (q3, .inl (k2, 24, .inl (fun _ => 0))), (q4, .inl (k3, 24, .inl (fun _ => 0))), (q5, .inl (k4, 24, .inr (.inr (.inr (.inr (fun _ => none)))))), (q6, .inl (k5, 24, .inr (.inr (.inr (.inr (fun _ => none)))))), (q7, .inl (k6, 4000, .inl (fun _ => 0))), (q8, .inl (k7, 0, .inl (fun _ => 0))), (q9, .inl (k9, 4, .inr (.inr (.inr (.inr (fun _ => none)))))), (q10, .inl (k8, 24, .inl (fun _ => 0))), (q11, .inl (k10, 24, .inl (fun _ => 0))), (q12, .inl (k11, 24, .inl (fun _ => 0))), (q13, .inl (k12, 24, .inr (.inr (.inr (.inr (fun _ => none)))))), (q14, .inl (k13, 24, .inr (.inr (.inr (.inr (fun _ => none)))))), (q15, .inl (k14, 16, .inr (.inr (.inr (.inr (fun _ => none))))))] := hD
  refine lv_aload_n hx hb dX13_init_134 rfl (lv_at hl 0 rfl) ?_
  refine lv_bipush (v := 24) hx hb dX13_init_135 (by decide +kernel) ?_
  refine lv_bipush (v := 40) hx hb dX13_init_137 (by decide +kernel) ?_
  obtain ⟨cy9, hcy9⟩ := hN.2.2.2.2.2.1
  have hPm : va_P (dC, dI) vwCl ([(q0, .inr (15, [.ref q1, .ref q2, .ref q3, .ref q4, .ref q5, .ref q6, .int 0, .int 1, .ref q7, .int 0, .ref q8, .null, .ref q9, .null, .ref q10, .ref q11, .ref q12, .ref q13, .ref q14, .int 0, .ref q15, .null, .null, .null, .null, .int 0, .int 0])), (q1, .inl (k0, 24, .inl (fun _ => 0))), (q2, .inl (k1, 24, .inl (fun _ => 0))), (q3, .inl (k2, 24, .inl (fun _ => 0))), (q4, .inl (k3, 24, .inl (fun _ => 0))), (q5, .inl (k4, 24, .inr (.inr (.inr (.inr (fun _ => none)))))), (q6, .inl (k5, 24, .inr (.inr (.inr (.inr (fun _ => none)))))), (q7, .inl (k6, 4000, .inl (fun _ => 0))), (q8, .inl (k7, 0, .inl (fun _ => 0))), (q9, .inl (k9, 4, .inr (.inr (.inr (.inr (fun _ => none)))))), (q10, .inl (k8, 24, .inl (fun _ => 0))), (q11, .inl (k10, 24, .inl (fun _ => 0))), (q12, .inl (k11, 24, .inl (fun _ => 0))), (q13, .inl (k12, 24, .inr (.inr (.inr (.inr (fun _ => none)))))), (q14, .inl (k13, 24, .inr (.inr (.inr (.inr (fun _ => none)))))), (q15, .inl (k14, 16, .inr (.inr (.inr (.inr (fun _ => none))))))] ++ va_pl [] (fun _ => (.inl (0, 0, .inl (fun _ => 0)) : va_E))) H := by rw [show va_pl [] (fun _ => (.inl (0, 0, .inl (fun _ => 0)) : va_E)) = [] from rfl, List.append_nil]; exact hP
  have hDm : va_D A ([(q0, .inr (15, [.ref q1, .ref q2, .ref q3, .ref q4, .ref q5, .ref q6, .int 0, .int 1, .ref q7, .int 0, .ref q8, .null, .ref q9, .null, .ref q10, .ref q11, .ref q12, .ref q13, .ref q14, .int 0, .ref q15, .null, .null, .null, .null, .int 0, .int 0])), (q1, .inl (k0, 24, .inl (fun _ => 0))), (q2, .inl (k1, 24, .inl (fun _ => 0))), (q3, .inl (k2, 24, .inl (fun _ => 0))), (q4, .inl (k3, 24, .inl (fun _ => 0))), (q5, .inl (k4, 24, .inr (.inr (.inr (.inr (fun _ => none)))))), (q6, .inl (k5, 24, .inr (.inr (.inr (.inr (fun _ => none)))))), (q7, .inl (k6, 4000, .inl (fun _ => 0))), (q8, .inl (k7, 0, .inl (fun _ => 0))), (q9, .inl (k9, 4, .inr (.inr (.inr (.inr (fun _ => none)))))), (q10, .inl (k8, 24, .inl (fun _ => 0))), (q11, .inl (k10, 24, .inl (fun _ => 0))), (q12, .inl (k11, 24, .inl (fun _ => 0))), (q13, .inl (k12, 24, .inr (.inr (.inr (.inr (fun _ => none)))))), (q14, .inl (k13, 24, .inr (.inr (.inr (.inr (fun _ => none)))))), (q15, .inl (k14, 16, .inr (.inr (.inr (.inr (fun _ => none))))))] ++ va_pl [] (fun _ => (.inl (0, 0, .inl (fun _ => 0)) : va_E))) := by rw [show va_pl [] (fun _ => (.inl (0, 0, .inl (fun _ => 0)) : va_E)) = [] from rfl, List.append_nil]; exact hD
  refine va_mna (D := (dC, dI)) (ty := .int) (cy := cy9) (N' := 24) (K' := 40) (z := (40, .inl (fun _ => 0))) hx hb hown (hts (.classLink RX13 69 "[[I") (by decide +kernel)) (hN.2.2.2.1 .int (by decide +kernel)) (hts (.arrayClass .int) (by decide +kernel)) hcy9 hK hPm hDm hS hA (by decide +kernel) (by decide +kernel) (by decide +kernel) (by decide +kernel) (Nat.le_of_ble_eq_true rfl) (Nat.le_of_ble_eq_true rfl) (Nat.le_of_ble_eq_true rfl) (by decide +kernel) (by decide +kernel) (Nat.le_of_ble_eq_true rfl) (Nat.le_of_ble_eq_true rfl) (fun _ => rfl) dX13_init_139 (fun q16 r9 k15 H _ _ hK hP hD hS => ?_)
  have hP := hP.sub (ws' := [(q0, .inr (15, [.ref q1, .ref q2, .ref q3, .ref q4, .ref q5, .ref q6, .int 0, .int 1, .ref q7, .int 0, .ref q8, .null, .ref q9, .null, .ref q10, .ref q11, .ref q12, .ref q13, .ref q14, .int 0, .ref q15, .null, .null, .null, .null, .int 0, .int 0])), (q1, .inl (k0, 24, .inl (fun _ => 0))), (q2, .inl (k1, 24, .inl (fun _ => 0))), (q3, .inl (k2, 24, .inl (fun _ => 0))), (q4, .inl (k3, 24, .inl (fun _ => 0))), (q5, .inl (k4, 24, .inr (.inr (.inr (.inr (fun _ => none)))))), (q6, .inl (k5, 24, .inr (.inr (.inr (.inr (fun _ => none)))))), (q7, .inl (k6, 4000, .inl (fun _ => 0))), (q8, .inl (k7, 0, .inl (fun _ => 0))), (q9, .inl (k9, 4, .inr (.inr (.inr (.inr (fun _ => none)))))), (q10, .inl (k8, 24, .inl (fun _ => 0))), (q11, .inl (k10, 24, .inl (fun _ => 0))), (q12, .inl (k11, 24, .inl (fun _ => 0))), (q13, .inl (k12, 24, .inr (.inr (.inr (.inr (fun _ => none)))))), (q14, .inl (k13, 24, .inr (.inr (.inr (.inr (fun _ => none)))))), (q15, .inl (k14, 16, .inr (.inr (.inr (.inr (fun _ => none))))))]) [0, 1, 2, 3, 4, 5, 6, 7, 8, 9, 10, 11, 12, 13, 14, 15] rfl
  have hD := hD.sub (ws' := [(q0, .inr (15, [.ref q1, .ref q2, .ref q3, .ref q4, .ref q5, .ref q6, .int 0, .int 1, .ref q7, .int 0, .ref q8, .null, .ref q9, .null, .ref q10, .ref q11, .ref q12, .ref q13, .ref q14, .int 0, .ref q15, .null, .null, .null, .null, .int 0, .int 0])), (q1, .inl (k0, 24, .inl (fun _ => 0))), (q2, .inl (k1, 24, .inl (fun _ => 0))), (q3, .inl (k2, 24, .inl (fun _ => 0))), (q4, .inl (k3, 24, .inl (fun _ => 0))), (q5, .inl (k4, 24, .inr (.inr (.inr (.inr (fun _ => none)))))), (q6, .inl (k5, 24, .inr (.inr (.inr (.inr (fun _ => none)))))), (q7, .inl (k6, 4000, .inl (fun _ => 0))), (q8, .inl (k7, 0, .inl (fun _ => 0))), (q9, .inl (k9, 4, .inr (.inr (.inr (.inr (fun _ => none)))))), (q10, .inl (k8, 24, .inl (fun _ => 0))), (q11, .inl (k10, 24, .inl (fun _ => 0))), (q12, .inl (k11, 24, .inl (fun _ => 0))), (q13, .inl (k12, 24, .inr (.inr (.inr (.inr (fun _ => none)))))), (q14, .inl (k13, 24, .inr (.inr (.inr (.inr (fun _ => none)))))), (q15, .inl (k14, 16, .inr (.inr (.inr (.inr (fun _ => none))))))]) [0, 1, 2, 3, 4, 5, 6, 7, 8, 9, 10, 11, 12, 13, 14, 15] (by decide) rfl
  have hK := hK.sub (tys' := [(k0, .boolean), (k1, .int), (k2, .int), (k3, .char), (k4, (.array .long)), (k5, (.array .long)), (k6, .int), (k7, .int), (k9, (.object "SeekwellModel$Node")), (k8, .boolean), (k10, .int), (k11, .char), (k12, (.array .long)), (k13, (.array .long)), (k14, (.array .int))]) [0, 1, 2, 3, 4, 5, 6, 7, 8, 9, 10, 11, 12, 13, 14] rfl
  have hP : va_P (dC, dI) vwCl [(q0, .inr (15, [.ref q1, .ref q2, .ref q3, .ref q4, .ref q5, .ref q6, .int 0, .int 1, .ref q7, .int 0, .ref q8, .null, .ref q9, .null, .ref q10, .ref q11, .ref q12, .ref q13, .ref q14, .int 0, .ref q15, .null, .null, .null, .null, .int 0, .int 0])), (q1, .inl (k0, 24, .inl (fun _ => 0))), (q2, .inl (k1, 24, .inl (fun _ => 0))), (q3, .inl (k2, 24, .inl (fun _ => 0))), (q4, .inl (k3, 24, .inl (fun _ => 0))), (q5, .inl (k4, 24, .inr (.inr (.inr (.inr (fun _ => none)))))), (q6, .inl (k5, 24, .inr (.inr (.inr (.inr (fun _ => none)))))), (q7, .inl (k6, 4000, .inl (fun _ => 0))), (q8, .inl (k7, 0, .inl (fun _ => 0))), (q9, .inl (k9, 4, .inr (.inr (.inr (.inr (fun _ => none)))))), (q10, .inl (k8, 24, .inl (fun _ => 0))), (q11, .inl (k10, 24, .inl (fun _ => 0))), (q12, .inl (k11, 24, .inl (fun _ => 0))), (q13, .inl (k12, 24, .inr (.inr (.inr (.inr (fun _ => none)))))), (q14, .inl (k13, 24, .inr (.inr (.inr (.inr (fun _ => none)))))), (q15, .inl (k14, 16, .inr (.inr (.inr (.inr (fun _ => none))))))] H := hP
  refine W.widen (k := 40) (n := 5268) (Nat.le_of_ble_eq_true rfl) (Nat.le_of_ble_eq_true rfl) ?_
  refine va_putF (D := (dC, dI)) (ci := 15) (v := .ref q16) (ty := (.array (.array .int))) (C := RX13) (T := TX13) (N := 27) hx hb hts (fun _ h => List.mem_cons_of_mem _ (List.mem_append_right _ h)) tyX13 tyX13_ok nmX13 hown hK hP hD hS 0 rfl rfl 21 (by decide) (hts (.fieldLink RX13 70 "SeekwellModel" "worth" "[[I") (by decide +kernel)) (fun _ h9 => h9) rfl hin rfl (by decide +kernel) rfl rfl (Nat.le_of_ble_eq_true rfl) dX13_init_143 (fun H locs hP hD hS => ?_)
  have hP : va_P (dC, dI) vwCl [(q0, .inr (15, [.ref q1, .ref q2, .ref q3, .ref q4, .ref q5, .ref q6, .int 0, .int 1, .ref q7, .int 0, .ref q8, .null, .ref q9, .null, .ref q10, .ref q11, .ref q12, .ref q13, .ref q14, .int 0, .ref q15, .ref q16, .null, .null, .null, .int 0, .int 0])), (q1, .inl (k0, 24, .inl (fun _ => 0))), (q2, .inl (k1, 24, .inl (fun _ => 0))), (q3, .inl (k2, 24, .inl (fun _ => 0))), (q4, .inl (k3, 24, .inl (fun _ => 0))), (q5, .inl (k4, 24, .inr (.inr (.inr (.inr (fun _ => none)))))), (q6, .inl (k5, 24, .inr (.inr (.inr (.inr (fun _ => none)))))), (q7, .inl (k6, 4000, .inl (fun _ => 0))), (q8, .inl (k7, 0, .inl (fun _ => 0))), (q9, .inl (k9, 4, .inr (.inr (.inr (.inr (fun _ => none)))))), (q10, .inl (k8, 24, .inl (fun _ => 0))), (q11, .inl (k10, 24, .inl (fun _ => 0))), (q12, .inl (k11, 24, .inl (fun _ => 0))), (q13, .inl (k12, 24, .inr (.inr (.inr (.inr (fun _ => none)))))), (q14, .inl (k13, 24, .inr (.inr (.inr (.inr (fun _ => none)))))), (q15, .inl (k14, 16, .inr (.inr (.inr (.inr (fun _ => none))))))] H := hP
  have hD : va_D A [(q0, .inr (15, [.ref q1, .ref q2, .ref q3, .ref q4, .ref q5, .ref q6, .int 0, .int 1, .ref q7, .int 0, .ref q8, .null, .ref q9, .null, .ref q10, .ref q11, .ref q12, .ref q13, .ref q14, .int 0, .ref q15, .ref q16, .null, .null, .null, .int 0, .int 0])), (q1, .inl (k0, 24, .inl (fun _ => 0))), (q2, .inl (k1, 24, .inl (fun _ => 0))), (q3, .inl (k2, 24, .inl (fun _ => 0))), (q4, .inl (k3, 24, .inl (fun _ => 0))), (q5, .inl (k4, 24, .inr (.inr (.inr (.inr (fun _ => none)))))), (q6, .inl (k5, 24, .inr (.inr (.inr (.inr (fun _ => none)))))), (q7, .inl (k6, 4000, .inl (fun _ => 0))), (q8, .inl (k7, 0, .inl (fun _ => 0))), (q9, .inl (k9, 4, .inr (.inr (.inr (.inr (fun _ => none)))))), (q10, .inl (k8, 24, .inl (fun _ => 0))), (q11, .inl (k10, 24, .inl (fun _ => 0))), (q12, .inl (k11, 24, .inl (fun _ => 0))), (q13, .inl (k12, 24, .inr (.inr (.inr (.inr (fun _ => none)))))), (q14, .inl (k13, 24, .inr (.inr (.inr (.inr (fun _ => none)))))), (q15, .inl (k14, 16, .inr (.inr (.inr (.inr (fun _ => none))))))] := hD
  refine lv_aload_n hx hb dX13_init_146 rfl (lv_at hl 0 rfl) ?_
  refine lv_bipush (v := 40) hx hb dX13_init_147 (by decide +kernel) ?_
  refine va_newa (D := (dC, dI)) (atype := .int) (ty := .int) (a0 := (40, .inl (fun _ => 0))) (N' := 40) hx hb (hts (.arrayClass .int) (by decide +kernel)) rfl hK hP hD hS hA (fun _ => rfl) (by decide +kernel) (by decide +kernel) (Nat.le_of_ble_eq_true rfl) (Nat.le_of_ble_eq_true rfl) (Nat.le_of_ble_eq_true rfl) dX13_init_149 (fun q17 k16 H hK hP hD hS => ?_)
  have hP : va_P (dC, dI) vwCl [(q0, .inr (15, [.ref q1, .ref q2, .ref q3, .ref q4, .ref q5, .ref q6, .int 0, .int 1, .ref q7, .int 0, .ref q8, .null, .ref q9, .null, .ref q10, .ref q11, .ref q12, .ref q13, .ref q14, .int 0, .ref q15, .ref q16, .null, .null, .null, .int 0, .int 0])), (q1, .inl (k0, 24, .inl (fun _ => 0))), (q2, .inl (k1, 24, .inl (fun _ => 0))), (q3, .inl (k2, 24, .inl (fun _ => 0))), (q4, .inl (k3, 24, .inl (fun _ => 0))), (q5, .inl (k4, 24, .inr (.inr (.inr (.inr (fun _ => none)))))), (q6, .inl (k5, 24, .inr (.inr (.inr (.inr (fun _ => none)))))), (q7, .inl (k6, 4000, .inl (fun _ => 0))), (q8, .inl (k7, 0, .inl (fun _ => 0))), (q9, .inl (k9, 4, .inr (.inr (.inr (.inr (fun _ => none)))))), (q10, .inl (k8, 24, .inl (fun _ => 0))), (q11, .inl (k10, 24, .inl (fun _ => 0))), (q12, .inl (k11, 24, .inl (fun _ => 0))), (q13, .inl (k12, 24, .inr (.inr (.inr (.inr (fun _ => none)))))), (q14, .inl (k13, 24, .inr (.inr (.inr (.inr (fun _ => none)))))), (q15, .inl (k14, 16, .inr (.inr (.inr (.inr (fun _ => none)))))), (q17, .inl (k16, 40, .inl (fun _ => 0)))] H := hP
  have hD : va_D A [(q0, .inr (15, [.ref q1, .ref q2, .ref q3, .ref q4, .ref q5, .ref q6, .int 0, .int 1, .ref q7, .int 0, .ref q8, .null, .ref q9, .null, .ref q10, .ref q11, .ref q12, .ref q13, .ref q14, .int 0, .ref q15, .ref q16, .null, .null, .null, .int 0, .int 0])), (q1, .inl (k0, 24, .inl (fun _ => 0))), (q2, .inl (k1, 24, .inl (fun _ => 0))), (q3, .inl (k2, 24, .inl (fun _ => 0))), (q4, .inl (k3, 24, .inl (fun _ => 0))), (q5, .inl (k4, 24, .inr (.inr (.inr (.inr (fun _ => none)))))), (q6, .inl (k5, 24, .inr (.inr (.inr (.inr (fun _ => none)))))), (q7, .inl (k6, 4000, .inl (fun _ => 0))), (q8, .inl (k7, 0, .inl (fun _ => 0))), (q9, .inl (k9, 4, .inr (.inr (.inr (.inr (fun _ => none)))))), (q10, .inl (k8, 24, .inl (fun _ => 0))), (q11, .inl (k10, 24, .inl (fun _ => 0))), (q12, .inl (k11, 24, .inl (fun _ => 0))), (q13, .inl (k12, 24, .inr (.inr (.inr (.inr (fun _ => none)))))), (q14, .inl (k13, 24, .inr (.inr (.inr (.inr (fun _ => none)))))), (q15, .inl (k14, 16, .inr (.inr (.inr (.inr (fun _ => none)))))), (q17, .inl (k16, 40, .inl (fun _ => 0)))] := hD
  have hK : va_K (dC, dI) vwCl [(k0, .boolean), (k1, .int), (k2, .int), (k3, .char), (k4, (.array .long)), (k5, (.array .long)), (k6, .int), (k7, .int), (k9, (.object "SeekwellModel$Node")), (k8, .boolean), (k10, .int), (k11, .char), (k12, (.array .long)), (k13, (.array .long)), (k14, (.array .int)), (k16, .int)] s := hK
  refine W.widen (k := 41) (n := 5308) (Nat.le_of_ble_eq_true rfl) (Nat.le_of_ble_eq_true rfl) ?_
  refine va_putF (D := (dC, dI)) (ci := 15) (v := .ref q17) (ty := (.array .int)) (C := RX13) (T := TX13) (N := 27) hx hb hts (fun _ h => List.mem_cons_of_mem _ (List.mem_append_right _ h)) tyX13 tyX13_ok nmX13 hown hK hP hD hS 0 rfl rfl 22 (by decide) (hts (.fieldLink RX13 73 "SeekwellModel" "total" "[I") (by decide +kernel)) (fun _ h9 => h9) rfl hin rfl (by decide +kernel) rfl rfl (Nat.le_of_ble_eq_true rfl) dX13_init_151 (fun H locs hP hD hS => ?_)
  have hP : va_P (dC, dI) vwCl [(q0, .inr (15, [.ref q1, .ref q2, .ref q3, .ref q4, .ref q5, .ref q6, .int 0, .int 1, .ref q7, .int 0, .ref q8, .null, .ref q9, .null, .ref q10, .ref q11, .ref q12, .ref q13, .ref q14, .int 0, .ref q15, .ref q16, .ref q17, .null, .null, .int 0, .int 0])), (q1, .inl (k0, 24, .inl (fun _ => 0))), (q2, .inl (k1, 24, .inl (fun _ => 0))), (q3, .inl (k2, 24, .inl (fun _ => 0))), (q4, .inl (k3, 24, .inl (fun _ => 0))), (q5, .inl (k4, 24, .inr (.inr (.inr (.inr (fun _ => none)))))), (q6, .inl (k5, 24, .inr (.inr (.inr (.inr (fun _ => none)))))), (q7, .inl (k6, 4000, .inl (fun _ => 0))), (q8, .inl (k7, 0, .inl (fun _ => 0))), (q9, .inl (k9, 4, .inr (.inr (.inr (.inr (fun _ => none)))))), (q10, .inl (k8, 24, .inl (fun _ => 0))), (q11, .inl (k10, 24, .inl (fun _ => 0))), (q12, .inl (k11, 24, .inl (fun _ => 0))), (q13, .inl (k12, 24, .inr (.inr (.inr (.inr (fun _ => none)))))), (q14, .inl (k13, 24, .inr (.inr (.inr (.inr (fun _ => none)))))), (q15, .inl (k14, 16, .inr (.inr (.inr (.inr (fun _ => none)))))), (q17, .inl (k16, 40, .inl (fun _ => 0)))] H := hP
  have hD : va_D A [(q0, .inr (15, [.ref q1, .ref q2, .ref q3, .ref q4, .ref q5, .ref q6, .int 0, .int 1, .ref q7, .int 0, .ref q8, .null, .ref q9, .null, .ref q10, .ref q11, .ref q12, .ref q13, .ref q14, .int 0, .ref q15, .ref q16, .ref q17, .null, .null, .int 0, .int 0])), (q1, .inl (k0, 24, .inl (fun _ => 0))), (q2, .inl (k1, 24, .inl (fun _ => 0))), (q3, .inl (k2, 24, .inl (fun _ => 0))), (q4, .inl (k3, 24, .inl (fun _ => 0))), (q5, .inl (k4, 24, .inr (.inr (.inr (.inr (fun _ => none)))))), (q6, .inl (k5, 24, .inr (.inr (.inr (.inr (fun _ => none)))))), (q7, .inl (k6, 4000, .inl (fun _ => 0))), (q8, .inl (k7, 0, .inl (fun _ => 0))), (q9, .inl (k9, 4, .inr (.inr (.inr (.inr (fun _ => none)))))), (q10, .inl (k8, 24, .inl (fun _ => 0))), (q11, .inl (k10, 24, .inl (fun _ => 0))), (q12, .inl (k11, 24, .inl (fun _ => 0))), (q13, .inl (k12, 24, .inr (.inr (.inr (.inr (fun _ => none)))))), (q14, .inl (k13, 24, .inr (.inr (.inr (.inr (fun _ => none)))))), (q15, .inl (k14, 16, .inr (.inr (.inr (.inr (fun _ => none)))))), (q17, .inl (k16, 40, .inl (fun _ => 0)))] := hD
  refine lv_aload_n hx hb dX13_init_154 rfl (lv_at hl 0 rfl) ?_
  refine lv_bipush (v := 40) hx hb dX13_init_155 (by decide +kernel) ?_
  refine va_newa (D := (dC, dI)) (atype := .int) (ty := .int) (a0 := (40, .inl (fun _ => 0))) (N' := 40) hx hb (hts (.arrayClass .int) (by decide +kernel)) rfl hK hP hD hS hA (fun _ => rfl) (by decide +kernel) (by decide +kernel) (Nat.le_of_ble_eq_true rfl) (Nat.le_of_ble_eq_true rfl) (Nat.le_of_ble_eq_true rfl) dX13_init_157 (fun q18 k17 H hK hP hD hS => ?_)
  have hP : va_P (dC, dI) vwCl [(q0, .inr (15, [.ref q1, .ref q2, .ref q3, .ref q4, .ref q5, .ref q6, .int 0, .int 1, .ref q7, .int 0, .ref q8, .null, .ref q9, .null, .ref q10, .ref q11, .ref q12, .ref q13, .ref q14, .int 0, .ref q15, .ref q16, .ref q17, .null, .null, .int 0, .int 0])), (q1, .inl (k0, 24, .inl (fun _ => 0))), (q2, .inl (k1, 24, .inl (fun _ => 0))), (q3, .inl (k2, 24, .inl (fun _ => 0))), (q4, .inl (k3, 24, .inl (fun _ => 0))), (q5, .inl (k4, 24, .inr (.inr (.inr (.inr (fun _ => none)))))), (q6, .inl (k5, 24, .inr (.inr (.inr (.inr (fun _ => none)))))), (q7, .inl (k6, 4000, .inl (fun _ => 0))), (q8, .inl (k7, 0, .inl (fun _ => 0))), (q9, .inl (k9, 4, .inr (.inr (.inr (.inr (fun _ => none)))))), (q10, .inl (k8, 24, .inl (fun _ => 0))), (q11, .inl (k10, 24, .inl (fun _ => 0))), (q12, .inl (k11, 24, .inl (fun _ => 0))), (q13, .inl (k12, 24, .inr (.inr (.inr (.inr (fun _ => none)))))), (q14, .inl (k13, 24, .inr (.inr (.inr (.inr (fun _ => none)))))), (q15, .inl (k14, 16, .inr (.inr (.inr (.inr (fun _ => none)))))), (q17, .inl (k16, 40, .inl (fun _ => 0))), (q18, .inl (k17, 40, .inl (fun _ => 0)))] H := hP
  have hD : va_D A [(q0, .inr (15, [.ref q1, .ref q2, .ref q3, .ref q4, .ref q5, .ref q6, .int 0, .int 1, .ref q7, .int 0, .ref q8, .null, .ref q9, .null, .ref q10, .ref q11, .ref q12, .ref q13, .ref q14, .int 0, .ref q15, .ref q16, .ref q17, .null, .null, .int 0, .int 0])), (q1, .inl (k0, 24, .inl (fun _ => 0))), (q2, .inl (k1, 24, .inl (fun _ => 0))), (q3, .inl (k2, 24, .inl (fun _ => 0))), (q4, .inl (k3, 24, .inl (fun _ => 0))), (q5, .inl (k4, 24, .inr (.inr (.inr (.inr (fun _ => none)))))), (q6, .inl (k5, 24, .inr (.inr (.inr (.inr (fun _ => none)))))), (q7, .inl (k6, 4000, .inl (fun _ => 0))), (q8, .inl (k7, 0, .inl (fun _ => 0))), (q9, .inl (k9, 4, .inr (.inr (.inr (.inr (fun _ => none)))))), (q10, .inl (k8, 24, .inl (fun _ => 0))), (q11, .inl (k10, 24, .inl (fun _ => 0))), (q12, .inl (k11, 24, .inl (fun _ => 0))), (q13, .inl (k12, 24, .inr (.inr (.inr (.inr (fun _ => none)))))), (q14, .inl (k13, 24, .inr (.inr (.inr (.inr (fun _ => none)))))), (q15, .inl (k14, 16, .inr (.inr (.inr (.inr (fun _ => none)))))), (q17, .inl (k16, 40, .inl (fun _ => 0))), (q18, .inl (k17, 40, .inl (fun _ => 0)))] := hD
  have hK : va_K (dC, dI) vwCl [(k0, .boolean), (k1, .int), (k2, .int), (k3, .char), (k4, (.array .long)), (k5, (.array .long)), (k6, .int), (k7, .int), (k9, (.object "SeekwellModel$Node")), (k8, .boolean), (k10, .int), (k11, .char), (k12, (.array .long)), (k13, (.array .long)), (k14, (.array .int)), (k16, .int), (k17, .int)] s := hK
  refine W.widen (k := 42) (n := 5348) (Nat.le_of_ble_eq_true rfl) (Nat.le_of_ble_eq_true rfl) ?_
  refine va_putF (D := (dC, dI)) (ci := 15) (v := .ref q18) (ty := (.array .int)) (C := RX13) (T := TX13) (N := 27) hx hb hts (fun _ h => List.mem_cons_of_mem _ (List.mem_append_right _ h)) tyX13 tyX13_ok nmX13 hown hK hP hD hS 0 rfl rfl 23 (by decide) (hts (.fieldLink RX13 76 "SeekwellModel" "one" "[I") (by decide +kernel)) (fun _ h9 => h9) rfl hin rfl (by decide +kernel) rfl rfl (Nat.le_of_ble_eq_true rfl) dX13_init_159 (fun H locs hP hD hS => ?_)
  have hP : va_P (dC, dI) vwCl [(q0, .inr (15, [.ref q1, .ref q2, .ref q3, .ref q4, .ref q5, .ref q6, .int 0, .int 1, .ref q7, .int 0, .ref q8, .null, .ref q9, .null, .ref q10, .ref q11, .ref q12, .ref q13, .ref q14, .int 0, .ref q15, .ref q16, .ref q17, .ref q18, .null, .int 0, .int 0])), (q1, .inl (k0, 24, .inl (fun _ => 0))), (q2, .inl (k1, 24, .inl (fun _ => 0))), (q3, .inl (k2, 24, .inl (fun _ => 0))), (q4, .inl (k3, 24, .inl (fun _ => 0))), (q5, .inl (k4, 24, .inr (.inr (.inr (.inr (fun _ => none)))))), (q6, .inl (k5, 24, .inr (.inr (.inr (.inr (fun _ => none)))))), (q7, .inl (k6, 4000, .inl (fun _ => 0))), (q8, .inl (k7, 0, .inl (fun _ => 0))), (q9, .inl (k9, 4, .inr (.inr (.inr (.inr (fun _ => none)))))), (q10, .inl (k8, 24, .inl (fun _ => 0))), (q11, .inl (k10, 24, .inl (fun _ => 0))), (q12, .inl (k11, 24, .inl (fun _ => 0))), (q13, .inl (k12, 24, .inr (.inr (.inr (.inr (fun _ => none)))))), (q14, .inl (k13, 24, .inr (.inr (.inr (.inr (fun _ => none)))))), (q15, .inl (k14, 16, .inr (.inr (.inr (.inr (fun _ => none)))))), (q17, .inl (k16, 40, .inl (fun _ => 0))), (q18, .inl (k17, 40, .inl (fun _ => 0)))] H := hP
  have hD : va_D A [(q0, .inr (15, [.ref q1, .ref q2, .ref q3, .ref q4, .ref q5, .ref q6, .int 0, .int 1, .ref q7, .int 0, .ref q8, .null, .ref q9, .null, .ref q10, .ref q11, .ref q12, .ref q13, .ref q14, .int 0, .ref q15, .ref q16, .ref q17, .ref q18, .null, .int 0, .int 0])), (q1, .inl (k0, 24, .inl (fun _ => 0))), (q2, .inl (k1, 24, .inl (fun _ => 0))), (q3, .inl (k2, 24, .inl (fun _ => 0))), (q4, .inl (k3, 24, .inl (fun _ => 0))), (q5, .inl (k4, 24, .inr (.inr (.inr (.inr (fun _ => none)))))), (q6, .inl (k5, 24, .inr (.inr (.inr (.inr (fun _ => none)))))), (q7, .inl (k6, 4000, .inl (fun _ => 0))), (q8, .inl (k7, 0, .inl (fun _ => 0))), (q9, .inl (k9, 4, .inr (.inr (.inr (.inr (fun _ => none)))))), (q10, .inl (k8, 24, .inl (fun _ => 0))), (q11, .inl (k10, 24, .inl (fun _ => 0))), (q12, .inl (k11, 24, .inl (fun _ => 0))), (q13, .inl (k12, 24, .inr (.inr (.inr (.inr (fun _ => none)))))), (q14, .inl (k13, 24, .inr (.inr (.inr (.inr (fun _ => none)))))), (q15, .inl (k14, 16, .inr (.inr (.inr (.inr (fun _ => none)))))), (q17, .inl (k16, 40, .inl (fun _ => 0))), (q18, .inl (k17, 40, .inl (fun _ => 0)))] := hD
  refine lv_aload_n hx hb dX13_init_162 rfl (lv_at hl 0 rfl) ?_
  refine lv_bipush (v := 40) hx hb dX13_init_163 (by decide +kernel) ?_
  refine va_newa (D := (dC, dI)) (atype := .int) (ty := .int) (a0 := (40, .inl (fun _ => 0))) (N' := 40) hx hb (hts (.arrayClass .int) (by decide +kernel)) rfl hK hP hD hS hA (fun _ => rfl) (by decide +kernel) (by decide +kernel) (Nat.le_of_ble_eq_true rfl) (Nat.le_of_ble_eq_true rfl) (Nat.le_of_ble_eq_true rfl) dX13_init_165 (fun q19 k18 H hK hP hD hS => ?_)
  have hP : va_P (dC, dI) vwCl [(q0, .inr (15, [.ref q1, .ref q2, .ref q3, .ref q4, .ref q5, .ref q6, .int 0, .int 1, .ref q7, .int 0, .ref q8, .null, .ref q9, .null, .ref q10, .ref q11, .ref q12, .ref q13, .ref q14, .int 0, .ref q15, .ref q16, .ref q17, .ref q18, .null, .int 0, .int 0])), (q1, .inl (k0, 24, .inl (fun _ => 0))), (q2, .inl (k1, 24, .inl (fun _ => 0))), (q3, .inl (k2, 24, .inl (fun _ => 0))), (q4, .inl (k3, 24, .inl (fun _ => 0))), (q5, .inl (k4, 24, .inr (.inr (.inr (.inr (fun _ => none)))))), (q6, .inl (k5, 24, .inr (.inr (.inr (.inr (fun _ => none)))))), (q7, .inl (k6, 4000, .inl (fun _ => 0))), (q8, .inl (k7, 0, .inl (fun _ => 0))), (q9, .inl (k9, 4, .inr (.inr (.inr (.inr (fun _ => none)))))), (q10, .inl (k8, 24, .inl (fun _ => 0))), (q11, .inl (k10, 24, .inl (fun _ => 0))), (q12, .inl (k11, 24, .inl (fun _ => 0))), (q13, .inl (k12, 24, .inr (.inr (.inr (.inr (fun _ => none)))))), (q14, .inl (k13, 24, .inr (.inr (.inr (.inr (fun _ => none)))))), (q15, .inl (k14, 16, .inr (.inr (.inr (.inr (fun _ => none)))))), (q17, .inl (k16, 40, .inl (fun _ => 0))), (q18, .inl (k17, 40, .inl (fun _ => 0))), (q19, .inl (k18, 40, .inl (fun _ => 0)))] H := hP
  have hD : va_D A [(q0, .inr (15, [.ref q1, .ref q2, .ref q3, .ref q4, .ref q5, .ref q6, .int 0, .int 1, .ref q7, .int 0, .ref q8, .null, .ref q9, .null, .ref q10, .ref q11, .ref q12, .ref q13, .ref q14, .int 0, .ref q15, .ref q16, .ref q17, .ref q18, .null, .int 0, .int 0])), (q1, .inl (k0, 24, .inl (fun _ => 0))), (q2, .inl (k1, 24, .inl (fun _ => 0))), (q3, .inl (k2, 24, .inl (fun _ => 0))), (q4, .inl (k3, 24, .inl (fun _ => 0))), (q5, .inl (k4, 24, .inr (.inr (.inr (.inr (fun _ => none)))))), (q6, .inl (k5, 24, .inr (.inr (.inr (.inr (fun _ => none)))))), (q7, .inl (k6, 4000, .inl (fun _ => 0))), (q8, .inl (k7, 0, .inl (fun _ => 0))), (q9, .inl (k9, 4, .inr (.inr (.inr (.inr (fun _ => none)))))), (q10, .inl (k8, 24, .inl (fun _ => 0))), (q11, .inl (k10, 24, .inl (fun _ => 0))), (q12, .inl (k11, 24, .inl (fun _ => 0))), (q13, .inl (k12, 24, .inr (.inr (.inr (.inr (fun _ => none)))))), (q14, .inl (k13, 24, .inr (.inr (.inr (.inr (fun _ => none)))))), (q15, .inl (k14, 16, .inr (.inr (.inr (.inr (fun _ => none)))))), (q17, .inl (k16, 40, .inl (fun _ => 0))), (q18, .inl (k17, 40, .inl (fun _ => 0))), (q19, .inl (k18, 40, .inl (fun _ => 0)))] := hD
  have hK : va_K (dC, dI) vwCl [(k0, .boolean), (k1, .int), (k2, .int), (k3, .char), (k4, (.array .long)), (k5, (.array .long)), (k6, .int), (k7, .int), (k9, (.object "SeekwellModel$Node")), (k8, .boolean), (k10, .int), (k11, .char), (k12, (.array .long)), (k13, (.array .long)), (k14, (.array .int)), (k16, .int), (k17, .int), (k18, .int)] s := hK
  refine W.widen (k := 43) (n := 5388) (Nat.le_of_ble_eq_true rfl) (Nat.le_of_ble_eq_true rfl) ?_
  refine va_putF (D := (dC, dI)) (ci := 15) (v := .ref q19) (ty := (.array .int)) (C := RX13) (T := TX13) (N := 27) hx hb hts (fun _ h => List.mem_cons_of_mem _ (List.mem_append_right _ h)) tyX13 tyX13_ok nmX13 hown hK hP hD hS 0 rfl rfl 24 (by decide) (hts (.fieldLink RX13 79 "SeekwellModel" "two" "[I") (by decide +kernel)) (fun _ h9 => h9) rfl hin rfl (by decide +kernel) rfl rfl (Nat.le_of_ble_eq_true rfl) dX13_init_167 (fun H locs hP hD hS => ?_)
  have hP : va_P (dC, dI) vwCl [(q0, .inr (15, [.ref q1, .ref q2, .ref q3, .ref q4, .ref q5, .ref q6, .int 0, .int 1, .ref q7, .int 0, .ref q8, .null, .ref q9, .null, .ref q10, .ref q11, .ref q12, .ref q13, .ref q14, .int 0, .ref q15, .ref q16, .ref q17, .ref q18, .ref q19, .int 0, .int 0])), (q1, .inl (k0, 24, .inl (fun _ => 0))), (q2, .inl (k1, 24, .inl (fun _ => 0))), (q3, .inl (k2, 24, .inl (fun _ => 0))), (q4, .inl (k3, 24, .inl (fun _ => 0))), (q5, .inl (k4, 24, .inr (.inr (.inr (.inr (fun _ => none)))))), (q6, .inl (k5, 24, .inr (.inr (.inr (.inr (fun _ => none)))))), (q7, .inl (k6, 4000, .inl (fun _ => 0))), (q8, .inl (k7, 0, .inl (fun _ => 0))), (q9, .inl (k9, 4, .inr (.inr (.inr (.inr (fun _ => none)))))), (q10, .inl (k8, 24, .inl (fun _ => 0))), (q11, .inl (k10, 24, .inl (fun _ => 0))), (q12, .inl (k11, 24, .inl (fun _ => 0))), (q13, .inl (k12, 24, .inr (.inr (.inr (.inr (fun _ => none)))))), (q14, .inl (k13, 24, .inr (.inr (.inr (.inr (fun _ => none)))))), (q15, .inl (k14, 16, .inr (.inr (.inr (.inr (fun _ => none)))))), (q17, .inl (k16, 40, .inl (fun _ => 0))), (q18, .inl (k17, 40, .inl (fun _ => 0))), (q19, .inl (k18, 40, .inl (fun _ => 0)))] H := hP
  have hD : va_D A [(q0, .inr (15, [.ref q1, .ref q2, .ref q3, .ref q4, .ref q5, .ref q6, .int 0, .int 1, .ref q7, .int 0, .ref q8, .null, .ref q9, .null, .ref q10, .ref q11, .ref q12, .ref q13, .ref q14, .int 0, .ref q15, .ref q16, .ref q17, .ref q18, .ref q19, .int 0, .int 0])), (q1, .inl (k0, 24, .inl (fun _ => 0))), (q2, .inl (k1, 24, .inl (fun _ => 0))), (q3, .inl (k2, 24, .inl (fun _ => 0))), (q4, .inl (k3, 24, .inl (fun _ => 0))), (q5, .inl (k4, 24, .inr (.inr (.inr (.inr (fun _ => none)))))), (q6, .inl (k5, 24, .inr (.inr (.inr (.inr (fun _ => none)))))), (q7, .inl (k6, 4000, .inl (fun _ => 0))), (q8, .inl (k7, 0, .inl (fun _ => 0))), (q9, .inl (k9, 4, .inr (.inr (.inr (.inr (fun _ => none)))))), (q10, .inl (k8, 24, .inl (fun _ => 0))), (q11, .inl (k10, 24, .inl (fun _ => 0))), (q12, .inl (k11, 24, .inl (fun _ => 0))), (q13, .inl (k12, 24, .inr (.inr (.inr (.inr (fun _ => none)))))), (q14, .inl (k13, 24, .inr (.inr (.inr (.inr (fun _ => none)))))), (q15, .inl (k14, 16, .inr (.inr (.inr (.inr (fun _ => none)))))), (q17, .inl (k16, 40, .inl (fun _ => 0))), (q18, .inl (k17, 40, .inl (fun _ => 0))), (q19, .inl (k18, 40, .inl (fun _ => 0)))] := hD
  have hP9 := hP.sub (ws' := [(q0, .inr (15, [.ref q1, .ref q2, .ref q3, .ref q4, .ref q5, .ref q6, .int 0, .int 1, .ref q7, .int 0, .ref q8, .null, .ref q9, .null, .ref q10, .ref q11, .ref q12, .ref q13, .ref q14, .int 0, .ref q15, .ref q16, .ref q17, .ref q18, .ref q19, .int 0, .int 0])), (q1, .inl (k0, 24, .inl (fun _ => 0))), (q2, .inl (k1, 24, .inl (fun _ => 0))), (q3, .inl (k2, 24, .inl (fun _ => 0))), (q4, .inl (k3, 24, .inl (fun _ => 0))), (q5, .inl (k4, 24, .inr (.inr (.inr (.inr (fun _ => none)))))), (q6, .inl (k5, 24, .inr (.inr (.inr (.inr (fun _ => none)))))), (q7, .inl (k6, 4000, .inl (fun _ => 0))), (q8, .inl (k7, 0, .inl (fun _ => 0))), (q10, .inl (k8, 24, .inl (fun _ => 0)))]) [0, 1, 2, 3, 4, 5, 6, 7, 8, 10] rfl
  have hD9 := hD.sub (ws' := [(q0, .inr (15, [.ref q1, .ref q2, .ref q3, .ref q4, .ref q5, .ref q6, .int 0, .int 1, .ref q7, .int 0, .ref q8, .null, .ref q9, .null, .ref q10, .ref q11, .ref q12, .ref q13, .ref q14, .int 0, .ref q15, .ref q16, .ref q17, .ref q18, .ref q19, .int 0, .int 0])), (q1, .inl (k0, 24, .inl (fun _ => 0))), (q2, .inl (k1, 24, .inl (fun _ => 0))), (q3, .inl (k2, 24, .inl (fun _ => 0))), (q4, .inl (k3, 24, .inl (fun _ => 0))), (q5, .inl (k4, 24, .inr (.inr (.inr (.inr (fun _ => none)))))), (q6, .inl (k5, 24, .inr (.inr (.inr (.inr (fun _ => none)))))), (q7, .inl (k6, 4000, .inl (fun _ => 0))), (q8, .inl (k7, 0, .inl (fun _ => 0))), (q10, .inl (k8, 24, .inl (fun _ => 0)))]) [0, 1, 2, 3, 4, 5, 6, 7, 8, 10] (by decide) rfl
  have hK9 := hK.sub (tys' := [(k0, .boolean), (k1, .int), (k2, .int), (k3, .char), (k4, (.array .long)), (k5, (.array .long)), (k6, .int), (k7, .int), (k8, .boolean)]) [0, 1, 2, 3, 4, 5, 6, 7, 9] rfl
  exact W.vret hx hb hr (fun t ht hW => ⟨⟨(), rfl, trivial, q1, q2, q3, q4, q5, q6, q7, q8, q9, q10, q11, q12, q13, q14, q15, q16, q17, q18, q19, k0, k1, k2, k3, k4, k5, k6, k7, k8, ⟨by rw [ht]; exact hP9, va_K.moved hW.alike hK9, hD9⟩⟩, hS.F ht⟩) hS.2.2 dX13_init_170
set_option maxHeartbeats 4000000 in
set_option maxRecDepth 100000 in
theorem c_X13_in_6 (l : Launch) (dC : Nat → ClassId) (dI : Nat → Nat → Nat) (sz : Nat) (p0 : Int32) (hc0 : p0 < 0) : Met l yX13_in wsX13_in ({ frames := 0, cells := 0, slots := 0, locals := 0 }) (va_Pc [.int p0, .int 0, .int 999] (zB (dC, dI) [] [] sz)) (va_Qi (fun (r : Int32) (_ : Unit) => 0 = r) (fun _ t => zE (dC, dI) [] [] (va_A [] sz) t) (va_A [] sz)) 0 0 (va_A [] sz) := by
  refine Met.ofW (cc := cX13_in) (maxL := 3) (ret := (some .boolean)) (by decide) rfl ?_
  intro p e s m args below meth c s₁ B hml hv
  obtain ⟨rfl, hsz, hP, hK, hD0, hZ, hN⟩ := hv
  have hx := B.exec
  have hb := B.bytes
  have hr := B.returns
  have hts := atoms_spec (ws := wsX13_in) B.pre
  have hown : s.vm.findClass RX13 = some m.cls := findClass_of_methodNamed B.named
  have hlocks := B.notSynchronized
  subst hsz
  have hD := hD0.self (sz := s.heap.size)
  generalize hAe : va_A [] s.heap.size = A at hD hZ ⊢
  have hA : ∀ q : Nat, s.heap.size ≤ q → A q := fun q h => by rw [← hAe]; exact Or.inr h
  have hS : va_S A s.heap s.heap [] := va_S.rf
  have hP : va_P (dC, dI) vwCl [] s.heap := hP
  have hl := lv_entry ([.int p0, .int 0, .int 999]) (n := 3) (Nat.le_of_ble_eq_true rfl)
  rw [lg_entry_eq]
  generalize (lg_sl ([.int p0, .int 0, .int 999]) ++ List.replicate (3 - (lg_sl ([.int p0, .int 0, .int 999])).length) Slot.unset).toArray = ls at hl ⊢
  have hl : lv_has ls 3 [(0, .int p0), (1, .int 0), (2, .int 999)] := hl
  refine lv_iload_n hx hb dX13_in_0 rfl (lv_at hl 0 rfl) ?_
  refine lv_iload_n hx hb dX13_in_1 rfl (lv_at hl 1 rfl) ?_
  refine lv_icmp_lt (tgt := 14) hx hb dX13_in_2 (by decide) (fun _ => ?_) (fun h9 => absurd hc0 h9)
  refine lv_iconst (v := 0) hx hb dX13_in_14 (by decide +kernel) ?_
  have hP9 := hP.sub (ws' := []) [] rfl
  have hD9 := hD.sub (ws' := []) [] (by decide) rfl
  have hK9 := hK.sub (tys' := []) [] rfl
  exact W.zret (v := 0) hx hb hr (by decide +kernel) (fun t ht hW => ⟨⟨0, (), rfl, rfl, ⟨by rw [ht]; exact hP9, va_K.moved hW.alike hK9, hD9⟩⟩, hS.F ht⟩) hS.2.2 dX13_in_15
set_option maxHeartbeats 4000000 in
set_option maxRecDepth 100000 in
theorem c_X13_no (l : Launch) (dC : Nat → ClassId) (dI : Nat → Nat → Nat) (q0 q1 q2 q3 q4 q5 q6 q7 q8 q9 q10 q11 q12 q13 q14 q15 q16 q17 q18 q19 : Nat) (sz : Nat) : Met l yX13_no wsX13_no ({ frames := 0, cells := 0, slots := 0, locals := 0 }) (va_Pc [.ref q0, .int 0, .int 1] (zB (dC, dI) [] [(q0, .inr (15, [.ref q1, .ref q2, .ref q3, .ref q4, .ref q5, .ref q6, .int 0, .int 1, .ref q7, .int 0, .ref q8, .null, .ref q9, .null, .ref q10, .ref q11, .ref q12, .ref q13, .ref q14, .int 0, .ref q15, .ref q16, .ref q17, .ref q18, .ref q19, .int 0, .int 0]))] sz)) (va_Qi (fun (r : Int32) (_ : Unit) => 1 = r) (fun _ t => zE (dC, dI) [] [(q0, .inr (15, [.ref q1, .ref q2, .ref q3, .ref q4, .ref q5, .ref q6, .int 0, .int 1, .ref q7, .int 0, .ref q8, .null, .ref q9, .null, .ref q10, .ref q11, .ref q12, .ref q13, .ref q14, .int 1, .ref q15, .ref q16, .ref q17, .ref q18, .ref q19, .int 0, .int 0]))] (va_A [(q0, .inr (15, [.ref q1, .ref q2, .ref q3, .ref q4, .ref q5, .ref q6, .int 0, .int 1, .ref q7, .int 0, .ref q8, .null, .ref q9, .null, .ref q10, .ref q11, .ref q12, .ref q13, .ref q14, .int 0, .ref q15, .ref q16, .ref q17, .ref q18, .ref q19, .int 0, .int 0]))] sz) t) (va_A [(q0, .inr (15, [.ref q1, .ref q2, .ref q3, .ref q4, .ref q5, .ref q6, .int 0, .int 1, .ref q7, .int 0, .ref q8, .null, .ref q9, .null, .ref q10, .ref q11, .ref q12, .ref q13, .ref q14, .int 0, .ref q15, .ref q16, .ref q17, .ref q18, .ref q19, .int 0, .int 0]))] sz)) 0 0 (va_A [(q0, .inr (15, [.ref q1, .ref q2, .ref q3, .ref q4, .ref q5, .ref q6, .int 0, .int 1, .ref q7, .int 0, .ref q8, .null, .ref q9, .null, .ref q10, .ref q11, .ref q12, .ref q13, .ref q14, .int 0, .ref q15, .ref q16, .ref q17, .ref q18, .ref q19, .int 0, .int 0]))] sz) := by
  refine Met.ofW (cc := cX13_no) (maxL := 3) (ret := (some .boolean)) (by decide) rfl ?_
  intro p e s m args below meth c s₁ B hml hv
  obtain ⟨rfl, hsz, hP, hK, hD0, hZ, hN⟩ := hv
  have hx := B.exec
  have hb := B.bytes
  have hr := B.returns
  have hts := atoms_spec (ws := wsX13_no) B.pre
  have hown : s.vm.findClass RX13 = some m.cls := findClass_of_methodNamed B.named
  have hlocks := B.notSynchronized
  subst hsz
  have hD := hD0.self (sz := s.heap.size)
  generalize hAe : va_A [(q0, .inr (15, [.ref q1, .ref q2, .ref q3, .ref q4, .ref q5, .ref q6, .int 0, .int 1, .ref q7, .int 0, .ref q8, .null, .ref q9, .null, .ref q10, .ref q11, .ref q12, .ref q13, .ref q14, .int 0, .ref q15, .ref q16, .ref q17, .ref q18, .ref q19, .int 0, .int 0]))] s.heap.size = A at hD hZ ⊢
  have hA : ∀ q : Nat, s.heap.size ≤ q → A q := fun q h => by rw [← hAe]; exact Or.inr h
  have hS : va_S A s.heap s.heap [] := va_S.rf
  have hP : va_P (dC, dI) vwCl [(q0, .inr (15, [.ref q1, .ref q2, .ref q3, .ref q4, .ref q5, .ref q6, .int 0, .int 1, .ref q7, .int 0, .ref q8, .null, .ref q9, .null, .ref q10, .ref q11, .ref q12, .ref q13, .ref q14, .int 0, .ref q15, .ref q16, .ref q17, .ref q18, .ref q19, .int 0, .int 0]))] s.heap := hP
  have hl := lv_entry ([.ref q0, .int 0, .int 1]) (n := 3) (Nat.le_of_ble_eq_true rfl)
  rw [lg_entry_eq]
  generalize (lg_sl ([.ref q0, .int 0, .int 1]) ++ List.replicate (3 - (lg_sl ([.ref q0, .int 0, .int 1])).length) Slot.unset).toArray = ls at hl ⊢
  have hl : lv_has ls 3 [(0, .ref q0), (1, .int 0), (2, .int 1)] := hl
  refine lv_aload_n hx hb dX13_no_0 rfl (lv_at hl 0 rfl) ?_
  refine lv_iload_n hx hb dX13_no_1 rfl (lv_at hl 1 rfl) ?_
  refine lv_if_eq (tgt := 9) hx hb dX13_no_2 (by decide) (fun _ => ?_) (fun h9 => absurd (show (0 : Int32) = (0 : Int32) by decide +kernel) h9)
  refine lv_iload_n hx hb dX13_no_9 rfl (lv_at hl 2 rfl) ?_
  refine va_put (D := (dC, dI)) (ci := 15) (v := .int 1) (ty := .int) (C := RX13) (T := TX13) (N := 27) hx hb hts (fun _ h => List.mem_cons_of_mem _ (List.mem_append_right _ h)) tyX13 tyX13_ok nmX13 hown hK hP hD hS 0 rfl rfl 19 (by decide) (hts (.fieldLink RX13 82 "SeekwellModel" "thrown" "I") (by decide +kernel)) (fun _ h9 => h9) rfl (by decide +kernel) rfl rfl (Nat.le_of_ble_eq_true rfl) dX13_no_10 (fun H locs hP hD hS => ?_)
  have hP : va_P (dC, dI) vwCl [(q0, .inr (15, [.ref q1, .ref q2, .ref q3, .ref q4, .ref q5, .ref q6, .int 0, .int 1, .ref q7, .int 0, .ref q8, .null, .ref q9, .null, .ref q10, .ref q11, .ref q12, .ref q13, .ref q14, .int 1, .ref q15, .ref q16, .ref q17, .ref q18, .ref q19, .int 0, .int 0]))] H := hP
  have hD : va_D A [(q0, .inr (15, [.ref q1, .ref q2, .ref q3, .ref q4, .ref q5, .ref q6, .int 0, .int 1, .ref q7, .int 0, .ref q8, .null, .ref q9, .null, .ref q10, .ref q11, .ref q12, .ref q13, .ref q14, .int 1, .ref q15, .ref q16, .ref q17, .ref q18, .ref q19, .int 0, .int 0]))] := hD
  refine lv_iload_n hx hb dX13_no_13 rfl (lv_at hl 1 rfl) ?_
  refine lv_if_ne (tgt := 21) hx hb dX13_no_14 (by decide) (fun h9 => absurd (show (0 : Int32) = (0 : Int32) by decide +kernel) h9) (fun _ => ?_)
  refine lv_iconst (v := 1) hx hb dX13_no_17 (by decide +kernel) ?_
  refine lv_goto (tgt := 22) hx hb dX13_no_18 (by decide) ?_
  have hP9 := hP.sub (ws' := [(q0, .inr (15, [.ref q1, .ref q2, .ref q3, .ref q4, .ref q5, .ref q6, .int 0, .int 1, .ref q7, .int 0, .ref q8, .null, .ref q9, .null, .ref q10, .ref q11, .ref q12, .ref q13, .ref q14, .int 1, .ref q15, .ref q16, .ref q17, .ref q18, .ref q19, .int 0, .int 0]))]) [0] rfl
  have hD9 := hD.sub (ws' := [(q0, .inr (15, [.ref q1, .ref q2, .ref q3, .ref q4, .ref q5, .ref q6, .int 0, .int 1, .ref q7, .int 0, .ref q8, .null, .ref q9, .null, .ref q10, .ref q11, .ref q12, .ref q13, .ref q14, .int 1, .ref q15, .ref q16, .ref q17, .ref q18, .ref q19, .int 0, .int 0]))]) [0] (by decide) rfl
  have hK9 := hK.sub (tys' := []) [] rfl
  exact W.zret (v := 1) hx hb hr (by decide +kernel) (fun t ht hW => ⟨⟨1, (), rfl, rfl, ⟨by rw [ht]; exact hP9, va_K.moved hW.alike hK9, hD9⟩⟩, hS.F ht⟩) hS.2.2 dX13_no_22
set_option maxHeartbeats 4000000 in
set_option maxRecDepth 100000 in
theorem c_X13_add (l : Launch) (dC : Nat → ClassId) (dI : Nat → Nat → Nat) (q0 q1 q2 q3 q4 q5 q6 q7 q8 q9 q10 q11 q12 q13 q14 q15 q16 q17 q18 q19 : Nat) (sz : Nat) (p1 : Int32) (p2 : Int32) (hc0 : p1 < 0) : Met l yX13_add wsX13_add ({ frames := 1, cells := 0, slots := 0, locals := 22 }) (va_Pc [.ref q0, .int p1, .int p2] (zB (dC, dI) [] [(q0, .inr (15, [.ref q1, .ref q2, .ref q3, .ref q4, .ref q5, .ref q6, .int 0, .int 1, .ref q7, .int 0, .ref q8, .null, .ref q9, .null, .ref q10, .ref q11, .ref q12, .ref q13, .ref q14, .int 0, .ref q15, .ref q16, .ref q17, .ref q18, .ref q19, .int 0, .int 0]))] sz)) (va_Qi (fun (r : Int32) (_ : Unit) => 0 = r) (fun _ t => zE (dC, dI) [] [(q0, .inr (15, [.ref q1, .ref q2, .ref q3, .ref q4, .ref q5, .ref q6, .int 0, .int 1, .ref q7, .int 0, .ref q8, .null, .ref q9, .null, .ref q10, .ref q11, .ref q12, .ref q13, .ref q14, .int 1, .ref q15, .ref q16, .ref q17, .ref q18, .ref q19, .int 0, .int 0]))] (va_A [(q0, .inr (15, [.ref q1, .ref q2, .ref q3, .ref q4, .ref q5, .ref q6, .int 0, .int 1, .ref q7, .int 0, .ref q8, .null, .ref q9, .null, .ref q10, .ref q11, .ref q12, .ref q13, .ref q14, .int 0, .ref q15, .ref q16, .ref q17, .ref q18, .ref q19, .int 0, .int 0]))] sz) t) (va_A [(q0, .inr (15, [.ref q1, .ref q2, .ref q3, .ref q4, .ref q5, .ref q6, .int 0, .int 1, .ref q7, .int 0, .ref q8, .null, .ref q9, .null, .ref q10, .ref q11, .ref q12, .ref q13, .ref q14, .int 0, .ref q15, .ref q16, .ref q17, .ref q18, .ref q19, .int 0, .int 0]))] sz)) 0 0 (va_A [(q0, .inr (15, [.ref q1, .ref q2, .ref q3, .ref q4, .ref q5, .ref q6, .int 0, .int 1, .ref q7, .int 0, .ref q8, .null, .ref q9, .null, .ref q10, .ref q11, .ref q12, .ref q13, .ref q14, .int 0, .ref q15, .ref q16, .ref q17, .ref q18, .ref q19, .int 0, .int 0]))] sz) := by
  refine Met.ofW (cc := cX13_add) (maxL := 3) (ret := (some .int)) (by decide) rfl ?_
  intro p e s m args below meth c s₁ B hml hv
  obtain ⟨rfl, hsz, hP, hK, hD0, hZ, hN⟩ := hv
  have hx := B.exec
  have hb := B.bytes
  have hr := B.returns
  have hts := atoms_spec (ws := wsX13_add) B.pre
  have hown : s.vm.findClass RX13 = some m.cls := findClass_of_methodNamed B.named
  have hlocks := B.notSynchronized
  subst hsz
  have hD := hD0.self (sz := s.heap.size)
  generalize hAe : va_A [(q0, .inr (15, [.ref q1, .ref q2, .ref q3, .ref q4, .ref q5, .ref q6, .int 0, .int 1, .ref q7, .int 0, .ref q8, .null, .ref q9, .null, .ref q10, .ref q11, .ref q12, .ref q13, .ref q14, .int 0, .ref q15, .ref q16, .ref q17, .ref q18, .ref q19, .int 0, .int 0]))] s.heap.size = A at hD hZ ⊢
  have hA : ∀ q : Nat, s.heap.size ≤ q → A q := fun q h => by rw [← hAe]; exact Or.inr h
  have hS : va_S A s.heap s.heap [] := va_S.rf
  have hP : va_P (dC, dI) vwCl [(q0, .inr (15, [.ref q1, .ref q2, .ref q3, .ref q4, .ref q5, .ref q6, .int 0, .int 1, .ref q7, .int 0, .ref q8, .null, .ref q9, .null, .ref q10, .ref q11, .ref q12, .ref q13, .ref q14, .int 0, .ref q15, .ref q16, .ref q17, .ref q18, .ref q19, .int 0, .int 0]))] s.heap := hP
  have hl := lv_entry ([.ref q0, .int p1, .int p2]) (n := 3) (Nat.le_of_ble_eq_true rfl)
  rw [lg_entry_eq]
  generalize (lg_sl ([.ref q0, .int p1, .int p2]) ++ List.replicate (3 - (lg_sl ([.ref q0, .int p1, .int p2])).length) Slot.unset).toArray = ls at hl ⊢
  have hl : lv_has ls 3 [(0, .ref q0), (1, .int p1), (2, .int p2)] := hl
  refine lv_aload_n hx hb dX13_add_0 rfl (lv_at hl 0 rfl) ?_
  refine lv_iload_n hx hb dX13_add_1 rfl (lv_at hl 1 rfl) ?_
  refine lv_iconst (v := 0) hx hb dX13_add_2 (by decide +kernel) ?_
  refine lv_sipush (v := 999) hx hb dX13_add_3 (by decide +kernel) ?_
  have hPc := hP.sub (ws' := []) [] rfl
  have hDc := hD.sub (ws' := []) [] (by decide) rfl
  have hKc := hK.sub (tys' := []) [] rfl
  have hFc := va_free (wc := []) hD hS hA [] rfl
  refine va_calli (va_runS (As := [.int p1, .int 0, .int 999]) (rest := [.ref q0]) ⟨hx, hb, hml, hown, hts⟩ (c_X13_in_6 l dC dI  s.heap.size p1 hc0) (va_cwS 3 hts gX13_add_X13_in rfl rfl rfl (by decide +kernel) ⟨Nat.le_of_ble_eq_true rfl, Nat.le_of_ble_eq_true rfl⟩) ⟨zB_blind, (zPre hPc hDc hKc hS hFc hZ hN)⟩ rfl rfl hl.1 rfl (lv_room (Nat.le_of_ble_eq_true rfl)) dX13_add_6 ⟨Nat.le_of_ble_eq_true rfl, Nat.le_of_ble_eq_true rfl⟩) hS (fun q _ h => hFc q h) hFc (fun r u t H1 locs ht hvm hw hB hz1 hk1 hS => ?_)
  subst hw
  obtain ⟨hP1, hK1, hD1⟩ := hB
  rw [ht] at hP1
  have hK1 := va_K.moved hvm.symm hK1
  obtain ⟨hP, hD⟩ := va_join (wr := [(q0, .inr (15, [.ref q1, .ref q2, .ref q3, .ref q4, .ref q5, .ref q6, .int 0, .int 1, .ref q7, .int 0, .ref q8, .null, .ref q9, .null, .ref q10, .ref q11, .ref q12, .ref q13, .ref q14, .int 0, .ref q15, .ref q16, .ref q17, .ref q18, .ref q19, .int 0, .int 0]))]) (w1 := []) hP hD [] [0] rfl rfl (by decide) (by decide) hk1 hFc hP1 hD1
  have hK := (hK.sub (tys' := []) [] rfl).app hK1
  generalize H1 = H at hP hS ⊢
  have hP : va_P (dC, dI) vwCl [(q0, .inr (15, [.ref q1, .ref q2, .ref q3, .ref q4, .ref q5, .ref q6, .int 0, .int 1, .ref q7, .int 0, .ref q8, .null, .ref q9, .null, .ref q10, .ref q11, .ref q12, .ref q13, .ref q14, .int 0, .ref q15, .ref q16, .ref q17, .ref q18, .ref q19, .int 0, .int 0]))] H := hP
  have hD : va_D A [(q0, .inr (15, [.ref q1, .ref q2, .ref q3, .ref q4, .ref q5, .ref q6, .int 0, .int 1, .ref q7, .int 0, .ref q8, .null, .ref q9, .null, .ref q10, .ref q11, .ref q12, .ref q13, .ref q14, .int 0, .ref q15, .ref q16, .ref q17, .ref q18, .ref q19, .int 0, .int 0]))] := hD
  have hK : va_K (dC, dI) vwCl [] s := hK
  refine W.widen (k := 0) (n := 0) (Nat.le_of_ble_eq_true rfl) (Nat.le_of_ble_eq_true rfl) ?_
  refine lv_if_eq (tgt := 27) hx hb dX13_add_9 (by decide) (fun _ => ?_) (fun h9 => absurd (show (0 : Int32) = (0 : Int32) by decide +kernel) h9)
  refine lv_iconst (v := 0) hx hb dX13_add_27 (by decide +kernel) ?_
  refine lv_iconst (v := 1) hx hb dX13_add_28 (by decide +kernel) ?_
  have hPc := hP.sub (ws' := [(q0, .inr (15, [.ref q1, .ref q2, .ref q3, .ref q4, .ref q5, .ref q6, .int 0, .int 1, .ref q7, .int 0, .ref q8, .null, .ref q9, .null, .ref q10, .ref q11, .ref q12, .ref q13, .ref q14, .int 0, .ref q15, .ref q16, .ref q17, .ref q18, .ref q19, .int 0, .int 0]))]) [0] rfl
  have hDc := hD.sub (ws' := [(q0, .inr (15, [.ref q1, .ref q2, .ref q3, .ref q4, .ref q5, .ref q6, .int 0, .int 1, .ref q7, .int 0, .ref q8, .null, .ref q9, .null, .ref q10, .ref q11, .ref q12, .ref q13, .ref q14, .int 0, .ref q15, .ref q16, .ref q17, .ref q18, .ref q19, .int 0, .int 0]))]) [0] (by decide) rfl
  have hKc := hK.sub (tys' := []) [] rfl
  have hFc := va_free (wc := [(q0, .inr (15, [.ref q1, .ref q2, .ref q3, .ref q4, .ref q5, .ref q6, .int 0, .int 1, .ref q7, .int 0, .ref q8, .null, .ref q9, .null, .ref q10, .ref q11, .ref q12, .ref q13, .ref q14, .int 0, .ref q15, .ref q16, .ref q17, .ref q18, .ref q19, .int 0, .int 0]))]) hD hS hA [0] rfl
  refine va_calli (va_runV (As := [.int 0, .int 1]) (rest := []) ⟨hx, hb, hml, hown, hts⟩ (c_X13_no l dC dI q0 q1 q2 q3 q4 q5 q6 q7 q8 q9 q10 q11 q12 q13 q14 q15 q16 q17 q18 q19 H.size  ) (cwV 2 hts gX13_add_X13_no rfl rfl rfl (by decide +kernel) ⟨Nat.le_of_ble_eq_true rfl, Nat.le_of_ble_eq_true rfl⟩) ⟨zB_blind, va_recv hK hP (ci := 15) (q0 := 0) rfl rfl, (zPre hPc hDc hKc hS hFc hZ hN)⟩ rfl rfl hl.1 rfl (lv_room (Nat.le_of_ble_eq_true rfl)) dX13_add_29 ⟨Nat.le_of_ble_eq_true rfl, Nat.le_of_ble_eq_true rfl⟩) hS (fun q _ h => hFc q h) hFc (fun r u t H1 locs ht hvm hw hB hz1 hk1 hS => ?_)
  subst hw
  obtain ⟨hP1, hK1, hD1⟩ := hB
  rw [ht] at hP1
  have hK1 := va_K.moved hvm.symm hK1
  obtain ⟨hP, hD⟩ := va_join (wr := []) (w1 := [(q0, .inr (15, [.ref q1, .ref q2, .ref q3, .ref q4, .ref q5, .ref q6, .int 0, .int 1, .ref q7, .int 0, .ref q8, .null, .ref q9, .null, .ref q10, .ref q11, .ref q12, .ref q13, .ref q14, .int 1, .ref q15, .ref q16, .ref q17, .ref q18, .ref q19, .int 0, .int 0]))]) hP hD [0] [] rfl rfl (by decide) (by decide) hk1 hFc hP1 hD1
  have hK := (hK.sub (tys' := []) [] rfl).app hK1
  generalize H1 = H at hP hS ⊢
  have hP : va_P (dC, dI) vwCl [(q0, .inr (15, [.ref q1, .ref q2, .ref q3, .ref q4, .ref q5, .ref q6, .int 0, .int 1, .ref q7, .int 0, .ref q8, .null, .ref q9, .null, .ref q10, .ref q11, .ref q12, .ref q13, .ref q14, .int 1, .ref q15, .ref q16, .ref q17, .ref q18, .ref q19, .int 0, .int 0]))] H := hP
  have hD : va_D A [(q0, .inr (15, [.ref q1, .ref q2, .ref q3, .ref q4, .ref q5, .ref q6, .int 0, .int 1, .ref q7, .int 0, .ref q8, .null, .ref q9, .null, .ref q10, .ref q11, .ref q12, .ref q13, .ref q14, .int 1, .ref q15, .ref q16, .ref q17, .ref q18, .ref q19, .int 0, .int 0]))] := hD
  have hK : va_K (dC, dI) vwCl [] s := hK
  refine W.widen (k := 0) (n := 0) (Nat.le_of_ble_eq_true rfl) (Nat.le_of_ble_eq_true rfl) ?_
  refine lv_if_ne (tgt := 57) hx hb dX13_add_32 (by decide) (fun _ => ?_) (fun h9 => absurd h9 (show ¬ (1 : Int32) = (0 : Int32) by decide +kernel))
  refine lv_iconst (v := 0) hx hb dX13_add_57 (by decide +kernel) ?_
  have hP9 := hP.sub (ws' := [(q0, .inr (15, [.ref q1, .ref q2, .ref q3, .ref q4, .ref q5, .ref q6, .int 0, .int 1, .ref q7, .int 0, .ref q8, .null, .ref q9, .null, .ref q10, .ref q11, .ref q12, .ref q13, .ref q14, .int 1, .ref q15, .ref q16, .ref q17, .ref q18, .ref q19, .int 0, .int 0]))]) [0] rfl
  have hD9 := hD.sub (ws' := [(q0, .inr (15, [.ref q1, .ref q2, .ref q3, .ref q4, .ref q5, .ref q6, .int 0, .int 1, .ref q7, .int 0, .ref q8, .null, .ref q9, .null, .ref q10, .ref q11, .ref q12, .ref q13, .ref q14, .int 1, .ref q15, .ref q16, .ref q17, .ref q18, .ref q19, .int 0, .int 0]))]) [0] (by decide) rfl
  have hK9 := hK.sub (tys' := []) [] rfl
  exact W.iret (v := 0) hx hb hr (fun t ht hW => ⟨⟨0, (), rfl, rfl, ⟨by rw [ht]; exact hP9, va_K.moved hW.alike hK9, hD9⟩⟩, hS.F ht⟩) hS.2.2 dX13_add_58
set_option maxHeartbeats 4000000 in
set_option maxRecDepth 100000 in
theorem c_X11_isTag_3 (l : Launch) (dC : Nat → ClassId) (dI : Nat → Nat → Nat) (sz : Nat) (p0 : Int32) (hc0 : ¬ p0 < 97) (hc1 : ¬ (122 : Int32) < p0) : Met l yX11_isTag wsX11_isTag ({ frames := 0, cells := 0, slots := 0, locals := 0 }) (va_Pc [.int p0] (zB (dC, dI) [] [] sz)) (va_Qi (fun (r : Int32) (_ : Unit) => 1 = r) (fun _ t => zE (dC, dI) [] [] (va_A [] sz) t) (va_A [] sz)) 0 0 (va_A [] sz) := by
  refine Met.ofW (cc := cX11_isTag) (maxL := 1) (ret := (some .boolean)) (by decide) rfl ?_
  intro p e s m args below meth c s₁ B hml hv
  obtain ⟨rfl, hsz, hP, hK, hD0, hZ, hN⟩ := hv
  have hx := B.exec
  have hb := B.bytes
  have hr := B.returns
  have hts := atoms_spec (ws := wsX11_isTag) B.pre
  have hown : s.vm.findClass RX11 = some m.cls := findClass_of_methodNamed B.named
  have hlocks := B.notSynchronized
  subst hsz
  have hD := hD0.self (sz := s.heap.size)
  generalize hAe : va_A [] s.heap.size = A at hD hZ ⊢
  have hA : ∀ q : Nat, s.heap.size ≤ q → A q := fun q h => by rw [← hAe]; exact Or.inr h
  have hS : va_S A s.heap s.heap [] := va_S.rf
  have hP : va_P (dC, dI) vwCl [] s.heap := hP
  have hl := lv_entry ([.int p0]) (n := 1) (Nat.le_of_ble_eq_true rfl)
  rw [lg_entry_eq]
  generalize (lg_sl ([.int p0]) ++ List.replicate (1 - (lg_sl ([.int p0])).length) Slot.unset).toArray = ls at hl ⊢
  have hl : lv_has ls 1 [(0, .int p0)] := hl
  refine lv_iload_n hx hb dX11_isTag_0 rfl (lv_at hl 0 rfl) ?_
  refine lv_bipush (v := 97) hx hb dX11_isTag_1 (by decide +kernel) ?_
  refine lv_icmp_lt (tgt := 16) hx hb dX11_isTag_3 (by decide) (fun h9 => absurd h9 hc0) (fun _ => ?_)
  refine lv_iload_n hx hb dX11_isTag_6 rfl (lv_at hl 0 rfl) ?_
  refine lv_bipush (v := 122) hx hb dX11_isTag_7 (by decide +kernel) ?_
  refine lv_icmp_gt (tgt := 16) hx hb dX11_isTag_9 (by decide) (fun h9 => absurd h9 hc1) (fun _ => ?_)
  refine lv_iconst (v := 1) hx hb dX11_isTag_12 (by decide +kernel) ?_
  refine lv_goto (tgt := 17) hx hb dX11_isTag_13 (by decide) ?_
  have hP9 := hP.sub (ws' := []) [] rfl
  have hD9 := hD.sub (ws' := []) [] (by decide) rfl
  have hK9 := hK.sub (tys' := []) [] rfl
  exact W.zret (v := 1) hx hb hr (by decide +kernel) (fun t ht hW => ⟨⟨1, (), rfl, rfl, ⟨by rw [ht]; exact hP9, va_K.moved hW.alike hK9, hD9⟩⟩, hS.F ht⟩) hS.2.2 dX11_isTag_17
set_option maxHeartbeats 4000000 in
set_option maxRecDepth 100000 in
theorem c_X8_came (l : Launch) (dC : Nat → ClassId) (dI : Nat → Nat → Nat) (q0 q1 : Nat) (sz : Nat) : Met l yX8_came wsX8_came ({ frames := 0, cells := 0, slots := 0, locals := 0 }) (va_Pc [.ref q0] (zB (dC, dI) [] [(q0, .inr (11, [.ref q1, .int 0, .int 1]))] sz)) (va_Qi (fun (r : Int32) (_ : Unit) => 0 = r) (fun _ t => zE (dC, dI) [] [(q0, .inr (11, [.ref q1, .int 0, .int 1]))] (va_A [(q0, .inr (11, [.ref q1, .int 0, .int 1]))] sz) t) (va_A [(q0, .inr (11, [.ref q1, .int 0, .int 1]))] sz)) 0 0 (va_A [(q0, .inr (11, [.ref q1, .int 0, .int 1]))] sz) := by
  refine Met.ofW (cc := cX8_came) (maxL := 1) (ret := (some .int)) (by decide) rfl ?_
  intro p e s m args below meth c s₁ B hml hv
  obtain ⟨rfl, hsz, hP, hK, hD0, hZ, hN⟩ := hv
  have hx := B.exec
  have hb := B.bytes
  have hr := B.returns
  have hts := atoms_spec (ws := wsX8_came) B.pre
  have hown : s.vm.findClass RX8 = some m.cls := findClass_of_methodNamed B.named
  have hlocks := B.notSynchronized
  subst hsz
  have hD := hD0.self (sz := s.heap.size)
  generalize hAe : va_A [(q0, .inr (11, [.ref q1, .int 0, .int 1]))] s.heap.size = A at hD hZ ⊢
  have hA : ∀ q : Nat, s.heap.size ≤ q → A q := fun q h => by rw [← hAe]; exact Or.inr h
  have hS : va_S A s.heap s.heap [] := va_S.rf
  have hP : va_P (dC, dI) vwCl [(q0, .inr (11, [.ref q1, .int 0, .int 1]))] s.heap := hP
  have hl := lv_entry ([.ref q0]) (n := 1) (Nat.le_of_ble_eq_true rfl)
  rw [lg_entry_eq]
  generalize (lg_sl ([.ref q0]) ++ List.replicate (1 - (lg_sl ([.ref q0])).length) Slot.unset).toArray = ls at hl ⊢
  have hl : lv_has ls 1 [(0, .ref q0)] := hl
  refine lv_aload_n hx hb dX8_came_0 rfl (lv_at hl 0 rfl) ?_
  refine va_get (D := (dC, dI)) (ci := 11) (v := .int 0) (C := RX8) (T := TX8) (N := 3) hx hb hts (fun _ h => List.mem_cons_of_mem _ (List.mem_append_right _ h)) hown hK hP 0 rfl rfl 1 (by decide) (hts (.fieldLink RX8 17 "Seekwell$Shelf" "came" "I") (by decide +kernel)) (fun _ h9 => h9) rfl dX8_came_1 ?_
  have hP9 := hP.sub (ws' := [(q0, .inr (11, [.ref q1, .int 0, .int 1]))]) [0] rfl
  have hD9 := hD.sub (ws' := [(q0, .inr (11, [.ref q1, .int 0, .int 1]))]) [0] (by decide) rfl
  have hK9 := hK.sub (tys' := []) [] rfl
  exact W.iret (v := 0) hx hb hr (fun t ht hW => ⟨⟨0, (), rfl, rfl, ⟨by rw [ht]; exact hP9, va_K.moved hW.alike hK9, hD9⟩⟩, hS.F ht⟩) hS.2.2 dX8_came_4
set_option maxHeartbeats 4000000 in
set_option maxRecDepth 100000 in
theorem c_X7_init (l : Launch) (dC : Nat → ClassId) (dI : Nat → Nat → Nat) (q0 : Nat) (sz : Nat) : Met l yX7_init wsX7_init ({ frames := 1, cells := 1, slots := 4, locals := 20 }) (va_Pc [.ref q0] (zB (dC, dI) [] [(q0, .inr (10, [.null, .int 0]))] sz)) (va_Qv (fun (_ : Unit) => True) (fun _ t => ∃ q1 : Nat, zE (dC, dI) [] [(q0, .inr (10, [.ref q1, .int 0]))] (va_A [(q0, .inr (10, [.null, .int 0]))] sz) t) (va_A [(q0, .inr (10, [.null, .int 0]))] sz)) 1 4 (va_A [(q0, .inr (10, [.null, .int 0]))] sz) := by
  refine Met.ofW (cc := cX7_init) (maxL := 1) (ret := none) (by decide) rfl ?_
  intro p e s m args below meth c s₁ B hml hv
  obtain ⟨rfl, hsz, hP, hK, hD0, hZ, hN⟩ := hv
  have hx := B.exec
  have hb := B.bytes
  have hr := B.returns
  have hts := atoms_spec (ws := wsX7_init) B.pre
  have hown : s.vm.findClass RX7 = some m.cls := findClass_of_methodNamed B.named
  have hlocks := B.notSynchronized
  have hin : meth.name = "<init>" := (name_of_methodNamed B.named B.method).1
  subst hsz
  have hD := hD0.self (sz := s.heap.size)
  generalize hAe : va_A [(q0, .inr (10, [.null, .int 0]))] s.heap.size = A at hD hZ ⊢
  have hA : ∀ q : Nat, s.heap.size ≤ q → A q := fun q h => by rw [← hAe]; exact Or.inr h
  have hS : va_S A s.heap s.heap [] := va_S.rf
  have hP : va_P (dC, dI) vwCl [(q0, .inr (10, [.null, .int 0]))] s.heap := hP
  have hl := lv_entry ([.ref q0]) (n := 1) (Nat.le_of_ble_eq_true rfl)
  rw [lg_entry_eq]
  generalize (lg_sl ([.ref q0]) ++ List.replicate (1 - (lg_sl ([.ref q0])).length) Slot.unset).toArray = ls at hl ⊢
  have hl : lv_has ls 1 [(0, .ref q0)] := hl
  refine lv_aload_n hx hb dX7_init_0 rfl (lv_at hl 0 rfl) ?_
  refine z_objInit hx hb hown (hts (.methodLink RX7 3 objectInit) (by decide +kernel)) (hts (.instanceMethod objectInit) (by decide +kernel)) (hts (.code objectInit ⟨#[0xb1]⟩ 1 none) (by decide +kernel)) (hl.1.trans hml.symm) dX7_init_1 (Nat.le_of_ble_eq_true rfl) (Nat.le_of_ble_eq_true rfl) ?_
  refine lv_aload_n hx hb dX7_init_4 rfl (lv_at hl 0 rfl) ?_
  refine lv_iconst (v := 4) hx hb dX7_init_5 (by decide +kernel) ?_
  refine va_newa (D := (dC, dI)) (atype := .long) (ty := .long) (a0 := (4, .inr (.inl (fun _ => 0)))) (N' := 4) hx hb (hts (.arrayClass .long) (by decide +kernel)) rfl hK hP hD hS hA (fun _ => rfl) (by decide +kernel) (by decide +kernel) (Nat.le_of_ble_eq_true rfl) (Nat.le_of_ble_eq_true rfl) (Nat.le_of_ble_eq_true rfl) dX7_init_6 (fun q1 k0 H hK hP hD hS => ?_)
  have hP : va_P (dC, dI) vwCl [(q0, .inr (10, [.null, .int 0])), (q1, .inl (k0, 4, .inr (.inl (fun _ => 0))))] H := hP
  have hD : va_D A [(q0, .inr (10, [.null, .int 0])), (q1, .inl (k0, 4, .inr (.inl (fun _ => 0))))] := hD
  have hK : va_K (dC, dI) vwCl [(k0, .long)] s := hK
  refine W.widen (k := 1) (n := 4) (Nat.le_of_ble_eq_true rfl) (Nat.le_of_ble_eq_true rfl) ?_
  refine va_put (D := (dC, dI)) (ci := 10) (v := .ref q1) (ty := (.array .long)) (C := RX7) (T := TX7) (N := 2) hx hb hts (fun _ h => List.mem_cons_of_mem _ (List.mem_append_right _ h)) tyX7 tyX7_ok nmX7 hown hK hP hD hS 0 rfl rfl 0 (by decide) (hts (.fieldLink RX7 9 "Seekwell$Row" "words" "[J") (by decide +kernel)) (fun _ h9 => h9) rfl (by decide +kernel) rfl rfl (Nat.le_of_ble_eq_true rfl) dX7_init_8 (fun H locs hP hD hS => ?_)
  have hP : va_P (dC, dI) vwCl [(q0, .inr (10, [.ref q1, .int 0])), (q1, .inl (k0, 4, .inr (.inl (fun _ => 0))))] H := hP
  have hD : va_D A [(q0, .inr (10, [.ref q1, .int 0])), (q1, .inl (k0, 4, .inr (.inl (fun _ => 0))))] := hD
  refine lv_aload_n hx hb dX7_init_11 rfl (lv_at hl 0 rfl) ?_
  refine lv_iconst (v := 0) hx hb dX7_init_12 (by decide +kernel) ?_
  refine va_put (D := (dC, dI)) (ci := 10) (v := .int 0) (ty := .int) (C := RX7) (T := TX7) (N := 2) hx hb hts (fun _ h => List.mem_cons_of_mem _ (List.mem_append_right _ h)) tyX7 tyX7_ok nmX7 hown hK hP hD hS 0 rfl rfl 1 (by decide) (hts (.fieldLink RX7 15 "Seekwell$Row" "size" "I") (by decide +kernel)) (fun _ h9 => h9) rfl (by decide +kernel) rfl rfl (Nat.le_of_ble_eq_true rfl) dX7_init_13 (fun H locs hP hD hS => ?_)
  have hP : va_P (dC, dI) vwCl [(q0, .inr (10, [.ref q1, .int 0])), (q1, .inl (k0, 4, .inr (.inl (fun _ => 0))))] H := hP
  have hD : va_D A [(q0, .inr (10, [.ref q1, .int 0])), (q1, .inl (k0, 4, .inr (.inl (fun _ => 0))))] := hD
  have hP9 := hP.sub (ws' := [(q0, .inr (10, [.ref q1, .int 0]))]) [0] rfl
  have hD9 := hD.sub (ws' := [(q0, .inr (10, [.ref q1, .int 0]))]) [0] (by decide) rfl
  have hK9 := hK.sub (tys' := []) [] rfl
  exact W.vret hx hb hr (fun t ht hW => ⟨⟨(), rfl, trivial, q1, ⟨by rw [ht]; exact hP9, va_K.moved hW.alike hK9, hD9⟩⟩, hS.F ht⟩) hS.2.2 dX7_init_16
set_option maxHeartbeats 4000000 in
set_option maxRecDepth 100000 in
theorem c_X9_init (l : Launch) (dC : Nat → ClassId) (dI : Nat → Nat → Nat) (q0 : Nat) (sz : Nat) : Met l yX9_init wsX9_init ({ frames := 2, cells := 4, slots := 12, locals := 40 }) (va_Pc [.ref q0] (zB (dC, dI) [] [(q0, .inr (12, [.null, .null, .int 0, .int 0, .int 0, .int 0]))] sz)) (va_Qv (fun (_ : Unit) => True) (fun _ t => ∃ q1 : Nat, ∃ q2 : Nat, ∃ q3 : Nat, ∃ q4 : Nat, zE (dC, dI) [] [(q0, .inr (12, [.ref q1, .ref q2, .int 0, .int 97, .int 0, .int 0])), (q1, .inr (10, [.ref q3, .int 0])), (q2, .inr (10, [.ref q4, .int 0]))] (va_A [(q0, .inr (12, [.null, .null, .int 0, .int 0, .int 0, .int 0]))] sz) t) (va_A [(q0, .inr (12, [.null, .null, .int 0, .int 0, .int 0, .int 0]))] sz)) 4 12 (va_A [(q0, .inr (12, [.null, .null, .int 0, .int 0, .int 0, .int 0]))] sz) := by
  refine Met.ofW (cc := cX9_init) (maxL := 1) (ret := none) (by decide) rfl ?_
  intro p e s m args below meth c s₁ B hml hv
  obtain ⟨rfl, hsz, hP, hK, hD0, hZ, hN⟩ := hv
  have hx := B.exec
  have hb := B.bytes
  have hr := B.returns
  have hts := atoms_spec (ws := wsX9_init) B.pre
  have hown : s.vm.findClass RX9 = some m.cls := findClass_of_methodNamed B.named
  have hlocks := B.notSynchronized
  have hin : meth.name = "<init>" := (name_of_methodNamed B.named B.method).1
  subst hsz
  have hD := hD0.self (sz := s.heap.size)
  generalize hAe : va_A [(q0, .inr (12, [.null, .null, .int 0, .int 0, .int 0, .int 0]))] s.heap.size = A at hD hZ ⊢
  have hA : ∀ q : Nat, s.heap.size ≤ q → A q := fun q h => by rw [← hAe]; exact Or.inr h
  have hS : va_S A s.heap s.heap [] := va_S.rf
  have hP : va_P (dC, dI) vwCl [(q0, .inr (12, [.null, .null, .int 0, .int 0, .int 0, .int 0]))] s.heap := hP
  have hl := lv_entry ([.ref q0]) (n := 1) (Nat.le_of_ble_eq_true rfl)
  rw [lg_entry_eq]
  generalize (lg_sl ([.ref q0]) ++ List.replicate (1 - (lg_sl ([.ref q0])).length) Slot.unset).toArray = ls at hl ⊢
  have hl : lv_has ls 1 [(0, .ref q0)] := hl
  refine lv_aload_n hx hb dX9_init_0 rfl (lv_at hl 0 rfl) ?_
  refine z_objInit hx hb hown (hts (.methodLink RX9 1 objectInit) (by decide +kernel)) (hts (.instanceMethod objectInit) (by decide +kernel)) (hts (.code objectInit ⟨#[0xb1]⟩ 1 none) (by decide +kernel)) (hl.1.trans hml.symm) dX9_init_1 (Nat.le_of_ble_eq_true rfl) (Nat.le_of_ble_eq_true rfl) ?_
  refine lv_aload_n hx hb dX9_init_4 rfl (lv_at hl 0 rfl) ?_
  refine va_new (D := (dC, dI)) (ci := 10) (fs := [.null, .int 0]) (C := RX7) (T := TX7) (N := 2) hx hb hts (fun _ h => List.mem_cons_of_mem _ (List.mem_append_left _ (List.mem_append_right _ h))) tyX7 tyX7_ok hown (hts (.classLink RX9 7 RX7) (by decide +kernel)) (hts (.instantiable RX7 2) (by decide +kernel)) (hts (.initialized RX7) (by decide +kernel)) hK hP hD hS hA rfl (zfs (by decide)) (Nat.le_of_ble_eq_true rfl) (Nat.le_of_ble_eq_true rfl) dX9_init_5 (fun q1 H hP hD hS => ?_)
  have hP : va_P (dC, dI) vwCl [(q0, .inr (12, [.null, .null, .int 0, .int 0, .int 0, .int 0])), (q1, .inr (10, [.null, .int 0]))] H := hP
  have hD : va_D A [(q0, .inr (12, [.null, .null, .int 0, .int 0, .int 0, .int 0])), (q1, .inr (10, [.null, .int 0]))] := hD
  refine W.widen (k := 1) (n := 2) (Nat.le_of_ble_eq_true rfl) (Nat.le_of_ble_eq_true rfl) ?_
  refine lv_dup hx hb dX9_init_8 rfl ?_
  have hPc := hP.sub (ws' := [(q1, .inr (10, [.null, .int 0]))]) [1] rfl
  have hDc := hD.sub (ws' := [(q1, .inr (10, [.null, .int 0]))]) [1] (by decide) rfl
  have hKc := hK.sub (tys' := []) [] rfl
  have hFc := va_free (wc := [(q1, .inr (10, [.null, .int 0]))]) hD hS hA [1] rfl
  refine va_callv (va_runIN (As := []) (rest := [.ref q1, .ref q0]) ⟨hx, hb, hml, hown, hts⟩ (c_X7_init l dC dI q1 H.size  ) ⟨va_cnB (host := "Seekwell") 0 hts gX9_init_X7_init_n9 rfl rfl rfl (hN.1 (RX9, 9, yX7_init, "Seekwell") (by decide +kernel)) (hts (.initialized RX7) (by decide +kernel)) (by decide +kernel) ⟨Nat.le_of_ble_eq_true rfl, Nat.le_of_ble_eq_true rfl⟩, rfl, hts (.instanceMethod yX7_init) (by decide +kernel)⟩ ⟨zB_blind, (zPre hPc hDc hKc hS hFc hZ hN)⟩ rfl rfl hl.1 rfl (lv_room (Nat.le_of_ble_eq_true rfl)) dX9_init_9 ⟨Nat.le_of_ble_eq_true rfl, Nat.le_of_ble_eq_true rfl⟩) hS (fun q _ h => hFc q h) hFc (fun u t H1 locs ht hvm hw hB hz1 hk1 hS => ?_)
  obtain ⟨q3, hP1, hK1, hD1⟩ := hB
  rw [ht] at hP1
  have hK1 := va_K.moved hvm.symm hK1
  obtain ⟨hP, hD⟩ := va_join (wr := [(q0, .inr (12, [.null, .null, .int 0, .int 0, .int 0, .int 0]))]) (w1 := [(q1, .inr (10, [.ref q3, .int 0]))]) hP hD [1] [0] rfl rfl (by decide) (by decide) hk1 hFc hP1 hD1
  have hK := (hK.sub (tys' := []) [] rfl).app hK1
  generalize H1 = H at hP hS ⊢
  have hP : va_P (dC, dI) vwCl [(q0, .inr (12, [.null, .null, .int 0, .int 0, .int 0, .int 0])), (q1, .inr (10, [.ref q3, .int 0]))] H := hP
  have hD : va_D A [(q0, .inr (12, [.null, .null, .int 0, .int 0, .int 0, .int 0])), (q1, .inr (10, [.ref q3, .int 0]))] := hD
  have hK : va_K (dC, dI) vwCl [] s := hK
  refine W.widen (k := 2) (n := 6) (Nat.le_of_ble_eq_true rfl) (Nat.le_of_ble_eq_true rfl) ?_
  refine va_putF (D := (dC, dI)) (ci := 12) (v := .ref q1) (ty := (.object "Seekwell$Row")) (C := RX9) (T := TX9) (N := 6) hx hb hts (fun _ h => List.mem_cons_of_mem _ (List.mem_append_right _ h)) tyX9 tyX9_ok nmX9 hown hK hP hD hS 0 rfl rfl 0 (by decide) (hts (.fieldLink RX9 10 "Seekwell$Text" "title" "LSeekwell$Row;") (by decide +kernel)) (fun _ h9 => h9) rfl hin rfl (by decide +kernel) rfl rfl (Nat.le_of_ble_eq_true rfl) dX9_init_12 (fun H locs hP hD hS => ?_)
  have hP : va_P (dC, dI) vwCl [(q0, .inr (12, [.ref q1, .null, .int 0, .int 0, .int 0, .int 0])), (q1, .inr (10, [.ref q3, .int 0]))] H := hP
  have hD : va_D A [(q0, .inr (12, [.ref q1, .null, .int 0, .int 0, .int 0, .int 0])), (q1, .inr (10, [.ref q3, .int 0]))] := hD
  refine lv_aload_n hx hb dX9_init_15 rfl (lv_at hl 0 rfl) ?_
  refine va_new (D := (dC, dI)) (ci := 10) (fs := [.null, .int 0]) (C := RX7) (T := TX7) (N := 2) hx hb hts (fun _ h => List.mem_cons_of_mem _ (List.mem_append_left _ (List.mem_append_right _ h))) tyX7 tyX7_ok hown (hts (.classLink RX9 7 RX7) (by decide +kernel)) (hts (.instantiable RX7 2) (by decide +kernel)) (hts (.initialized RX7) (by decide +kernel)) hK hP hD hS hA rfl (zfs (by decide)) (Nat.le_of_ble_eq_true rfl) (Nat.le_of_ble_eq_true rfl) dX9_init_16 (fun q2 H hP hD hS => ?_)
  have hP : va_P (dC, dI) vwCl [(q0, .inr (12, [.ref q1, .null, .int 0, .int 0, .int 0, .int 0])), (q1, .inr (10, [.ref q3, .int 0])), (q2, .inr (10, [.null, .int 0]))] H := hP
  have hD : va_D A [(q0, .inr (12, [.ref q1, .null, .int 0, .int 0, .int 0, .int 0])), (q1, .inr (10, [.ref q3, .int 0])), (q2, .inr (10, [.null, .int 0]))] := hD
  refine W.widen (k := 3) (n := 8) (Nat.le_of_ble_eq_true rfl) (Nat.le_of_ble_eq_true rfl) ?_
  refine lv_dup hx hb dX9_init_19 rfl ?_
  have hPc := hP.sub (ws' := [(q2, .inr (10, [.null, .int 0]))]) [2] rfl
  have hDc := hD.sub (ws' := [(q2, .inr (10, [.null, .int 0]))]) [2] (by decide) rfl
  have hKc := hK.sub (tys' := []) [] rfl
  have hFc := va_free (wc := [(q2, .inr (10, [.null, .int 0]))]) hD hS hA [2] rfl
  refine va_callv (va_runIN (As := []) (rest := [.ref q2, .ref q0]) ⟨hx, hb, hml, hown, hts⟩ (c_X7_init l dC dI q2 H.size  ) ⟨va_cnB (host := "Seekwell") 0 hts gX9_init_X7_init_n9 rfl rfl rfl (hN.1 (RX9, 9, yX7_init, "Seekwell") (by decide +kernel)) (hts (.initialized RX7) (by decide +kernel)) (by decide +kernel) ⟨Nat.le_of_ble_eq_true rfl, Nat.le_of_ble_eq_true rfl⟩, rfl, hts (.instanceMethod yX7_init) (by decide +kernel)⟩ ⟨zB_blind, (zPre hPc hDc hKc hS hFc hZ hN)⟩ rfl rfl hl.1 rfl (lv_room (Nat.le_of_ble_eq_true rfl)) dX9_init_20 ⟨Nat.le_of_ble_eq_true rfl, Nat.le_of_ble_eq_true rfl⟩) hS (fun q _ h => hFc q h) hFc (fun u t H1 locs ht hvm hw hB hz1 hk1 hS => ?_)
  obtain ⟨q4, hP1, hK1, hD1⟩ := hB
  rw [ht] at hP1
  have hK1 := va_K.moved hvm.symm hK1
  obtain ⟨hP, hD⟩ := va_join (wr := [(q0, .inr (12, [.ref q1, .null, .int 0, .int 0, .int 0, .int 0])), (q1, .inr (10, [.ref q3, .int 0]))]) (w1 := [(q2, .inr (10, [.ref q4, .int 0]))]) hP hD [2] [0, 1] rfl rfl (by decide) (by decide) hk1 hFc hP1 hD1
  have hK := (hK.sub (tys' := []) [] rfl).app hK1
  generalize H1 = H at hP hS ⊢
  have hP : va_P (dC, dI) vwCl [(q0, .inr (12, [.ref q1, .null, .int 0, .int 0, .int 0, .int 0])), (q1, .inr (10, [.ref q3, .int 0])), (q2, .inr (10, [.ref q4, .int 0]))] H := hP
  have hD : va_D A [(q0, .inr (12, [.ref q1, .null, .int 0, .int 0, .int 0, .int 0])), (q1, .inr (10, [.ref q3, .int 0])), (q2, .inr (10, [.ref q4, .int 0]))] := hD
  have hK : va_K (dC, dI) vwCl [] s := hK
  refine W.widen (k := 4) (n := 12) (Nat.le_of_ble_eq_true rfl) (Nat.le_of_ble_eq_true rfl) ?_
  refine va_putF (D := (dC, dI)) (ci := 12) (v := .ref q2) (ty := (.object "Seekwell$Row")) (C := RX9) (T := TX9) (N := 6) hx hb hts (fun _ h => List.mem_cons_of_mem _ (List.mem_append_right _ h)) tyX9 tyX9_ok nmX9 hown hK hP hD hS 0 rfl rfl 1 (by decide) (hts (.fieldLink RX9 16 "Seekwell$Text" "body" "LSeekwell$Row;") (by decide +kernel)) (fun _ h9 => h9) rfl hin rfl (by decide +kernel) rfl rfl (Nat.le_of_ble_eq_true rfl) dX9_init_23 (fun H locs hP hD hS => ?_)
  have hP : va_P (dC, dI) vwCl [(q0, .inr (12, [.ref q1, .ref q2, .int 0, .int 0, .int 0, .int 0])), (q1, .inr (10, [.ref q3, .int 0])), (q2, .inr (10, [.ref q4, .int 0]))] H := hP
  have hD : va_D A [(q0, .inr (12, [.ref q1, .ref q2, .int 0, .int 0, .int 0, .int 0])), (q1, .inr (10, [.ref q3, .int 0])), (q2, .inr (10, [.ref q4, .int 0]))] := hD
  refine lv_aload_n hx hb dX9_init_26 rfl (lv_at hl 0 rfl) ?_
  refine lv_iconst (v := 0) hx hb dX9_init_27 (by decide +kernel) ?_
  refine va_put (D := (dC, dI)) (ci := 12) (v := .int 0) (ty := .int) (C := RX9) (T := TX9) (N := 6) hx hb hts (fun _ h => List.mem_cons_of_mem _ (List.mem_append_right _ h)) tyX9 tyX9_ok nmX9 hown hK hP hD hS 0 rfl rfl 2 (by decide) (hts (.fieldLink RX9 19 "Seekwell$Text" "value" "I") (by decide +kernel)) (fun _ h9 => h9) rfl (by decide +kernel) rfl rfl (Nat.le_of_ble_eq_true rfl) dX9_init_28 (fun H locs hP hD hS => ?_)
  have hP : va_P (dC, dI) vwCl [(q0, .inr (12, [.ref q1, .ref q2, .int 0, .int 0, .int 0, .int 0])), (q1, .inr (10, [.ref q3, .int 0])), (q2, .inr (10, [.ref q4, .int 0]))] H := hP
  have hD : va_D A [(q0, .inr (12, [.ref q1, .ref q2, .int 0, .int 0, .int 0, .int 0])), (q1, .inr (10, [.ref q3, .int 0])), (q2, .inr (10, [.ref q4, .int 0]))] := hD
  refine lv_aload_n hx hb dX9_init_31 rfl (lv_at hl 0 rfl) ?_
  refine lv_bipush (v := 97) hx hb dX9_init_32 (by decide +kernel) ?_
  refine va_put (D := (dC, dI)) (ci := 12) (v := .int 97) (ty := .char) (C := RX9) (T := TX9) (N := 6) hx hb hts (fun _ h => List.mem_cons_of_mem _ (List.mem_append_right _ h)) tyX9 tyX9_ok nmX9 hown hK hP hD hS 0 rfl rfl 3 (by decide) (hts (.fieldLink RX9 23 "Seekwell$Text" "tag" "C") (by decide +kernel)) (fun _ h9 => h9) rfl (by decide +kernel) rfl rfl (Nat.le_of_ble_eq_true rfl) dX9_init_34 (fun H locs hP hD hS => ?_)
  have hP : va_P (dC, dI) vwCl [(q0, .inr (12, [.ref q1, .ref q2, .int 0, .int 97, .int 0, .int 0])), (q1, .inr (10, [.ref q3, .int 0])), (q2, .inr (10, [.ref q4, .int 0]))] H := hP
  have hD : va_D A [(q0, .inr (12, [.ref q1, .ref q2, .int 0, .int 97, .int 0, .int 0])), (q1, .inr (10, [.ref q3, .int 0])), (q2, .inr (10, [.ref q4, .int 0]))] := hD
  refine lv_aload_n hx hb dX9_init_37 rfl (lv_at hl 0 rfl) ?_
  refine lv_iconst (v := 0) hx hb dX9_init_38 (by decide +kernel) ?_
  refine va_put (D := (dC, dI)) (ci := 12) (v := .int 0) (ty := .int) (C := RX9) (T := TX9) (N := 6) hx hb hts (fun _ h => List.mem_cons_of_mem _ (List.mem_append_right _ h)) tyX9 tyX9_ok nmX9 hown hK hP hD hS 0 rfl rfl 4 (by decide) (hts (.fieldLink RX9 27 "Seekwell$Text" "part" "I") (by decide +kernel)) (fun _ h9 => h9) rfl (by decide +kernel) rfl rfl (Nat.le_of_ble_eq_true rfl) dX9_init_39 (fun H locs hP hD hS => ?_)
  have hP : va_P (dC, dI) vwCl [(q0, .inr (12, [.ref q1, .ref q2, .int 0, .int 97, .int 0, .int 0])), (q1, .inr (10, [.ref q3, .int 0])), (q2, .inr (10, [.ref q4, .int 0]))] H := hP
  have hD : va_D A [(q0, .inr (12, [.ref q1, .ref q2, .int 0, .int 97, .int 0, .int 0])), (q1, .inr (10, [.ref q3, .int 0])), (q2, .inr (10, [.ref q4, .int 0]))] := hD
  refine lv_aload_n hx hb dX9_init_42 rfl (lv_at hl 0 rfl) ?_
  refine lv_iconst (v := 0) hx hb dX9_init_43 (by decide +kernel) ?_
  refine va_put (D := (dC, dI)) (ci := 12) (v := .int 0) (ty := .boolean) (C := RX9) (T := TX9) (N := 6) hx hb hts (fun _ h => List.mem_cons_of_mem _ (List.mem_append_right _ h)) tyX9 tyX9_ok nmX9 hown hK hP hD hS 0 rfl rfl 5 (by decide) (hts (.fieldLink RX9 30 "Seekwell$Text" "isPresent" "Z") (by decide +kernel)) (fun _ h9 => h9) rfl (by decide +kernel) rfl rfl (Nat.le_of_ble_eq_true rfl) dX9_init_44 (fun H locs hP hD hS => ?_)
  have hP : va_P (dC, dI) vwCl [(q0, .inr (12, [.ref q1, .ref q2, .int 0, .int 97, .int 0, .int 0])), (q1, .inr (10, [.ref q3, .int 0])), (q2, .inr (10, [.ref q4, .int 0]))] H := hP
  have hD : va_D A [(q0, .inr (12, [.ref q1, .ref q2, .int 0, .int 97, .int 0, .int 0])), (q1, .inr (10, [.ref q3, .int 0])), (q2, .inr (10, [.ref q4, .int 0]))] := hD
  have hP9 := hP.sub (ws' := [(q0, .inr (12, [.ref q1, .ref q2, .int 0, .int 97, .int 0, .int 0])), (q1, .inr (10, [.ref q3, .int 0])), (q2, .inr (10, [.ref q4, .int 0]))]) [0, 1, 2] rfl
  have hD9 := hD.sub (ws' := [(q0, .inr (12, [.ref q1, .ref q2, .int 0, .int 97, .int 0, .int 0])), (q1, .inr (10, [.ref q3, .int 0])), (q2, .inr (10, [.ref q4, .int 0]))]) [0, 1, 2] (by decide) rfl
  have hK9 := hK.sub (tys' := []) [] rfl
  exact W.vret hx hb hr (fun t ht hW => ⟨⟨(), rfl, trivial, q1, q2, q3, q4, ⟨by rw [ht]; exact hP9, va_K.moved hW.alike hK9, hD9⟩⟩, hS.F ht⟩) hS.2.2 dX9_init_47
set_option maxHeartbeats 4000000 in
set_option maxRecDepth 100000 in
theorem c_X8_place (l : Launch) (dC : Nat → ClassId) (dI : Nat → Nat → Nat) (q0 q1 : Nat) (k0 : ClassId) (sz : Nat) : Met l yX8_place wsX8_place ({ frames := 3, cells := 5, slots := 18, locals := 60 }) (va_Pc [.ref q0, .int 0] (zB (dC, dI) [(k0, (.object "Seekwell$Text"))] [(q0, .inr (11, [.ref q1, .int 0, .int 1])), (q1, .inl (k0, 24, .inr (.inr (.inr (.inr (fun _ => none))))))] sz)) (va_Qr (fun (_ : Unit) => True) (fun _ ra t => ∃ q2 : Nat, ∃ q3 : Nat, ∃ q4 : Nat, ∃ q5 : Nat, ∃ q6 : Nat, q2 = ra ∧ zE (dC, dI) [] [(q0, .inr (11, [.ref q1, .int 0, .int 1])), (q2, .inr (12, [.ref q3, .ref q4, .int 0, .int 97, .int 0, .int 1])), (q3, .inr (10, [.ref q5, .int 0])), (q4, .inr (10, [.ref q6, .int 0]))] (va_A [(q0, .inr (11, [.ref q1, .int 0, .int 1])), (q1, .inl (k0, 24, .inr (.inr (.inr (.inr (fun _ => none))))))] sz) t) (va_A [(q0, .inr (11, [.ref q1, .int 0, .int 1])), (q1, .inl (k0, 24, .inr (.inr (.inr (.inr (fun _ => none))))))] sz)) 5 18 (va_A [(q0, .inr (11, [.ref q1, .int 0, .int 1])), (q1, .inl (k0, 24, .inr (.inr (.inr (.inr (fun _ => none))))))] sz) := by
  refine Met.ofW (cc := cX8_place) (maxL := 3) (ret := (some (.object "Seekwell$Text"))) (by decide) rfl ?_
  intro p e s m args below meth c s₁ B hml hv
  obtain ⟨rfl, hsz, hP, hK, hD0, hZ, hN⟩ := hv
  have hx := B.exec
  have hb := B.bytes
  have hr := B.returns
  have hts := atoms_spec (ws := wsX8_place) B.pre
  have hown : s.vm.findClass RX8 = some m.cls := findClass_of_methodNamed B.named
  have hlocks := B.notSynchronized
  subst hsz
  have hD := hD0.self (sz := s.heap.size)
  generalize hAe : va_A [(q0, .inr (11, [.ref q1, .int 0, .int 1])), (q1, .inl (k0, 24, .inr (.inr (.inr (.inr (fun _ => none))))))] s.heap.size = A at hD hZ ⊢
  have hA : ∀ q : Nat, s.heap.size ≤ q → A q := fun q h => by rw [← hAe]; exact Or.inr h
  have hS : va_S A s.heap s.heap [] := va_S.rf
  have hP : va_P (dC, dI) vwCl [(q0, .inr (11, [.ref q1, .int 0, .int 1])), (q1, .inl (k0, 24, .inr (.inr (.inr (.inr (fun _ => none))))))] s.heap := hP
  have hl := lv_entry ([.ref q0, .int 0]) (n := 3) (Nat.le_of_ble_eq_true rfl)
  rw [lg_entry_eq]
  generalize (lg_sl ([.ref q0, .int 0]) ++ List.replicate (3 - (lg_sl ([.ref q0, .int 0])).length) Slot.unset).toArray = ls at hl ⊢
  have hl : lv_has ls 3 [(0, .ref q0), (1, .int 0)] := hl
  refine lv_iload_n hx hb dX8_place_0 rfl (lv_at hl 1 rfl) ?_
  refine lv_if_lt (tgt := 13) hx hb dX8_place_1 (by decide) (fun h9 => absurd h9 (show ¬ (0 : Int32) < (0 : Int32) by decide +kernel)) (fun _ => ?_)
  refine lv_iload_n hx hb dX8_place_4 rfl (lv_at hl 1 rfl) ?_
  refine lv_aload_n hx hb dX8_place_5 rfl (lv_at hl 0 rfl) ?_
  refine va_get (D := (dC, dI)) (ci := 11) (v := .ref q1) (C := RX8) (T := TX8) (N := 3) hx hb hts (fun _ h => List.mem_cons_of_mem _ (List.mem_append_left _ (List.mem_append_left _ (List.mem_append_right _ h)))) hown hK hP 0 rfl rfl 0 (by decide) (hts (.fieldLink RX8 11 "Seekwell$Shelf" "all" "[LSeekwell$Text;") (by decide +kernel)) (fun _ h9 => h9) rfl dX8_place_6 ?_
  refine va_alen (D := (dC, dI)) (v := 24) hx hb hK hP 1 0 rfl rfl (show Int32.ofNat 24 = 24 by decide +kernel) dX8_place_9 ?_
  refine lv_icmp_lt (tgt := 15) hx hb dX8_place_10 (by decide) (fun _ => ?_) (fun h9 => absurd (show (0 : Int32) < (24 : Int32) by decide +kernel) h9)
  refine lv_aload_n hx hb dX8_place_15 rfl (lv_at hl 0 rfl) ?_
  refine va_get (D := (dC, dI)) (ci := 11) (v := .ref q1) (C := RX8) (T := TX8) (N := 3) hx hb hts (fun _ h => List.mem_cons_of_mem _ (List.mem_append_left _ (List.mem_append_left _ (List.mem_append_right _ h)))) hown hK hP 0 rfl rfl 0 (by decide) (hts (.fieldLink RX8 11 "Seekwell$Shelf" "all" "[LSeekwell$Text;") (by decide +kernel)) (fun _ h9 => h9) rfl dX8_place_16 ?_
  refine lv_iload_n hx hb dX8_place_19 rfl (lv_at hl 1 rfl) ?_
  refine va_aldq (D := (dC, dI)) hx hb hK hP 1 0 rfl rfl (i := 0) (zin (by decide +kernel)) dX8_place_20 ?_
  refine zt_v (w := .null) rfl ?_
  refine lv_ifnonnullN hx hb dX8_place_21 ?_
  refine lv_aload_n hx hb dX8_place_24 rfl (lv_at hl 0 rfl) ?_
  refine va_get (D := (dC, dI)) (ci := 11) (v := .ref q1) (C := RX8) (T := TX8) (N := 3) hx hb hts (fun _ h => List.mem_cons_of_mem _ (List.mem_append_left _ (List.mem_append_left _ (List.mem_append_right _ h)))) hown hK hP 0 rfl rfl 0 (by decide) (hts (.fieldLink RX8 11 "Seekwell$Shelf" "all" "[LSeekwell$Text;") (by decide +kernel)) (fun _ h9 => h9) rfl dX8_place_25 ?_
  refine lv_iload_n hx hb dX8_place_28 rfl (lv_at hl 1 rfl) ?_
  refine va_new (D := (dC, dI)) (ci := 12) (fs := [.null, .null, .int 0, .int 0, .int 0, .int 0]) (C := RX9) (T := TX9) (N := 6) hx hb hts (fun _ h => List.mem_cons_of_mem _ (List.mem_append_left _ (List.mem_append_right _ h))) tyX9 tyX9_ok hown (hts (.classLink RX8 9 RX9) (by decide +kernel)) (hts (.instantiable RX9 6) (by decide +kernel)) (hts (.initialized RX9) (by decide +kernel)) hK hP hD hS hA rfl (zfs (by decide)) (Nat.le_of_ble_eq_true rfl) (Nat.le_of_ble_eq_true rfl) dX8_place_29 (fun q2 H hP hD hS => ?_)
  have hP : va_P (dC, dI) vwCl [(q0, .inr (11, [.ref q1, .int 0, .int 1])), (q1, .inl (k0, 24, .inr (.inr (.inr (.inr (fun _ => none)))))), (q2, .inr (12, [.null, .null, .int 0, .int 0, .int 0, .int 0]))] H := hP
  have hD : va_D A [(q0, .inr (11, [.ref q1, .int 0, .int 1])), (q1, .inl (k0, 24, .inr (.inr (.inr (.inr (fun _ => none)))))), (q2, .inr (12, [.null, .null, .int 0, .int 0, .int 0, .int 0]))] := hD
  refine W.widen (k := 1) (n := 6) (Nat.le_of_ble_eq_true rfl) (Nat.le_of_ble_eq_true rfl) ?_
  refine lv_dup hx hb dX8_place_32 rfl ?_
  have hPc := hP.sub (ws' := [(q2, .inr (12, [.null, .null, .int 0, .int 0, .int 0, .int 0]))]) [2] rfl
  have hDc := hD.sub (ws' := [(q2, .inr (12, [.null, .null, .int 0, .int 0, .int 0, .int 0]))]) [2] (by decide) rfl
  have hKc := hK.sub (tys' := []) [] rfl
  have hFc := va_free (wc := [(q2, .inr (12, [.null, .null, .int 0, .int 0, .int 0, .int 0]))]) hD hS hA [2] rfl
  refine va_callv (va_runIN (As := []) (rest := [.ref q2, .int 0, .ref q1]) ⟨hx, hb, hml, hown, hts⟩ (c_X9_init l dC dI q2 H.size  ) ⟨va_cnB (host := "Seekwell") 0 hts gX8_place_X9_init_n28 rfl rfl rfl (hN.1 (RX8, 28, yX9_init, "Seekwell") (by decide +kernel)) (hts (.initialized RX9) (by decide +kernel)) (by decide +kernel) ⟨Nat.le_of_ble_eq_true rfl, Nat.le_of_ble_eq_true rfl⟩, rfl, hts (.instanceMethod yX9_init) (by decide +kernel)⟩ ⟨zB_blind, (zPre hPc hDc hKc hS hFc hZ hN)⟩ rfl rfl hl.1 rfl (lv_room (Nat.le_of_ble_eq_true rfl)) dX8_place_33 ⟨Nat.le_of_ble_eq_true rfl, Nat.le_of_ble_eq_true rfl⟩) hS (fun q _ h => hFc q h) hFc (fun u t H1 locs ht hvm hw hB hz1 hk1 hS => ?_)
  obtain ⟨q3, q4, q5, q6, hP1, hK1, hD1⟩ := hB
  rw [ht] at hP1
  have hK1 := va_K.moved hvm.symm hK1
  obtain ⟨hP, hD⟩ := va_join (wr := [(q0, .inr (11, [.ref q1, .int 0, .int 1])), (q1, .inl (k0, 24, .inr (.inr (.inr (.inr (fun _ => none))))))]) (w1 := [(q2, .inr (12, [.ref q3, .ref q4, .int 0, .int 97, .int 0, .int 0])), (q3, .inr (10, [.ref q5, .int 0])), (q4, .inr (10, [.ref q6, .int 0]))]) hP hD [2] [0, 1] rfl rfl (by decide) (by decide) hk1 hFc hP1 hD1
  have hK := (hK.sub (tys' := [(k0, (.object "Seekwell$Text"))]) [0] rfl).app hK1
  generalize H1 = H at hP hS ⊢
  have hP : va_P (dC, dI) vwCl [(q0, .inr (11, [.ref q1, .int 0, .int 1])), (q1, .inl (k0, 24, .inr (.inr (.inr (.inr (fun _ => none)))))), (q2, .inr (12, [.ref q3, .ref q4, .int 0, .int 97, .int 0, .int 0])), (q3, .inr (10, [.ref q5, .int 0])), (q4, .inr (10, [.ref q6, .int 0]))] H := hP
  have hD : va_D A [(q0, .inr (11, [.ref q1, .int 0, .int 1])), (q1, .inl (k0, 24, .inr (.inr (.inr (.inr (fun _ => none)))))), (q2, .inr (12, [.ref q3, .ref q4, .int 0, .int 97, .int 0, .int 0])), (q3, .inr (10, [.ref q5, .int 0])), (q4, .inr (10, [.ref q6, .int 0]))] := hD
  have hK : va_K (dC, dI) vwCl [(k0, (.object "Seekwell$Text"))] s := hK
  refine W.widen (k := 5) (n := 18) (Nat.le_of_ble_eq_true rfl) (Nat.le_of_ble_eq_true rfl) ?_
  refine va_astq (D := (dC, dI)) hx hb hK hP hD hS 1 0 2 12 rfl rfl rfl rfl (i := 0) (zin (by decide +kernel)) dX8_place_36 (fun H locs hP hD hS => ?_)
  have hP : va_P (dC, dI) vwCl [(q0, .inr (11, [.ref q1, .int 0, .int 1])), (q1, .inl (k0, 24, .inr (.inr (.inr (.inr (va_up (fun _ => none) (0 : Int32).toNatClampNeg (some q2))))))), (q2, .inr (12, [.ref q3, .ref q4, .int 0, .int 97, .int 0, .int 0])), (q3, .inr (10, [.ref q5, .int 0])), (q4, .inr (10, [.ref q6, .int 0]))] H := hP
  have hD : va_D A [(q0, .inr (11, [.ref q1, .int 0, .int 1])), (q1, .inl (k0, 24, .inr (.inr (.inr (.inr (va_up (fun _ => none) (0 : Int32).toNatClampNeg (some q2))))))), (q2, .inr (12, [.ref q3, .ref q4, .int 0, .int 97, .int 0, .int 0])), (q3, .inr (10, [.ref q5, .int 0])), (q4, .inr (10, [.ref q6, .int 0]))] := hD
  refine lv_aload_n hx hb dX8_place_37 rfl (lv_at hl 0 rfl) ?_
  refine va_get (D := (dC, dI)) (ci := 11) (v := .ref q1) (C := RX8) (T := TX8) (N := 3) hx hb hts (fun _ h => List.mem_cons_of_mem _ (List.mem_append_left _ (List.mem_append_left _ (List.mem_append_right _ h)))) hown hK hP 0 rfl rfl 0 (by decide) (hts (.fieldLink RX8 11 "Seekwell$Shelf" "all" "[LSeekwell$Text;") (by decide +kernel)) (fun _ h9 => h9) rfl dX8_place_38 ?_
  refine lv_iload_n hx hb dX8_place_41 rfl (lv_at hl 1 rfl) ?_
  refine va_aldq (D := (dC, dI)) hx hb hK hP 1 0 rfl rfl (i := 0) (zin (by decide +kernel)) dX8_place_42 ?_
  refine zt_v (w := .ref q2) rfl ?_
  refine lv_astore_n (lv' := [(2, .ref q2), (0, .ref q0), (1, .int 0)]) hx hb dX8_place_43 rfl hl (by decide) rfl (fun ls hl => ?_)
  refine lv_aload_n hx hb dX8_place_44 rfl (lv_at hl 0 rfl) ?_
  refine lv_aload_n hx hb dX8_place_45 rfl (lv_at hl 1 rfl) ?_
  refine va_get (D := (dC, dI)) (ci := 11) (v := .int 1) (C := RX8) (T := TX8) (N := 3) hx hb hts (fun _ h => List.mem_cons_of_mem _ (List.mem_append_left _ (List.mem_append_left _ (List.mem_append_right _ h)))) hown hK hP 0 rfl rfl 2 (by decide) (hts (.fieldLink RX8 21 "Seekwell$Shelf" "partCount" "I") (by decide +kernel)) (fun _ h9 => h9) rfl dX8_place_46 ?_
  refine lv_iconst (v := 1) hx hb dX8_place_49 (by decide +kernel) ?_
  refine lv_isub hx hb dX8_place_50 ?_
  refine zt_i (v := 0) (by decide +kernel) ?_
  refine va_put (D := (dC, dI)) (ci := 12) (v := .int 0) (ty := .int) (C := RX9) (T := TX9) (N := 6) hx hb hts (fun _ h => List.mem_cons_of_mem _ (List.mem_append_left _ (List.mem_append_right _ h))) tyX9 tyX9_ok nmX9 hown hK hP hD hS 2 rfl rfl 4 (by decide) (hts (.fieldLink RX8 29 "Seekwell$Text" "part" "I") (by decide +kernel)) (fun _ h9 => h9) rfl (by decide +kernel) rfl rfl (Nat.le_of_ble_eq_true rfl) dX8_place_51 (fun H locs hP hD hS => ?_)
  have hP : va_P (dC, dI) vwCl [(q0, .inr (11, [.ref q1, .int 0, .int 1])), (q1, .inl (k0, 24, .inr (.inr (.inr (.inr (va_up (fun _ => none) (0 : Int32).toNatClampNeg (some q2))))))), (q2, .inr (12, [.ref q3, .ref q4, .int 0, .int 97, .int 0, .int 0])), (q3, .inr (10, [.ref q5, .int 0])), (q4, .inr (10, [.ref q6, .int 0]))] H := hP
  have hD : va_D A [(q0, .inr (11, [.ref q1, .int 0, .int 1])), (q1, .inl (k0, 24, .inr (.inr (.inr (.inr (va_up (fun _ => none) (0 : Int32).toNatClampNeg (some q2))))))), (q2, .inr (12, [.ref q3, .ref q4, .int 0, .int 97, .int 0, .int 0])), (q3, .inr (10, [.ref q5, .int 0])), (q4, .inr (10, [.ref q6, .int 0]))] := hD
  refine lv_aload_n hx hb dX8_place_54 rfl (lv_at hl 0 rfl) ?_
  refine lv_iconst (v := 1) hx hb dX8_place_55 (by decide +kernel) ?_
  refine va_put (D := (dC, dI)) (ci := 12) (v := .int 1) (ty := .boolean) (C := RX9) (T := TX9) (N := 6) hx hb hts (fun _ h => List.mem_cons_of_mem _ (List.mem_append_left _ (List.mem_append_right _ h))) tyX9 tyX9_ok nmX9 hown hK hP hD hS 2 rfl rfl 5 (by decide) (hts (.fieldLink RX8 24 "Seekwell$Text" "isPresent" "Z") (by decide +kernel)) (fun _ h9 => h9) rfl (by decide +kernel) rfl rfl (Nat.le_of_ble_eq_true rfl) dX8_place_56 (fun H locs hP hD hS => ?_)
  have hP : va_P (dC, dI) vwCl [(q0, .inr (11, [.ref q1, .int 0, .int 1])), (q1, .inl (k0, 24, .inr (.inr (.inr (.inr (va_up (fun _ => none) (0 : Int32).toNatClampNeg (some q2))))))), (q2, .inr (12, [.ref q3, .ref q4, .int 0, .int 97, .int 0, .int 1])), (q3, .inr (10, [.ref q5, .int 0])), (q4, .inr (10, [.ref q6, .int 0]))] H := hP
  have hD : va_D A [(q0, .inr (11, [.ref q1, .int 0, .int 1])), (q1, .inl (k0, 24, .inr (.inr (.inr (.inr (va_up (fun _ => none) (0 : Int32).toNatClampNeg (some q2))))))), (q2, .inr (12, [.ref q3, .ref q4, .int 0, .int 97, .int 0, .int 1])), (q3, .inr (10, [.ref q5, .int 0])), (q4, .inr (10, [.ref q6, .int 0]))] := hD
  refine lv_aload_n hx hb dX8_place_59 rfl (lv_at hl 0 rfl) ?_
  have hP9 := hP.sub (ws' := [(q0, .inr (11, [.ref q1, .int 0, .int 1])), (q2, .inr (12, [.ref q3, .ref q4, .int 0, .int 97, .int 0, .int 1])), (q3, .inr (10, [.ref q5, .int 0])), (q4, .inr (10, [.ref q6, .int 0]))]) [0, 2, 3, 4] rfl
  have hD9 := hD.sub (ws' := [(q0, .inr (11, [.ref q1, .int 0, .int 1])), (q2, .inr (12, [.ref q3, .ref q4, .int 0, .int 97, .int 0, .int 1])), (q3, .inr (10, [.ref q5, .int 0])), (q4, .inr (10, [.ref q6, .int 0]))]) [0, 2, 3, 4] (by decide) rfl
  have hK9 := hK.sub (tys' := []) [] rfl
  exact W.aret (v := .ref q2) hx hb hr (Or.inl ⟨_, rfl⟩) (Or.inr ⟨_, rfl⟩) (fun t ht hW => ⟨⟨(), q2, rfl, trivial, q2, q3, q4, q5, q6, rfl, ⟨by rw [ht]; exact hP9, va_K.moved hW.alike hK9, hD9⟩⟩, hS.F ht⟩) hS.2.2 dX8_place_60
set_option maxHeartbeats 4000000 in
set_option maxRecDepth 100000 in
theorem c_X4_placeOf (l : Launch) (dC : Nat → ClassId) (dI : Nat → Nat → Nat) (q0 q1 : Nat) (sz : Nat) : Met l yX4_placeOf wsX4_placeOf ({ frames := 0, cells := 0, slots := 0, locals := 0 }) (va_Pc [.ref q0, .int 124] (zB (dC, dI) [] [(q0, .inr (7, [.ref q1, .int 0]))] sz)) (va_Qi (fun (r : Int32) (_ : Unit) => (-1) = r) (fun _ t => zE (dC, dI) [] [(q0, .inr (7, [.ref q1, .int 0]))] (va_A [(q0, .inr (7, [.ref q1, .int 0]))] sz) t) (va_A [(q0, .inr (7, [.ref q1, .int 0]))] sz)) 0 0 (va_A [(q0, .inr (7, [.ref q1, .int 0]))] sz) := by
  refine Met.ofW (cc := cX4_placeOf) (maxL := 3) (ret := (some .int)) (by decide) rfl ?_
  intro p e s m args below meth c s₁ B hml hv
  obtain ⟨rfl, hsz, hP, hK, hD0, hZ, hN⟩ := hv
  have hx := B.exec
  have hb := B.bytes
  have hr := B.returns
  have hts := atoms_spec (ws := wsX4_placeOf) B.pre
  have hown : s.vm.findClass RX4 = some m.cls := findClass_of_methodNamed B.named
  have hlocks := B.notSynchronized
  subst hsz
  have hD := hD0.self (sz := s.heap.size)
  generalize hAe : va_A [(q0, .inr (7, [.ref q1, .int 0]))] s.heap.size = A at hD hZ ⊢
  have hA : ∀ q : Nat, s.heap.size ≤ q → A q := fun q h => by rw [← hAe]; exact Or.inr h
  have hS : va_S A s.heap s.heap [] := va_S.rf
  have hP : va_P (dC, dI) vwCl [(q0, .inr (7, [.ref q1, .int 0]))] s.heap := hP
  have hl := lv_entry ([.ref q0, .int 124]) (n := 3) (Nat.le_of_ble_eq_true rfl)
  rw [lg_entry_eq]
  generalize (lg_sl ([.ref q0, .int 124]) ++ List.replicate (3 - (lg_sl ([.ref q0, .int 124])).length) Slot.unset).toArray = ls at hl ⊢
  have hl : lv_has ls 3 [(0, .ref q0), (1, .int 124)] := hl
  refine lv_iconst (v := 0) hx hb dX4_placeOf_0 (by decide +kernel) ?_
  refine lv_istore_n (lv' := [(2, .int 0), (0, .ref q0), (1, .int 124)]) hx hb dX4_placeOf_1 rfl hl (by decide) rfl (fun ls hl => ?_)
  refine lv_iload_n hx hb dX4_placeOf_2 rfl (lv_at hl 0 rfl) ?_
  refine lv_aload_n hx hb dX4_placeOf_3 rfl (lv_at hl 1 rfl) ?_
  refine va_get (D := (dC, dI)) (ci := 7) (v := .int 0) (C := RX4) (T := TX4) (N := 2) hx hb hts (fun _ h => List.mem_cons_of_mem _ (List.mem_append_left _ (List.mem_append_right _ h))) hown hK hP 0 rfl rfl 1 (by decide) (hts (.fieldLink RX4 15 "Seekwell$Line" "size" "I") (by decide +kernel)) (fun _ h9 => h9) rfl dX4_placeOf_4 ?_
  refine lv_icmp_ge (tgt := 27) hx hb dX4_placeOf_7 (by decide) (fun _ => ?_) (fun h9 => absurd (show (0 : Int32) ≤ (0 : Int32) by decide +kernel) h9)
  refine lv_iconst (v := (-1)) hx hb dX4_placeOf_27 (by decide +kernel) ?_
  have hP9 := hP.sub (ws' := [(q0, .inr (7, [.ref q1, .int 0]))]) [0] rfl
  have hD9 := hD.sub (ws' := [(q0, .inr (7, [.ref q1, .int 0]))]) [0] (by decide) rfl
  have hK9 := hK.sub (tys' := []) [] rfl
  exact W.iret (v := (-1)) hx hb hr (fun t ht hW => ⟨⟨(-1), (), rfl, rfl, ⟨by rw [ht]; exact hP9, va_K.moved hW.alike hK9, hD9⟩⟩, hS.F ht⟩) hS.2.2 dX4_placeOf_28
set_option maxHeartbeats 4000000 in
set_option maxRecDepth 100000 in
theorem c_X7_clear (l : Launch) (dC : Nat → ClassId) (dI : Nat → Nat → Nat) (q0 q1 : Nat) (sz : Nat) : Met l yX7_clear wsX7_clear ({ frames := 0, cells := 0, slots := 0, locals := 0 }) (va_Pc [.ref q0] (zB (dC, dI) [] [(q0, .inr (10, [.ref q1, .int 0]))] sz)) (va_Qv (fun (_ : Unit) => True) (fun _ t => zE (dC, dI) [] [] (va_A [(q0, .inr (10, [.ref q1, .int 0]))] sz) t) (va_A [(q0, .inr (10, [.ref q1, .int 0]))] sz)) 0 0 (va_A [(q0, .inr (10, [.ref q1, .int 0]))] sz) := by
  refine Met.ofW (cc := cX7_clear) (maxL := 1) (ret := none) (by decide) rfl ?_
  intro p e s m args below meth c s₁ B hml hv
  obtain ⟨rfl, hsz, hP, hK, hD0, hZ, hN⟩ := hv
  have hx := B.exec
  have hb := B.bytes
  have hr := B.returns
  have hts := atoms_spec (ws := wsX7_clear) B.pre
  have hown : s.vm.findClass RX7 = some m.cls := findClass_of_methodNamed B.named
  have hlocks := B.notSynchronized
  subst hsz
  have hD := hD0.self (sz := s.heap.size)
  generalize hAe : va_A [(q0, .inr (10, [.ref q1, .int 0]))] s.heap.size = A at hD hZ ⊢
  have hA : ∀ q : Nat, s.heap.size ≤ q → A q := fun q h => by rw [← hAe]; exact Or.inr h
  have hS : va_S A s.heap s.heap [] := va_S.rf
  have hP : va_P (dC, dI) vwCl [(q0, .inr (10, [.ref q1, .int 0]))] s.heap := hP
  have hl := lv_entry ([.ref q0]) (n := 1) (Nat.le_of_ble_eq_true rfl)
  rw [lg_entry_eq]
  generalize (lg_sl ([.ref q0]) ++ List.replicate (1 - (lg_sl ([.ref q0])).length) Slot.unset).toArray = ls at hl ⊢
  have hl : lv_has ls 1 [(0, .ref q0)] := hl
  refine lv_aload_n hx hb dX7_clear_0 rfl (lv_at hl 0 rfl) ?_
  refine lv_iconst (v := 0) hx hb dX7_clear_1 (by decide +kernel) ?_
  refine va_put (D := (dC, dI)) (ci := 10) (v := .int 0) (ty := .int) (C := RX7) (T := TX7) (N := 2) hx hb hts (fun _ h => List.mem_cons_of_mem _ (List.mem_append_right _ h)) tyX7 tyX7_ok nmX7 hown hK hP hD hS 0 rfl rfl 1 (by decide) (hts (.fieldLink RX7 15 "Seekwell$Row" "size" "I") (by decide +kernel)) (fun _ h9 => h9) rfl (by decide +kernel) rfl rfl (Nat.le_of_ble_eq_true rfl) dX7_clear_2 (fun H locs hP hD hS => ?_)
  have hP : va_P (dC, dI) vwCl [(q0, .inr (10, [.ref q1, .int 0]))] H := hP
  have hD : va_D A [(q0, .inr (10, [.ref q1, .int 0]))] := hD
  have hP9 := hP.sub (ws' := []) [] rfl
  have hD9 := hD.sub (ws' := []) [] (by decide) rfl
  have hK9 := hK.sub (tys' := []) [] rfl
  exact W.vret hx hb hr (fun t ht hW => ⟨⟨(), rfl, trivial, ⟨by rw [ht]; exact hP9, va_K.moved hW.alike hK9, hD9⟩⟩, hS.F ht⟩) hS.2.2 dX7_clear_5
set_option maxHeartbeats 4000000 in
set_option maxRecDepth 100000 in
theorem c_X7_read (l : Launch) (dC : Nat → ClassId) (dI : Nat → Nat → Nat) (q0 q1 q2 : Nat) (sz : Nat) : Met l yX7_read wsX7_read ({ frames := 1, cells := 0, slots := 0, locals := 20 }) (va_Pc [.ref q0, .ref q1, .int 0, .int (-1)] (zB (dC, dI) [] [(q0, .inr (10, [.ref q2, .int 0]))] sz)) (va_Qv (fun (_ : Unit) => True) (fun _ t => zE (dC, dI) [] [] (va_A [(q0, .inr (10, [.ref q2, .int 0]))] sz) t) (va_A [(q0, .inr (10, [.ref q2, .int 0]))] sz)) 0 0 (va_A [(q0, .inr (10, [.ref q2, .int 0]))] sz) := by
  refine Met.ofW (cc := cX7_read) (maxL := 6) (ret := none) (by decide) rfl ?_
  intro p e s m args below meth c s₁ B hml hv
  obtain ⟨rfl, hsz, hP, hK, hD0, hZ, hN⟩ := hv
  have hx := B.exec
  have hb := B.bytes
  have hr := B.returns
  have hts := atoms_spec (ws := wsX7_read) B.pre
  have hown : s.vm.findClass RX7 = some m.cls := findClass_of_methodNamed B.named
  have hlocks := B.notSynchronized
  subst hsz
  have hD := hD0.self (sz := s.heap.size)
  generalize hAe : va_A [(q0, .inr (10, [.ref q2, .int 0]))] s.heap.size = A at hD hZ ⊢
  have hA : ∀ q : Nat, s.heap.size ≤ q → A q := fun q h => by rw [← hAe]; exact Or.inr h
  have hS : va_S A s.heap s.heap [] := va_S.rf
  have hP : va_P (dC, dI) vwCl [(q0, .inr (10, [.ref q2, .int 0]))] s.heap := hP
  have hl := lv_entry ([.ref q0, .ref q1, .int 0, .int (-1)]) (n := 6) (Nat.le_of_ble_eq_true rfl)
  rw [lg_entry_eq]
  generalize (lg_sl ([.ref q0, .ref q1, .int 0, .int (-1)]) ++ List.replicate (6 - (lg_sl ([.ref q0, .ref q1, .int 0, .int (-1)])).length) Slot.unset).toArray = ls at hl ⊢
  have hl : lv_has ls 6 [(0, .ref q0), (1, .ref q1), (2, .int 0), (3, .int (-1))] := hl
  refine lv_aload_n hx hb dX7_read_0 rfl (lv_at hl 0 rfl) ?_
  have hPc := hP.sub (ws' := [(q0, .inr (10, [.ref q2, .int 0]))]) [0] rfl
  have hDc := hD.sub (ws' := [(q0, .inr (10, [.ref q2, .int 0]))]) [0] (by decide) rfl
  have hKc := hK.sub (tys' := []) [] rfl
  have hFc := va_free (wc := [(q0, .inr (10, [.ref q2, .int 0]))]) hD hS hA [0] rfl
  refine va_callv (va_runV (As := []) (rest := []) ⟨hx, hb, hml, hown, hts⟩ (c_X7_clear l dC dI q0 q2 s.heap.size  ) (cwV 0 hts gX7_read_X7_clear rfl rfl rfl (by decide +kernel) ⟨Nat.le_of_ble_eq_true rfl, Nat.le_of_ble_eq_true rfl⟩) ⟨zB_blind, va_recv hK hP (ci := 10) (q0 := 0) rfl rfl, (zPre hPc hDc hKc hS hFc hZ hN)⟩ rfl rfl hl.1 rfl (lv_room (Nat.le_of_ble_eq_true rfl)) dX7_read_1 ⟨Nat.le_of_ble_eq_true rfl, Nat.le_of_ble_eq_true rfl⟩) hS (fun q _ h => hFc q h) hFc (fun u t H1 locs ht hvm hw hB hz1 hk1 hS => ?_)
  obtain ⟨hP1, hK1, hD1⟩ := hB
  rw [ht] at hP1
  have hK1 := va_K.moved hvm.symm hK1
  obtain ⟨hP, hD⟩ := va_join (wr := []) (w1 := []) hP hD [0] [] rfl rfl (by decide) (by decide) hk1 hFc hP1 hD1
  have hK := (hK.sub (tys' := []) [] rfl).app hK1
  generalize H1 = H at hP hS ⊢
  have hP : va_P (dC, dI) vwCl [] H := hP
  have hD : va_D A [] := hD
  have hK : va_K (dC, dI) vwCl [] s := hK
  refine W.widen (k := 0) (n := 0) (Nat.le_of_ble_eq_true rfl) (Nat.le_of_ble_eq_true rfl) ?_
  refine lv_iload_n hx hb dX7_read_4 rfl (lv_at hl 2 rfl) ?_
  refine lv_istore (lv' := [(4, .int 0), (0, .ref q0), (1, .ref q1), (2, .int 0), (3, .int (-1))]) hx hb dX7_read_5 hl (by decide) rfl (fun ls hl => ?_)
  refine lv_iload hx hb dX7_read_7 (lv_at hl 0 rfl) ?_
  refine lv_iload_n hx hb dX7_read_9 rfl (lv_at hl 4 rfl) ?_
  refine lv_icmp_ge (tgt := 53) hx hb dX7_read_10 (by decide) (fun _ => ?_) (fun h9 => absurd (show ((-1) : Int32) ≤ (0 : Int32) by decide +kernel) h9)
  have hP9 := hP.sub (ws' := []) [] rfl
  have hD9 := hD.sub (ws' := []) [] (by decide) rfl
  have hK9 := hK.sub (tys' := []) [] rfl
  exact W.vret hx hb hr (fun t ht hW => ⟨⟨(), rfl, trivial, ⟨by rw [ht]; exact hP9, va_K.moved hW.alike hK9, hD9⟩⟩, hS.F ht⟩) hS.2.2 dX7_read_53
set_option maxHeartbeats 4000000 in
set_option maxRecDepth 100000 in
theorem c_X4_size (l : Launch) (dC : Nat → ClassId) (dI : Nat → Nat → Nat) (q0 q1 : Nat) (sz : Nat) : Met l yX4_size wsX4_size ({ frames := 0, cells := 0, slots := 0, locals := 0 }) (va_Pc [.ref q0] (zB (dC, dI) [] [(q0, .inr (7, [.ref q1, .int 0]))] sz)) (va_Qi (fun (r : Int32) (_ : Unit) => 0 = r) (fun _ t => zE (dC, dI) [] [(q0, .inr (7, [.ref q1, .int 0]))] (va_A [(q0, .inr (7, [.ref q1, .int 0]))] sz) t) (va_A [(q0, .inr (7, [.ref q1, .int 0]))] sz)) 0 0 (va_A [(q0, .inr (7, [.ref q1, .int 0]))] sz) := by
  refine Met.ofW (cc := cX4_size) (maxL := 1) (ret := (some .int)) (by decide) rfl ?_
  intro p e s m args below meth c s₁ B hml hv
  obtain ⟨rfl, hsz, hP, hK, hD0, hZ, hN⟩ := hv
  have hx := B.exec
  have hb := B.bytes
  have hr := B.returns
  have hts := atoms_spec (ws := wsX4_size) B.pre
  have hown : s.vm.findClass RX4 = some m.cls := findClass_of_methodNamed B.named
  have hlocks := B.notSynchronized
  subst hsz
  have hD := hD0.self (sz := s.heap.size)
  generalize hAe : va_A [(q0, .inr (7, [.ref q1, .int 0]))] s.heap.size = A at hD hZ ⊢
  have hA : ∀ q : Nat, s.heap.size ≤ q → A q := fun q h => by rw [← hAe]; exact Or.inr h
  have hS : va_S A s.heap s.heap [] := va_S.rf
  have hP : va_P (dC, dI) vwCl [(q0, .inr (7, [.ref q1, .int 0]))] s.heap := hP
  have hl := lv_entry ([.ref q0]) (n := 1) (Nat.le_of_ble_eq_true rfl)
  rw [lg_entry_eq]
  generalize (lg_sl ([.ref q0]) ++ List.replicate (1 - (lg_sl ([.ref q0])).length) Slot.unset).toArray = ls at hl ⊢
  have hl : lv_has ls 1 [(0, .ref q0)] := hl
  refine lv_aload_n hx hb dX4_size_0 rfl (lv_at hl 0 rfl) ?_
  refine va_get (D := (dC, dI)) (ci := 7) (v := .int 0) (C := RX4) (T := TX4) (N := 2) hx hb hts (fun _ h => List.mem_cons_of_mem _ (List.mem_append_right _ h)) hown hK hP 0 rfl rfl 1 (by decide) (hts (.fieldLink RX4 15 "Seekwell$Line" "size" "I") (by decide +kernel)) (fun _ h9 => h9) rfl dX4_size_1 ?_
  have hP9 := hP.sub (ws' := [(q0, .inr (7, [.ref q1, .int 0]))]) [0] rfl
  have hD9 := hD.sub (ws' := [(q0, .inr (7, [.ref q1, .int 0]))]) [0] (by decide) rfl
  have hK9 := hK.sub (tys' := []) [] rfl
  exact W.iret (v := 0) hx hb hr (fun t ht hW => ⟨⟨0, (), rfl, rfl, ⟨by rw [ht]; exact hP9, va_K.moved hW.alike hK9, hD9⟩⟩, hS.F ht⟩) hS.2.2 dX4_size_4
set_option maxHeartbeats 4000000 in
set_option maxRecDepth 100000 in
theorem c_X7_read_2 (l : Launch) (dC : Nat → ClassId) (dI : Nat → Nat → Nat) (q0 q1 q2 : Nat) (sz : Nat) : Met l yX7_read wsX7_read ({ frames := 1, cells := 0, slots := 0, locals := 20 }) (va_Pc [.ref q0, .ref q1, .int 0, .int 0] (zB (dC, dI) [] [(q0, .inr (10, [.ref q2, .int 0]))] sz)) (va_Qv (fun (_ : Unit) => True) (fun _ t => zE (dC, dI) [] [] (va_A [(q0, .inr (10, [.ref q2, .int 0]))] sz) t) (va_A [(q0, .inr (10, [.ref q2, .int 0]))] sz)) 0 0 (va_A [(q0, .inr (10, [.ref q2, .int 0]))] sz) := by
  refine Met.ofW (cc := cX7_read) (maxL := 6) (ret := none) (by decide) rfl ?_
  intro p e s m args below meth c s₁ B hml hv
  obtain ⟨rfl, hsz, hP, hK, hD0, hZ, hN⟩ := hv
  have hx := B.exec
  have hb := B.bytes
  have hr := B.returns
  have hts := atoms_spec (ws := wsX7_read) B.pre
  have hown : s.vm.findClass RX7 = some m.cls := findClass_of_methodNamed B.named
  have hlocks := B.notSynchronized
  subst hsz
  have hD := hD0.self (sz := s.heap.size)
  generalize hAe : va_A [(q0, .inr (10, [.ref q2, .int 0]))] s.heap.size = A at hD hZ ⊢
  have hA : ∀ q : Nat, s.heap.size ≤ q → A q := fun q h => by rw [← hAe]; exact Or.inr h
  have hS : va_S A s.heap s.heap [] := va_S.rf
  have hP : va_P (dC, dI) vwCl [(q0, .inr (10, [.ref q2, .int 0]))] s.heap := hP
  have hl := lv_entry ([.ref q0, .ref q1, .int 0, .int 0]) (n := 6) (Nat.le_of_ble_eq_true rfl)
  rw [lg_entry_eq]
  generalize (lg_sl ([.ref q0, .ref q1, .int 0, .int 0]) ++ List.replicate (6 - (lg_sl ([.ref q0, .ref q1, .int 0, .int 0])).length) Slot.unset).toArray = ls at hl ⊢
  have hl : lv_has ls 6 [(0, .ref q0), (1, .ref q1), (2, .int 0), (3, .int 0)] := hl
  refine lv_aload_n hx hb dX7_read_0 rfl (lv_at hl 0 rfl) ?_
  have hPc := hP.sub (ws' := [(q0, .inr (10, [.ref q2, .int 0]))]) [0] rfl
  have hDc := hD.sub (ws' := [(q0, .inr (10, [.ref q2, .int 0]))]) [0] (by decide) rfl
  have hKc := hK.sub (tys' := []) [] rfl
  have hFc := va_free (wc := [(q0, .inr (10, [.ref q2, .int 0]))]) hD hS hA [0] rfl
  refine va_callv (va_runV (As := []) (rest := []) ⟨hx, hb, hml, hown, hts⟩ (c_X7_clear l dC dI q0 q2 s.heap.size  ) (cwV 0 hts gX7_read_X7_clear rfl rfl rfl (by decide +kernel) ⟨Nat.le_of_ble_eq_true rfl, Nat.le_of_ble_eq_true rfl⟩) ⟨zB_blind, va_recv hK hP (ci := 10) (q0 := 0) rfl rfl, (zPre hPc hDc hKc hS hFc hZ hN)⟩ rfl rfl hl.1 rfl (lv_room (Nat.le_of_ble_eq_true rfl)) dX7_read_1 ⟨Nat.le_of_ble_eq_true rfl, Nat.le_of_ble_eq_true rfl⟩) hS (fun q _ h => hFc q h) hFc (fun u t H1 locs ht hvm hw hB hz1 hk1 hS => ?_)
  obtain ⟨hP1, hK1, hD1⟩ := hB
  rw [ht] at hP1
  have hK1 := va_K.moved hvm.symm hK1
  obtain ⟨hP, hD⟩ := va_join (wr := []) (w1 := []) hP hD [0] [] rfl rfl (by decide) (by decide) hk1 hFc hP1 hD1
  have hK := (hK.sub (tys' := []) [] rfl).app hK1
  generalize H1 = H at hP hS ⊢
  have hP : va_P (dC, dI) vwCl [] H := hP
  have hD : va_D A [] := hD
  have hK : va_K (dC, dI) vwCl [] s := hK
  refine W.widen (k := 0) (n := 0) (Nat.le_of_ble_eq_true rfl) (Nat.le_of_ble_eq_true rfl) ?_
  refine lv_iload_n hx hb dX7_read_4 rfl (lv_at hl 2 rfl) ?_
  refine lv_istore (lv' := [(4, .int 0), (0, .ref q0), (1, .ref q1), (2, .int 0), (3, .int 0)]) hx hb dX7_read_5 hl (by decide) rfl (fun ls hl => ?_)
  refine lv_iload hx hb dX7_read_7 (lv_at hl 0 rfl) ?_
  refine lv_iload_n hx hb dX7_read_9 rfl (lv_at hl 4 rfl) ?_
  refine lv_icmp_ge (tgt := 53) hx hb dX7_read_10 (by decide) (fun _ => ?_) (fun h9 => absurd (show (0 : Int32) ≤ (0 : Int32) by decide +kernel) h9)
  have hP9 := hP.sub (ws' := []) [] rfl
  have hD9 := hD.sub (ws' := []) [] (by decide) rfl
  have hK9 := hK.sub (tys' := []) [] rfl
  exact W.vret hx hb hr (fun t ht hW => ⟨⟨(), rfl, trivial, ⟨by rw [ht]; exact hP9, va_K.moved hW.alike hK9, hD9⟩⟩, hS.F ht⟩) hS.2.2 dX7_read_53
set_option maxHeartbeats 4000000 in
set_option maxRecDepth 100000 in
theorem c_X9_read (l : Launch) (dC : Nat → ClassId) (dI : Nat → Nat → Nat) (q0 q1 q2 q3 q4 q5 q6 : Nat) (sz : Nat) (w0 : Int32) (w1 : Int32) : Met l yX9_read wsX9_read ({ frames := 2, cells := 0, slots := 0, locals := 45 }) (va_Pc [.ref q0, .ref q1] (zB (dC, dI) [] [(q0, .inr (12, [.ref q2, .ref q3, .int w0, .int w1, .int 0, .int 1])), (q1, .inr (7, [.ref q4, .int 0])), (q2, .inr (10, [.ref q5, .int 0])), (q3, .inr (10, [.ref q6, .int 0]))] sz)) (va_Qv (fun (_ : Unit) => True) (fun _ t => zE (dC, dI) [] [(q1, .inr (7, [.ref q4, .int 0]))] (va_A [(q0, .inr (12, [.ref q2, .ref q3, .int w0, .int w1, .int 0, .int 1])), (q1, .inr (7, [.ref q4, .int 0])), (q2, .inr (10, [.ref q5, .int 0])), (q3, .inr (10, [.ref q6, .int 0]))] sz) t) (va_A [(q0, .inr (12, [.ref q2, .ref q3, .int w0, .int w1, .int 0, .int 1])), (q1, .inr (7, [.ref q4, .int 0])), (q2, .inr (10, [.ref q5, .int 0])), (q3, .inr (10, [.ref q6, .int 0]))] sz)) 0 0 (va_A [(q0, .inr (12, [.ref q2, .ref q3, .int w0, .int w1, .int 0, .int 1])), (q1, .inr (7, [.ref q4, .int 0])), (q2, .inr (10, [.ref q5, .int 0])), (q3, .inr (10, [.ref q6, .int 0]))] sz) := by
  refine Met.ofW (cc := cX9_read) (maxL := 3) (ret := none) (by decide) rfl ?_
  intro p e s m args below meth c s₁ B hml hv
  obtain ⟨rfl, hsz, hP, hK, hD0, hZ, hN⟩ := hv
  have hx := B.exec
  have hb := B.bytes
  have hr := B.returns
  have hts := atoms_spec (ws := wsX9_read) B.pre
  have hown : s.vm.findClass RX9 = some m.cls := findClass_of_methodNamed B.named
  have hlocks := B.notSynchronized
  subst hsz
  have hD := hD0.self (sz := s.heap.size)
  generalize hAe : va_A [(q0, .inr (12, [.ref q2, .ref q3, .int w0, .int w1, .int 0, .int 1])), (q1, .inr (7, [.ref q4, .int 0])), (q2, .inr (10, [.ref q5, .int 0])), (q3, .inr (10, [.ref q6, .int 0]))] s.heap.size = A at hD hZ ⊢
  have hA : ∀ q : Nat, s.heap.size ≤ q → A q := fun q h => by rw [← hAe]; exact Or.inr h
  have hS : va_S A s.heap s.heap [] := va_S.rf
  have hP : va_P (dC, dI) vwCl [(q0, .inr (12, [.ref q2, .ref q3, .int w0, .int w1, .int 0, .int 1])), (q1, .inr (7, [.ref q4, .int 0])), (q2, .inr (10, [.ref q5, .int 0])), (q3, .inr (10, [.ref q6, .int 0]))] s.heap := hP
  have hl := lv_entry ([.ref q0, .ref q1]) (n := 3) (Nat.le_of_ble_eq_true rfl)
  rw [lg_entry_eq]
  generalize (lg_sl ([.ref q0, .ref q1]) ++ List.replicate (3 - (lg_sl ([.ref q0, .ref q1])).length) Slot.unset).toArray = ls at hl ⊢
  have hl : lv_has ls 3 [(0, .ref q0), (1, .ref q1)] := hl
  refine lv_aload_n hx hb dX9_read_0 rfl (lv_at hl 1 rfl) ?_
  refine lv_bipush (v := 124) hx hb dX9_read_1 (by decide +kernel) ?_
  have hPc := hP.sub (ws' := [(q1, .inr (7, [.ref q4, .int 0]))]) [1] rfl
  have hDc := hD.sub (ws' := [(q1, .inr (7, [.ref q4, .int 0]))]) [1] (by decide) rfl
  have hKc := hK.sub (tys' := []) [] rfl
  have hFc := va_free (wc := [(q1, .inr (7, [.ref q4, .int 0]))]) hD hS hA [1] rfl
  refine va_calli (va_runV (As := [.int 124]) (rest := []) ⟨hx, hb, hml, hown, hts⟩ (c_X4_placeOf l dC dI q1 q4 s.heap.size  ) (cwV 1 hts gX9_read_X4_placeOf rfl rfl rfl (by decide +kernel) ⟨Nat.le_of_ble_eq_true rfl, Nat.le_of_ble_eq_true rfl⟩) ⟨zB_blind, va_recv hK hP (ci := 7) (q0 := 1) rfl rfl, (zPre hPc hDc hKc hS hFc hZ hN)⟩ rfl rfl hl.1 rfl (lv_room (Nat.le_of_ble_eq_true rfl)) dX9_read_3 ⟨Nat.le_of_ble_eq_true rfl, Nat.le_of_ble_eq_true rfl⟩) hS (fun q _ h => hFc q h) hFc (fun r u t H1 locs ht hvm hw hB hz1 hk1 hS => ?_)
  subst hw
  obtain ⟨hP1, hK1, hD1⟩ := hB
  rw [ht] at hP1
  have hK1 := va_K.moved hvm.symm hK1
  obtain ⟨hP, hD⟩ := va_join (wr := [(q0, .inr (12, [.ref q2, .ref q3, .int w0, .int w1, .int 0, .int 1])), (q2, .inr (10, [.ref q5, .int 0])), (q3, .inr (10, [.ref q6, .int 0]))]) (w1 := [(q1, .inr (7, [.ref q4, .int 0]))]) hP hD [1] [0, 2, 3] rfl rfl (by decide) (by decide) hk1 hFc hP1 hD1
  have hK := (hK.sub (tys' := []) [] rfl).app hK1
  generalize H1 = H at hP hS ⊢
  have hP : va_P (dC, dI) vwCl [(q0, .inr (12, [.ref q2, .ref q3, .int w0, .int w1, .int 0, .int 1])), (q2, .inr (10, [.ref q5, .int 0])), (q3, .inr (10, [.ref q6, .int 0])), (q1, .inr (7, [.ref q4, .int 0]))] H := hP
  have hD : va_D A [(q0, .inr (12, [.ref q2, .ref q3, .int w0, .int w1, .int 0, .int 1])), (q2, .inr (10, [.ref q5, .int 0])), (q3, .inr (10, [.ref q6, .int 0])), (q1, .inr (7, [.ref q4, .int 0]))] := hD
  have hK : va_K (dC, dI) vwCl [] s := hK
  refine W.widen (k := 0) (n := 0) (Nat.le_of_ble_eq_true rfl) (Nat.le_of_ble_eq_true rfl) ?_
  refine lv_istore_n (lv' := [(2, .int (-1)), (0, .ref q0), (1, .ref q1)]) hx hb dX9_read_6 rfl hl (by decide) rfl (fun ls hl => ?_)
  refine lv_aload_n hx hb dX9_read_7 rfl (lv_at hl 1 rfl) ?_
  refine va_get (D := (dC, dI)) (ci := 12) (v := .ref q2) (C := RX9) (T := TX9) (N := 6) hx hb hts (fun _ h => List.mem_cons_of_mem _ (List.mem_append_left _ (List.mem_append_left _ (List.mem_append_left _ (List.mem_append_left _ (List.mem_append_left _ (List.mem_append_left _ (List.mem_append_right _ h)))))))) hown hK hP 0 rfl rfl 0 (by decide) (hts (.fieldLink RX9 10 "Seekwell$Text" "title" "LSeekwell$Row;") (by decide +kernel)) (fun _ h9 => h9) rfl dX9_read_8 ?_
  refine lv_aload_n hx hb dX9_read_11 rfl (lv_at hl 2 rfl) ?_
  refine lv_iconst (v := 0) hx hb dX9_read_12 (by decide +kernel) ?_
  refine lv_iload_n hx hb dX9_read_13 rfl (lv_at hl 0 rfl) ?_
  have hPc := hP.sub (ws' := [(q2, .inr (10, [.ref q5, .int 0]))]) [1] rfl
  have hDc := hD.sub (ws' := [(q2, .inr (10, [.ref q5, .int 0]))]) [1] (by decide) rfl
  have hKc := hK.sub (tys' := []) [] rfl
  have hFc := va_free (wc := [(q2, .inr (10, [.ref q5, .int 0]))]) hD hS hA [1] rfl
  refine va_callv (va_runV (As := [.ref q1, .int 0, .int (-1)]) (rest := []) ⟨hx, hb, hml, hown, hts⟩ (c_X7_read l dC dI q2 q1 q5 H.size  ) (cwV 3 hts gX9_read_X7_read rfl rfl rfl (by decide +kernel) ⟨Nat.le_of_ble_eq_true rfl, Nat.le_of_ble_eq_true rfl⟩) ⟨zB_blind, va_recv hK hP (ci := 10) (q0 := 1) rfl rfl, (zPre hPc hDc hKc hS hFc hZ hN)⟩ rfl rfl hl.1 rfl (lv_room (Nat.le_of_ble_eq_true rfl)) dX9_read_14 ⟨Nat.le_of_ble_eq_true rfl, Nat.le_of_ble_eq_true rfl⟩) hS (fun q _ h => hFc q h) hFc (fun u t H1 locs ht hvm hw hB hz1 hk1 hS => ?_)
  obtain ⟨hP1, hK1, hD1⟩ := hB
  rw [ht] at hP1
  have hK1 := va_K.moved hvm.symm hK1
  obtain ⟨hP, hD⟩ := va_join (wr := [(q0, .inr (12, [.ref q2, .ref q3, .int w0, .int w1, .int 0, .int 1])), (q3, .inr (10, [.ref q6, .int 0])), (q1, .inr (7, [.ref q4, .int 0]))]) (w1 := []) hP hD [1] [0, 2, 3] rfl rfl (by decide) (by decide) hk1 hFc hP1 hD1
  have hK := (hK.sub (tys' := []) [] rfl).app hK1
  generalize H1 = H at hP hS ⊢
  have hP : va_P (dC, dI) vwCl [(q0, .inr (12, [.ref q2, .ref q3, .int w0, .int w1, .int 0, .int 1])), (q3, .inr (10, [.ref q6, .int 0])), (q1, .inr (7, [.ref q4, .int 0]))] H := hP
  have hD : va_D A [(q0, .inr (12, [.ref q2, .ref q3, .int w0, .int w1, .int 0, .int 1])), (q3, .inr (10, [.ref q6, .int 0])), (q1, .inr (7, [.ref q4, .int 0]))] := hD
  have hK : va_K (dC, dI) vwCl [] s := hK
  refine W.widen (k := 0) (n := 0) (Nat.le_of_ble_eq_true rfl) (Nat.le_of_ble_eq_true rfl) ?_
  refine lv_aload_n hx hb dX9_read_17 rfl (lv_at hl 1 rfl) ?_
  refine va_get (D := (dC, dI)) (ci := 12) (v := .ref q3) (C := RX9) (T := TX9) (N := 6) hx hb hts (fun _ h => List.mem_cons_of_mem _ (List.mem_append_left _ (List.mem_append_left _ (List.mem_append_left _ (List.mem_append_left _ (List.mem_append_left _ (List.mem_append_left _ (List.mem_append_right _ h)))))))) hown hK hP 0 rfl rfl 1 (by decide) (hts (.fieldLink RX9 16 "Seekwell$Text" "body" "LSeekwell$Row;") (by decide +kernel)) (fun _ h9 => h9) rfl dX9_read_18 ?_
  refine lv_aload_n hx hb dX9_read_21 rfl (lv_at hl 2 rfl) ?_
  refine lv_iload_n hx hb dX9_read_22 rfl (lv_at hl 0 rfl) ?_
  refine lv_iconst (v := 1) hx hb dX9_read_23 (by decide +kernel) ?_
  refine lv_iadd hx hb dX9_read_24 ?_
  refine zt_i (v := 0) (by decide +kernel) ?_
  refine lv_aload_n hx hb dX9_read_25 rfl (lv_at hl 2 rfl) ?_
  have hPc := hP.sub (ws' := [(q1, .inr (7, [.ref q4, .int 0]))]) [2] rfl
  have hDc := hD.sub (ws' := [(q1, .inr (7, [.ref q4, .int 0]))]) [2] (by decide) rfl
  have hKc := hK.sub (tys' := []) [] rfl
  have hFc := va_free (wc := [(q1, .inr (7, [.ref q4, .int 0]))]) hD hS hA [2] rfl
  refine va_calli (va_runV (As := []) (rest := [.int 0, .ref q1, .ref q3]) ⟨hx, hb, hml, hown, hts⟩ (c_X4_size l dC dI q1 q4 H.size  ) (cwV 0 hts gX9_read_X4_size rfl rfl rfl (by decide +kernel) ⟨Nat.le_of_ble_eq_true rfl, Nat.le_of_ble_eq_true rfl⟩) ⟨zB_blind, va_recv hK hP (ci := 7) (q0 := 2) rfl rfl, (zPre hPc hDc hKc hS hFc hZ hN)⟩ rfl rfl hl.1 rfl (lv_room (Nat.le_of_ble_eq_true rfl)) dX9_read_26 ⟨Nat.le_of_ble_eq_true rfl, Nat.le_of_ble_eq_true rfl⟩) hS (fun q _ h => hFc q h) hFc (fun r u t H1 locs ht hvm hw hB hz1 hk1 hS => ?_)
  subst hw
  obtain ⟨hP1, hK1, hD1⟩ := hB
  rw [ht] at hP1
  have hK1 := va_K.moved hvm.symm hK1
  obtain ⟨hP, hD⟩ := va_join (wr := [(q3, .inr (10, [.ref q6, .int 0]))]) (w1 := [(q1, .inr (7, [.ref q4, .int 0]))]) hP hD [2] [1] rfl rfl (by decide) (by decide) hk1 hFc hP1 hD1
  have hK := (hK.sub (tys' := []) [] rfl).app hK1
  generalize H1 = H at hP hS ⊢
  have hP : va_P (dC, dI) vwCl [(q3, .inr (10, [.ref q6, .int 0])), (q1, .inr (7, [.ref q4, .int 0]))] H := hP
  have hD : va_D A [(q3, .inr (10, [.ref q6, .int 0])), (q1, .inr (7, [.ref q4, .int 0]))] := hD
  have hK : va_K (dC, dI) vwCl [] s := hK
  refine W.widen (k := 0) (n := 0) (Nat.le_of_ble_eq_true rfl) (Nat.le_of_ble_eq_true rfl) ?_
  have hPc := hP.sub (ws' := [(q3, .inr (10, [.ref q6, .int 0]))]) [0] rfl
  have hDc := hD.sub (ws' := [(q3, .inr (10, [.ref q6, .int 0]))]) [0] (by decide) rfl
  have hKc := hK.sub (tys' := []) [] rfl
  have hFc := va_free (wc := [(q3, .inr (10, [.ref q6, .int 0]))]) hD hS hA [0] rfl
  refine va_callv (va_runV (As := [.ref q1, .int 0, .int 0]) (rest := []) ⟨hx, hb, hml, hown, hts⟩ (c_X7_read_2 l dC dI q3 q1 q6 H.size  ) (cwV 3 hts gX9_read_X7_read rfl rfl rfl (by decide +kernel) ⟨Nat.le_of_ble_eq_true rfl, Nat.le_of_ble_eq_true rfl⟩) ⟨zB_blind, va_recv hK hP (ci := 10) (q0 := 0) rfl rfl, (zPre hPc hDc hKc hS hFc hZ hN)⟩ rfl rfl hl.1 rfl (lv_room (Nat.le_of_ble_eq_true rfl)) dX9_read_29 ⟨Nat.le_of_ble_eq_true rfl, Nat.le_of_ble_eq_true rfl⟩) hS (fun q _ h => hFc q h) hFc (fun u t H1 locs ht hvm hw hB hz1 hk1 hS => ?_)
  obtain ⟨hP1, hK1, hD1⟩ := hB
  rw [ht] at hP1
  have hK1 := va_K.moved hvm.symm hK1
  obtain ⟨hP, hD⟩ := va_join (wr := [(q1, .inr (7, [.ref q4, .int 0]))]) (w1 := []) hP hD [0] [1] rfl rfl (by decide) (by decide) hk1 hFc hP1 hD1
  have hK := (hK.sub (tys' := []) [] rfl).app hK1
  generalize H1 = H at hP hS ⊢
  have hP : va_P (dC, dI) vwCl [(q1, .inr (7, [.ref q4, .int 0]))] H := hP
  have hD : va_D A [(q1, .inr (7, [.ref q4, .int 0]))] := hD
  have hK : va_K (dC, dI) vwCl [] s := hK
  refine W.widen (k := 0) (n := 0) (Nat.le_of_ble_eq_true rfl) (Nat.le_of_ble_eq_true rfl) ?_
  have hP9 := hP.sub (ws' := [(q1, .inr (7, [.ref q4, .int 0]))]) [0] rfl
  have hD9 := hD.sub (ws' := [(q1, .inr (7, [.ref q4, .int 0]))]) [0] (by decide) rfl
  have hK9 := hK.sub (tys' := []) [] rfl
  exact W.vret hx hb hr (fun t ht hW => ⟨⟨(), rfl, trivial, ⟨by rw [ht]; exact hP9, va_K.moved hW.alike hK9, hD9⟩⟩, hS.F ht⟩) hS.2.2 dX9_read_32
set_option maxHeartbeats 4000000 in
set_option maxRecDepth 100000 in
theorem c_X8_come (l : Launch) (dC : Nat → ClassId) (dI : Nat → Nat → Nat) (q0 q1 q2 q3 : Nat) (k0 : ClassId) (sz : Nat) (p2 : Int32) (p3 : Int32) (hc0 : narrow .char (.int p3) = .int p3) (hc1 : fits .char (.int p3) = true) : Met l yX8_come wsX8_come ({ frames := 4, cells := 5, slots := 18, locals := 82 }) (va_Pc [.ref q0, .ref q1, .int p2, .int p3] (zB (dC, dI) [(k0, (.object "Seekwell$Text"))] [(q0, .inr (11, [.ref q2, .int 0, .int 1])), (q2, .inl (k0, 24, .inr (.inr (.inr (.inr (fun _ => none)))))), (q1, .inr (7, [.ref q3, .int 0]))] sz)) (va_Qi (fun (r : Int32) (_ : Unit) => 0 = r) (fun _ t => zE (dC, dI) [] [(q1, .inr (7, [.ref q3, .int 0]))] (va_A [(q0, .inr (11, [.ref q2, .int 0, .int 1])), (q2, .inl (k0, 24, .inr (.inr (.inr (.inr (fun _ => none)))))), (q1, .inr (7, [.ref q3, .int 0]))] sz) t) (va_A [(q0, .inr (11, [.ref q2, .int 0, .int 1])), (q2, .inl (k0, 24, .inr (.inr (.inr (.inr (fun _ => none)))))), (q1, .inr (7, [.ref q3, .int 0]))] sz)) 5 18 (va_A [(q0, .inr (11, [.ref q2, .int 0, .int 1])), (q2, .inl (k0, 24, .inr (.inr (.inr (.inr (fun _ => none)))))), (q1, .inr (7, [.ref q3, .int 0]))] sz) := by
  refine Met.ofW (cc := cX8_come) (maxL := 5) (ret := (some .int)) (by decide) rfl ?_
  intro p e s m args below meth c s₁ B hml hv
  obtain ⟨rfl, hsz, hP, hK, hD0, hZ, hN⟩ := hv
  have hx := B.exec
  have hb := B.bytes
  have hr := B.returns
  have hts := atoms_spec (ws := wsX8_come) B.pre
  have hown : s.vm.findClass RX8 = some m.cls := findClass_of_methodNamed B.named
  have hlocks := B.notSynchronized
  subst hsz
  have hD := hD0.self (sz := s.heap.size)
  generalize hAe : va_A [(q0, .inr (11, [.ref q2, .int 0, .int 1])), (q2, .inl (k0, 24, .inr (.inr (.inr (.inr (fun _ => none)))))), (q1, .inr (7, [.ref q3, .int 0]))] s.heap.size = A at hD hZ ⊢
  have hA : ∀ q : Nat, s.heap.size ≤ q → A q := fun q h => by rw [← hAe]; exact Or.inr h
  have hS : va_S A s.heap s.heap [] := va_S.rf
  have hP : va_P (dC, dI) vwCl [(q0, .inr (11, [.ref q2, .int 0, .int 1])), (q2, .inl (k0, 24, .inr (.inr (.inr (.inr (fun _ => none)))))), (q1, .inr (7, [.ref q3, .int 0]))] s.heap := hP
  have hl := lv_entry ([.ref q0, .ref q1, .int p2, .int p3]) (n := 5) (Nat.le_of_ble_eq_true rfl)
  rw [lg_entry_eq]
  generalize (lg_sl ([.ref q0, .ref q1, .int p2, .int p3]) ++ List.replicate (5 - (lg_sl ([.ref q0, .ref q1, .int p2, .int p3])).length) Slot.unset).toArray = ls at hl ⊢
  have hl : lv_has ls 5 [(0, .ref q0), (1, .ref q1), (2, .int p2), (3, .int p3)] := hl
  refine lv_aload_n hx hb dX8_come_0 rfl (lv_at hl 0 rfl) ?_
  refine lv_aload_n hx hb dX8_come_1 rfl (lv_at hl 0 rfl) ?_
  refine va_get (D := (dC, dI)) (ci := 11) (v := .int 0) (C := RX8) (T := TX8) (N := 3) hx hb hts (fun _ h => List.mem_cons_of_mem _ (List.mem_append_left _ (List.mem_append_left _ (List.mem_append_left _ (List.mem_append_left _ (List.mem_append_left _ (List.mem_append_left _ (List.mem_append_left _ (List.mem_append_right _ h))))))))) hown hK hP 0 rfl rfl 1 (by decide) (hts (.fieldLink RX8 17 "Seekwell$Shelf" "came" "I") (by decide +kernel)) (fun _ h9 => h9) rfl dX8_come_2 ?_
  have hPc := hP.sub (ws' := [(q0, .inr (11, [.ref q2, .int 0, .int 1])), (q2, .inl (k0, 24, .inr (.inr (.inr (.inr (fun _ => none))))))]) [0, 1] rfl
  have hDc := hD.sub (ws' := [(q0, .inr (11, [.ref q2, .int 0, .int 1])), (q2, .inl (k0, 24, .inr (.inr (.inr (.inr (fun _ => none))))))]) [0, 1] (by decide) rfl
  have hKc := hK.sub (tys' := [(k0, (.object "Seekwell$Text"))]) [0] rfl
  have hFc := va_free (wc := [(q0, .inr (11, [.ref q2, .int 0, .int 1])), (q2, .inl (k0, 24, .inr (.inr (.inr (.inr (fun _ => none))))))]) hD hS hA [0, 1] rfl
  refine va_callr (va_runV (As := [.int 0]) (rest := []) ⟨hx, hb, hml, hown, hts⟩ (c_X8_place l dC dI q0 q2 k0 s.heap.size  ) (cwV 1 hts gX8_come_X8_place rfl rfl rfl (by decide +kernel) ⟨Nat.le_of_ble_eq_true rfl, Nat.le_of_ble_eq_true rfl⟩) ⟨zB_blind, va_recv hK hP (ci := 11) (q0 := 0) rfl rfl, (zPre hPc hDc hKc hS hFc hZ hN)⟩ rfl rfl hl.1 rfl (lv_room (Nat.le_of_ble_eq_true rfl)) dX8_come_5 ⟨Nat.le_of_ble_eq_true rfl, Nat.le_of_ble_eq_true rfl⟩) hS (fun q _ h => hFc q h) hFc (fun u ra t H1 locs ht hvm hw hB hz1 hk1 hS => ?_)
  obtain ⟨q4, q5, q6, q7, q8, hra, hP1, hK1, hD1⟩ := hB
  subst hra
  rw [ht] at hP1
  have hK1 := va_K.moved hvm.symm hK1
  obtain ⟨hP, hD⟩ := va_join (wr := [(q1, .inr (7, [.ref q3, .int 0]))]) (w1 := [(q0, .inr (11, [.ref q2, .int 0, .int 1])), (q4, .inr (12, [.ref q5, .ref q6, .int 0, .int 97, .int 0, .int 1])), (q5, .inr (10, [.ref q7, .int 0])), (q6, .inr (10, [.ref q8, .int 0]))]) hP hD [0, 1] [2] rfl rfl (by decide) (by decide) hk1 hFc hP1 hD1
  have hK := (hK.sub (tys' := []) [] rfl).app hK1
  generalize H1 = H at hP hS ⊢
  have hP : va_P (dC, dI) vwCl [(q1, .inr (7, [.ref q3, .int 0])), (q0, .inr (11, [.ref q2, .int 0, .int 1])), (q4, .inr (12, [.ref q5, .ref q6, .int 0, .int 97, .int 0, .int 1])), (q5, .inr (10, [.ref q7, .int 0])), (q6, .inr (10, [.ref q8, .int 0]))] H := hP
  have hD : va_D A [(q1, .inr (7, [.ref q3, .int 0])), (q0, .inr (11, [.ref q2, .int 0, .int 1])), (q4, .inr (12, [.ref q5, .ref q6, .int 0, .int 97, .int 0, .int 1])), (q5, .inr (10, [.ref q7, .int 0])), (q6, .inr (10, [.ref q8, .int 0]))] := hD
  have hK : va_K (dC, dI) vwCl [] s := hK
  refine W.widen (k := 5) (n := 18) (Nat.le_of_ble_eq_true rfl) (Nat.le_of_ble_eq_true rfl) ?_
  refine lv_astore (lv' := [(4, .ref q4), (0, .ref q0), (1, .ref q1), (2, .int p2), (3, .int p3)]) hx hb dX8_come_8 hl (by decide) rfl (fun ls hl => ?_)
  refine lv_aload hx hb dX8_come_10 (lv_at hl 0 rfl) ?_
  refine lv_ifnonnull (tgt := 20) hx hb dX8_come_12 (by decide) ?_
  refine lv_aload_n hx hb dX8_come_20 rfl (lv_at hl 1 rfl) ?_
  refine lv_dup hx hb dX8_come_21 rfl ?_
  refine va_get (D := (dC, dI)) (ci := 11) (v := .int 0) (C := RX8) (T := TX8) (N := 3) hx hb hts (fun _ h => List.mem_cons_of_mem _ (List.mem_append_left _ (List.mem_append_left _ (List.mem_append_left _ (List.mem_append_left _ (List.mem_append_left _ (List.mem_append_left _ (List.mem_append_left _ (List.mem_append_right _ h))))))))) hown hK hP 1 rfl rfl 1 (by decide) (hts (.fieldLink RX8 17 "Seekwell$Shelf" "came" "I") (by decide +kernel)) (fun _ h9 => h9) rfl dX8_come_22 ?_
  refine lv_iconst (v := 1) hx hb dX8_come_25 (by decide +kernel) ?_
  refine lv_iadd hx hb dX8_come_26 ?_
  refine zt_i (v := 1) (by decide +kernel) ?_
  refine va_put (D := (dC, dI)) (ci := 11) (v := .int 1) (ty := .int) (C := RX8) (T := TX8) (N := 3) hx hb hts (fun _ h => List.mem_cons_of_mem _ (List.mem_append_left _ (List.mem_append_left _ (List.mem_append_left _ (List.mem_append_left _ (List.mem_append_left _ (List.mem_append_left _ (List.mem_append_left _ (List.mem_append_right _ h))))))))) tyX8 tyX8_ok nmX8 hown hK hP hD hS 1 rfl rfl 1 (by decide) (hts (.fieldLink RX8 17 "Seekwell$Shelf" "came" "I") (by decide +kernel)) (fun _ h9 => h9) rfl (by decide +kernel) rfl rfl (Nat.le_of_ble_eq_true rfl) dX8_come_27 (fun H locs hP hD hS => ?_)
  have hP : va_P (dC, dI) vwCl [(q1, .inr (7, [.ref q3, .int 0])), (q0, .inr (11, [.ref q2, .int 1, .int 1])), (q4, .inr (12, [.ref q5, .ref q6, .int 0, .int 97, .int 0, .int 1])), (q5, .inr (10, [.ref q7, .int 0])), (q6, .inr (10, [.ref q8, .int 0]))] H := hP
  have hD : va_D A [(q1, .inr (7, [.ref q3, .int 0])), (q0, .inr (11, [.ref q2, .int 1, .int 1])), (q4, .inr (12, [.ref q5, .ref q6, .int 0, .int 97, .int 0, .int 1])), (q5, .inr (10, [.ref q7, .int 0])), (q6, .inr (10, [.ref q8, .int 0]))] := hD
  refine lv_aload hx hb dX8_come_30 (lv_at hl 0 rfl) ?_
  refine lv_iload_n hx hb dX8_come_32 rfl (lv_at hl 3 rfl) ?_
  refine va_put (D := (dC, dI)) (ci := 12) (v := .int p2) (ty := .int) (C := RX9) (T := TX9) (N := 6) hx hb hts (fun _ h => List.mem_cons_of_mem _ (List.mem_append_left _ (List.mem_append_left _ (List.mem_append_left _ (List.mem_append_left _ (List.mem_append_left _ (List.mem_append_left _ (List.mem_append_right _ h)))))))) tyX9 tyX9_ok nmX9 hown hK hP hD hS 2 rfl rfl 2 (by decide) (hts (.fieldLink RX8 36 "Seekwell$Text" "value" "I") (by decide +kernel)) (fun _ h9 => h9) rfl (by decide +kernel) rfl rfl (Nat.le_of_ble_eq_true rfl) dX8_come_33 (fun H locs hP hD hS => ?_)
  have hP : va_P (dC, dI) vwCl [(q1, .inr (7, [.ref q3, .int 0])), (q0, .inr (11, [.ref q2, .int 1, .int 1])), (q4, .inr (12, [.ref q5, .ref q6, .int p2, .int 97, .int 0, .int 1])), (q5, .inr (10, [.ref q7, .int 0])), (q6, .inr (10, [.ref q8, .int 0]))] H := hP
  have hD : va_D A [(q1, .inr (7, [.ref q3, .int 0])), (q0, .inr (11, [.ref q2, .int 1, .int 1])), (q4, .inr (12, [.ref q5, .ref q6, .int p2, .int 97, .int 0, .int 1])), (q5, .inr (10, [.ref q7, .int 0])), (q6, .inr (10, [.ref q8, .int 0]))] := hD
  refine lv_aload hx hb dX8_come_36 (lv_at hl 0 rfl) ?_
  refine lv_iload_n hx hb dX8_come_38 rfl (lv_at hl 4 rfl) ?_
  refine va_put (D := (dC, dI)) (ci := 12) (v := .int p3) (ty := .char) (C := RX9) (T := TX9) (N := 6) hx hb hts (fun _ h => List.mem_cons_of_mem _ (List.mem_append_left _ (List.mem_append_left _ (List.mem_append_left _ (List.mem_append_left _ (List.mem_append_left _ (List.mem_append_left _ (List.mem_append_right _ h)))))))) tyX9 tyX9_ok nmX9 hown hK hP hD hS 2 rfl rfl 3 (by decide) (hts (.fieldLink RX8 39 "Seekwell$Text" "tag" "C") (by decide +kernel)) (fun _ h9 => h9) rfl (by decide +kernel) hc0 hc1 (Nat.le_of_ble_eq_true rfl) dX8_come_39 (fun H locs hP hD hS => ?_)
  have hP : va_P (dC, dI) vwCl [(q1, .inr (7, [.ref q3, .int 0])), (q0, .inr (11, [.ref q2, .int 1, .int 1])), (q4, .inr (12, [.ref q5, .ref q6, .int p2, .int p3, .int 0, .int 1])), (q5, .inr (10, [.ref q7, .int 0])), (q6, .inr (10, [.ref q8, .int 0]))] H := hP
  have hD : va_D A [(q1, .inr (7, [.ref q3, .int 0])), (q0, .inr (11, [.ref q2, .int 1, .int 1])), (q4, .inr (12, [.ref q5, .ref q6, .int p2, .int p3, .int 0, .int 1])), (q5, .inr (10, [.ref q7, .int 0])), (q6, .inr (10, [.ref q8, .int 0]))] := hD
  refine lv_aload hx hb dX8_come_42 (lv_at hl 0 rfl) ?_
  refine lv_aload_n hx hb dX8_come_44 rfl (lv_at hl 2 rfl) ?_
  have hPc := hP.sub (ws' := [(q4, .inr (12, [.ref q5, .ref q6, .int p2, .int p3, .int 0, .int 1])), (q1, .inr (7, [.ref q3, .int 0])), (q5, .inr (10, [.ref q7, .int 0])), (q6, .inr (10, [.ref q8, .int 0]))]) [2, 0, 3, 4] rfl
  have hDc := hD.sub (ws' := [(q4, .inr (12, [.ref q5, .ref q6, .int p2, .int p3, .int 0, .int 1])), (q1, .inr (7, [.ref q3, .int 0])), (q5, .inr (10, [.ref q7, .int 0])), (q6, .inr (10, [.ref q8, .int 0]))]) [2, 0, 3, 4] (by decide) rfl
  have hKc := hK.sub (tys' := []) [] rfl
  have hFc := va_free (wc := [(q4, .inr (12, [.ref q5, .ref q6, .int p2, .int p3, .int 0, .int 1])), (q1, .inr (7, [.ref q3, .int 0])), (q5, .inr (10, [.ref q7, .int 0])), (q6, .inr (10, [.ref q8, .int 0]))]) hD hS hA [2, 0, 3, 4] rfl
  refine va_callv (va_runV (As := [.ref q1]) (rest := []) ⟨hx, hb, hml, hown, hts⟩ (c_X9_read l dC dI q4 q1 q5 q6 q3 q7 q8 H.size  p2 p3 ) (cwV 1 hts gX8_come_X9_read rfl rfl rfl (by decide +kernel) ⟨Nat.le_of_ble_eq_true rfl, Nat.le_of_ble_eq_true rfl⟩) ⟨zB_blind, va_recv hK hP (ci := 12) (q0 := 2) rfl rfl, (zPre hPc hDc hKc hS hFc hZ hN)⟩ rfl rfl hl.1 rfl (lv_room (Nat.le_of_ble_eq_true rfl)) dX8_come_45 ⟨Nat.le_of_ble_eq_true rfl, Nat.le_of_ble_eq_true rfl⟩) hS (fun q _ h => hFc q h) hFc (fun u t H1 locs ht hvm hw hB hz1 hk1 hS => ?_)
  obtain ⟨hP1, hK1, hD1⟩ := hB
  rw [ht] at hP1
  have hK1 := va_K.moved hvm.symm hK1
  obtain ⟨hP, hD⟩ := va_join (wr := [(q0, .inr (11, [.ref q2, .int 1, .int 1]))]) (w1 := [(q1, .inr (7, [.ref q3, .int 0]))]) hP hD [2, 0, 3, 4] [1] rfl rfl (by decide) (by decide) hk1 hFc hP1 hD1
  have hK := (hK.sub (tys' := []) [] rfl).app hK1
  generalize H1 = H at hP hS ⊢
  have hP : va_P (dC, dI) vwCl [(q0, .inr (11, [.ref q2, .int 1, .int 1])), (q1, .inr (7, [.ref q3, .int 0]))] H := hP
  have hD : va_D A [(q0, .inr (11, [.ref q2, .int 1, .int 1])), (q1, .inr (7, [.ref q3, .int 0]))] := hD
  have hK : va_K (dC, dI) vwCl [] s := hK
  refine W.widen (k := 5) (n := 18) (Nat.le_of_ble_eq_true rfl) (Nat.le_of_ble_eq_true rfl) ?_
  refine lv_aload_n hx hb dX8_come_48 rfl (lv_at hl 1 rfl) ?_
  refine va_get (D := (dC, dI)) (ci := 11) (v := .int 1) (C := RX8) (T := TX8) (N := 3) hx hb hts (fun _ h => List.mem_cons_of_mem _ (List.mem_append_left _ (List.mem_append_left _ (List.mem_append_left _ (List.mem_append_left _ (List.mem_append_left _ (List.mem_append_left _ (List.mem_append_left _ (List.mem_append_right _ h))))))))) hown hK hP 0 rfl rfl 1 (by decide) (hts (.fieldLink RX8 17 "Seekwell$Shelf" "came" "I") (by decide +kernel)) (fun _ h9 => h9) rfl dX8_come_49 ?_
  refine lv_iconst (v := 1) hx hb dX8_come_52 (by decide +kernel) ?_
  refine lv_isub hx hb dX8_come_53 ?_
  refine zt_i (v := 0) (by decide +kernel) ?_
  have hP9 := hP.sub (ws' := [(q1, .inr (7, [.ref q3, .int 0]))]) [1] rfl
  have hD9 := hD.sub (ws' := [(q1, .inr (7, [.ref q3, .int 0]))]) [1] (by decide) rfl
  have hK9 := hK.sub (tys' := []) [] rfl
  exact W.iret (v := 0) hx hb hr (fun t ht hW => ⟨⟨0, (), rfl, rfl, ⟨by rw [ht]; exact hP9, va_K.moved hW.alike hK9, hD9⟩⟩, hS.F ht⟩) hS.2.2 dX8_come_54
set_option maxHeartbeats 4000000 in
set_option maxRecDepth 100000 in
theorem c_X4_clear (l : Launch) (dC : Nat → ClassId) (dI : Nat → Nat → Nat) (q0 q1 : Nat) (sz : Nat) : Met l yX4_clear wsX4_clear ({ frames := 0, cells := 0, slots := 0, locals := 0 }) (va_Pc [.ref q0] (zB (dC, dI) [] [(q0, .inr (7, [.ref q1, .int 0]))] sz)) (va_Qv (fun (_ : Unit) => True) (fun _ t => zE (dC, dI) [] [] (va_A [(q0, .inr (7, [.ref q1, .int 0]))] sz) t) (va_A [(q0, .inr (7, [.ref q1, .int 0]))] sz)) 0 0 (va_A [(q0, .inr (7, [.ref q1, .int 0]))] sz) := by
  refine Met.ofW (cc := cX4_clear) (maxL := 1) (ret := none) (by decide) rfl ?_
  intro p e s m args below meth c s₁ B hml hv
  obtain ⟨rfl, hsz, hP, hK, hD0, hZ, hN⟩ := hv
  have hx := B.exec
  have hb := B.bytes
  have hr := B.returns
  have hts := atoms_spec (ws := wsX4_clear) B.pre
  have hown : s.vm.findClass RX4 = some m.cls := findClass_of_methodNamed B.named
  have hlocks := B.notSynchronized
  subst hsz
  have hD := hD0.self (sz := s.heap.size)
  generalize hAe : va_A [(q0, .inr (7, [.ref q1, .int 0]))] s.heap.size = A at hD hZ ⊢
  have hA : ∀ q : Nat, s.heap.size ≤ q → A q := fun q h => by rw [← hAe]; exact Or.inr h
  have hS : va_S A s.heap s.heap [] := va_S.rf
  have hP : va_P (dC, dI) vwCl [(q0, .inr (7, [.ref q1, .int 0]))] s.heap := hP
  have hl := lv_entry ([.ref q0]) (n := 1) (Nat.le_of_ble_eq_true rfl)
  rw [lg_entry_eq]
  generalize (lg_sl ([.ref q0]) ++ List.replicate (1 - (lg_sl ([.ref q0])).length) Slot.unset).toArray = ls at hl ⊢
  have hl : lv_has ls 1 [(0, .ref q0)] := hl
  refine lv_aload_n hx hb dX4_clear_0 rfl (lv_at hl 0 rfl) ?_
  refine lv_iconst (v := 0) hx hb dX4_clear_1 (by decide +kernel) ?_
  refine va_put (D := (dC, dI)) (ci := 7) (v := .int 0) (ty := .int) (C := RX4) (T := TX4) (N := 2) hx hb hts (fun _ h => List.mem_cons_of_mem _ (List.mem_append_right _ h)) tyX4 tyX4_ok nmX4 hown hK hP hD hS 0 rfl rfl 1 (by decide) (hts (.fieldLink RX4 15 "Seekwell$Line" "size" "I") (by decide +kernel)) (fun _ h9 => h9) rfl (by decide +kernel) rfl rfl (Nat.le_of_ble_eq_true rfl) dX4_clear_2 (fun H locs hP hD hS => ?_)
  have hP : va_P (dC, dI) vwCl [(q0, .inr (7, [.ref q1, .int 0]))] H := hP
  have hD : va_D A [(q0, .inr (7, [.ref q1, .int 0]))] := hD
  have hP9 := hP.sub (ws' := []) [] rfl
  have hD9 := hD.sub (ws' := []) [] (by decide) rfl
  have hK9 := hK.sub (tys' := []) [] rfl
  exact W.vret hx hb hr (fun t ht hW => ⟨⟨(), rfl, trivial, ⟨by rw [ht]; exact hP9, va_K.moved hW.alike hK9, hD9⟩⟩, hS.F ht⟩) hS.2.2 dX4_clear_5
set_option maxHeartbeats 4000000 in
set_option maxRecDepth 100000 in
theorem c_X11_add_5 (l : Launch) (dC : Nat → ClassId) (dI : Nat → Nat → Nat) (q0 q1 q2 q3 q4 q5 q6 q7 q8 q9 q10 q11 q12 q13 q14 q15 : Nat) (k0 : ClassId) (sz : Nat) (p1 : Int32) (p2 : Int32) (hc0 : ¬ p1 < 0) (hc1 : ¬ (999 : Int32) < p1) (hc2 : ¬ p2 < 97) (hc3 : ¬ (122 : Int32) < p2) (hc4 : narrow .char (.int p2) = .int p2) (hc5 : fits .char (.int p2) = true) : Met l yX11_add wsX11_add ({ frames := 5, cells := 5, slots := 18, locals := 106 }) (va_Pc [.ref q0, .int p1, .int p2] (zB (dC, dI) [(k0, (.object "Seekwell$Text"))] [(q0, .inr (13, [.ref q1, .ref q2, .ref q3, .ref q4, .ref q5, .ref q6, .ref q7, .ref q8, .int 0, .ref q9, .ref q10, .ref q11, .ref q12, .ref q13])), (q2, .inr (11, [.ref q14, .int 0, .int 1])), (q14, .inl (k0, 24, .inr (.inr (.inr (.inr (fun _ => none)))))), (q1, .inr (7, [.ref q15, .int 0]))] sz)) (va_Qi (fun (r : Int32) (_ : Unit) => 0 = r) (fun _ t => zE (dC, dI) [] [] (va_A [(q0, .inr (13, [.ref q1, .ref q2, .ref q3, .ref q4, .ref q5, .ref q6, .ref q7, .ref q8, .int 0, .ref q9, .ref q10, .ref q11, .ref q12, .ref q13])), (q2, .inr (11, [.ref q14, .int 0, .int 1])), (q14, .inl (k0, 24, .inr (.inr (.inr (.inr (fun _ => none)))))), (q1, .inr (7, [.ref q15, .int 0]))] sz) t) (va_A [(q0, .inr (13, [.ref q1, .ref q2, .ref q3, .ref q4, .ref q5, .ref q6, .ref q7, .ref q8, .int 0, .ref q9, .ref q10, .ref q11, .ref q12, .ref q13])), (q2, .inr (11, [.ref q14, .int 0, .int 1])), (q14, .inl (k0, 24, .inr (.inr (.inr (.inr (fun _ => none)))))), (q1, .inr (7, [.ref q15, .int 0]))] sz)) 5 18 (va_A [(q0, .inr (13, [.ref q1, .ref q2, .ref q3, .ref q4, .ref q5, .ref q6, .ref q7, .ref q8, .int 0, .ref q9, .ref q10, .ref q11, .ref q12, .ref q13])), (q2, .inr (11, [.ref q14, .int 0, .int 1])), (q14, .inl (k0, 24, .inr (.inr (.inr (.inr (fun _ => none)))))), (q1, .inr (7, [.ref q15, .int 0]))] sz) := by
  refine Met.ofW (cc := cX11_add) (maxL := 4) (ret := (some .int)) (by decide) rfl ?_
  intro p e s m args below meth c s₁ B hml hv
  obtain ⟨rfl, hsz, hP, hK, hD0, hZ, hN⟩ := hv
  have hx := B.exec
  have hb := B.bytes
  have hr := B.returns
  have hts := atoms_spec (ws := wsX11_add) B.pre
  have hown : s.vm.findClass RX11 = some m.cls := findClass_of_methodNamed B.named
  have hlocks := B.notSynchronized
  subst hsz
  have hD := hD0.self (sz := s.heap.size)
  generalize hAe : va_A [(q0, .inr (13, [.ref q1, .ref q2, .ref q3, .ref q4, .ref q5, .ref q6, .ref q7, .ref q8, .int 0, .ref q9, .ref q10, .ref q11, .ref q12, .ref q13])), (q2, .inr (11, [.ref q14, .int 0, .int 1])), (q14, .inl (k0, 24, .inr (.inr (.inr (.inr (fun _ => none)))))), (q1, .inr (7, [.ref q15, .int 0]))] s.heap.size = A at hD hZ ⊢
  have hA : ∀ q : Nat, s.heap.size ≤ q → A q := fun q h => by rw [← hAe]; exact Or.inr h
  have hS : va_S A s.heap s.heap [] := va_S.rf
  have hP : va_P (dC, dI) vwCl [(q0, .inr (13, [.ref q1, .ref q2, .ref q3, .ref q4, .ref q5, .ref q6, .ref q7, .ref q8, .int 0, .ref q9, .ref q10, .ref q11, .ref q12, .ref q13])), (q2, .inr (11, [.ref q14, .int 0, .int 1])), (q14, .inl (k0, 24, .inr (.inr (.inr (.inr (fun _ => none)))))), (q1, .inr (7, [.ref q15, .int 0]))] s.heap := hP
  have hl := lv_entry ([.ref q0, .int p1, .int p2]) (n := 4) (Nat.le_of_ble_eq_true rfl)
  rw [lg_entry_eq]
  generalize (lg_sl ([.ref q0, .int p1, .int p2]) ++ List.replicate (4 - (lg_sl ([.ref q0, .int p1, .int p2])).length) Slot.unset).toArray = ls at hl ⊢
  have hl : lv_has ls 4 [(0, .ref q0), (1, .int p1), (2, .int p2)] := hl
  refine lv_iload_n hx hb dX11_add_0 rfl (lv_at hl 1 rfl) ?_
  refine lv_if_lt (tgt := 18) hx hb dX11_add_1 (by decide) (fun h9 => absurd h9 hc0) (fun _ => ?_)
  refine lv_iload_n hx hb dX11_add_4 rfl (lv_at hl 1 rfl) ?_
  refine lv_sipush (v := 999) hx hb dX11_add_5 (by decide +kernel) ?_
  refine lv_icmp_gt (tgt := 18) hx hb dX11_add_8 (by decide) (fun h9 => absurd h9 hc1) (fun _ => ?_)
  refine lv_iload_n hx hb dX11_add_11 rfl (lv_at hl 2 rfl) ?_
  have hPc := hP.sub (ws' := []) [] rfl
  have hDc := hD.sub (ws' := []) [] (by decide) rfl
  have hKc := hK.sub (tys' := []) [] rfl
  have hFc := va_free (wc := []) hD hS hA [] rfl
  refine va_calli (va_runS (As := [.int p2]) (rest := []) ⟨hx, hb, hml, hown, hts⟩ (c_X11_isTag_3 l dC dI  s.heap.size p2 hc2 hc3) (va_cwS 1 hts gX11_add_X11_isTag rfl rfl rfl (by decide +kernel) ⟨Nat.le_of_ble_eq_true rfl, Nat.le_of_ble_eq_true rfl⟩) ⟨zB_blind, (zPre hPc hDc hKc hS hFc hZ hN)⟩ rfl rfl hl.1 rfl (lv_room (Nat.le_of_ble_eq_true rfl)) dX11_add_12 ⟨Nat.le_of_ble_eq_true rfl, Nat.le_of_ble_eq_true rfl⟩) hS (fun q _ h => hFc q h) hFc (fun r u t H1 locs ht hvm hw hB hz1 hk1 hS => ?_)
  subst hw
  obtain ⟨hP1, hK1, hD1⟩ := hB
  rw [ht] at hP1
  have hK1 := va_K.moved hvm.symm hK1
  obtain ⟨hP, hD⟩ := va_join (wr := [(q0, .inr (13, [.ref q1, .ref q2, .ref q3, .ref q4, .ref q5, .ref q6, .ref q7, .ref q8, .int 0, .ref q9, .ref q10, .ref q11, .ref q12, .ref q13])), (q2, .inr (11, [.ref q14, .int 0, .int 1])), (q14, .inl (k0, 24, .inr (.inr (.inr (.inr (fun _ => none)))))), (q1, .inr (7, [.ref q15, .int 0]))]) (w1 := []) hP hD [] [0, 1, 2, 3] rfl rfl (by decide) (by decide) hk1 hFc hP1 hD1
  have hK := (hK.sub (tys' := [(k0, (.object "Seekwell$Text"))]) [0] rfl).app hK1
  generalize H1 = H at hP hS ⊢
  have hP : va_P (dC, dI) vwCl [(q0, .inr (13, [.ref q1, .ref q2, .ref q3, .ref q4, .ref q5, .ref q6, .ref q7, .ref q8, .int 0, .ref q9, .ref q10, .ref q11, .ref q12, .ref q13])), (q2, .inr (11, [.ref q14, .int 0, .int 1])), (q14, .inl (k0, 24, .inr (.inr (.inr (.inr (fun _ => none)))))), (q1, .inr (7, [.ref q15, .int 0]))] H := hP
  have hD : va_D A [(q0, .inr (13, [.ref q1, .ref q2, .ref q3, .ref q4, .ref q5, .ref q6, .ref q7, .ref q8, .int 0, .ref q9, .ref q10, .ref q11, .ref q12, .ref q13])), (q2, .inr (11, [.ref q14, .int 0, .int 1])), (q14, .inl (k0, 24, .inr (.inr (.inr (.inr (fun _ => none)))))), (q1, .inr (7, [.ref q15, .int 0]))] := hD
  have hK : va_K (dC, dI) vwCl [(k0, (.object "Seekwell$Text"))] s := hK
  refine W.widen (k := 0) (n := 0) (Nat.le_of_ble_eq_true rfl) (Nat.le_of_ble_eq_true rfl) ?_
  refine lv_if_ne (tgt := 28) hx hb dX11_add_15 (by decide) (fun _ => ?_) (fun h9 => absurd h9 (show ¬ (1 : Int32) = (0 : Int32) by decide +kernel))
  refine lv_aload_n hx hb dX11_add_28 rfl (lv_at hl 0 rfl) ?_
  refine va_get (D := (dC, dI)) (ci := 13) (v := .ref q2) (C := RX11) (T := TX11) (N := 14) hx hb hts (fun _ h => List.mem_cons_of_mem _ (List.mem_append_left _ (List.mem_append_left _ (List.mem_append_left _ (List.mem_append_left _ (List.mem_append_left _ (List.mem_append_left _ (List.mem_append_left _ (List.mem_append_left _ (List.mem_append_left _ (List.mem_append_left _ (List.mem_append_right _ h)))))))))))) hown hK hP 0 rfl rfl 1 (by decide) (hts (.fieldLink RX11 19 "Seekwell" "shelf" "LSeekwell$Shelf;") (by decide +kernel)) (fun _ h9 => h9) rfl dX11_add_29 ?_
  have hPc := hP.sub (ws' := [(q2, .inr (11, [.ref q14, .int 0, .int 1]))]) [1] rfl
  have hDc := hD.sub (ws' := [(q2, .inr (11, [.ref q14, .int 0, .int 1]))]) [1] (by decide) rfl
  have hKc := hK.sub (tys' := []) [] rfl
  have hFc := va_free (wc := [(q2, .inr (11, [.ref q14, .int 0, .int 1]))]) hD hS hA [1] rfl
  refine va_calli (va_runV (As := []) (rest := []) ⟨hx, hb, hml, hown, hts⟩ (c_X8_came l dC dI q2 q14 H.size  ) (cwV 0 hts gX11_add_X8_came rfl rfl rfl (by decide +kernel) ⟨Nat.le_of_ble_eq_true rfl, Nat.le_of_ble_eq_true rfl⟩) ⟨zB_blind, va_recv hK hP (ci := 11) (q0 := 1) rfl rfl, (zPre hPc hDc hKc hS hFc hZ hN)⟩ rfl rfl hl.1 rfl (lv_room (Nat.le_of_ble_eq_true rfl)) dX11_add_32 ⟨Nat.le_of_ble_eq_true rfl, Nat.le_of_ble_eq_true rfl⟩) hS (fun q _ h => hFc q h) hFc (fun r u t H1 locs ht hvm hw hB hz1 hk1 hS => ?_)
  subst hw
  obtain ⟨hP1, hK1, hD1⟩ := hB
  rw [ht] at hP1
  have hK1 := va_K.moved hvm.symm hK1
  obtain ⟨hP, hD⟩ := va_join (wr := [(q0, .inr (13, [.ref q1, .ref q2, .ref q3, .ref q4, .ref q5, .ref q6, .ref q7, .ref q8, .int 0, .ref q9, .ref q10, .ref q11, .ref q12, .ref q13])), (q14, .inl (k0, 24, .inr (.inr (.inr (.inr (fun _ => none)))))), (q1, .inr (7, [.ref q15, .int 0]))]) (w1 := [(q2, .inr (11, [.ref q14, .int 0, .int 1]))]) hP hD [1] [0, 2, 3] rfl rfl (by decide) (by decide) hk1 hFc hP1 hD1
  have hK := (hK.sub (tys' := [(k0, (.object "Seekwell$Text"))]) [0] rfl).app hK1
  generalize H1 = H at hP hS ⊢
  have hP : va_P (dC, dI) vwCl [(q0, .inr (13, [.ref q1, .ref q2, .ref q3, .ref q4, .ref q5, .ref q6, .ref q7, .ref q8, .int 0, .ref q9, .ref q10, .ref q11, .ref q12, .ref q13])), (q14, .inl (k0, 24, .inr (.inr (.inr (.inr (fun _ => none)))))), (q1, .inr (7, [.ref q15, .int 0])), (q2, .inr (11, [.ref q14, .int 0, .int 1]))] H := hP
  have hD : va_D A [(q0, .inr (13, [.ref q1, .ref q2, .ref q3, .ref q4, .ref q5, .ref q6, .ref q7, .ref q8, .int 0, .ref q9, .ref q10, .ref q11, .ref q12, .ref q13])), (q14, .inl (k0, 24, .inr (.inr (.inr (.inr (fun _ => none)))))), (q1, .inr (7, [.ref q15, .int 0])), (q2, .inr (11, [.ref q14, .int 0, .int 1]))] := hD
  have hK : va_K (dC, dI) vwCl [(k0, (.object "Seekwell$Text"))] s := hK
  refine W.widen (k := 0) (n := 0) (Nat.le_of_ble_eq_true rfl) (Nat.le_of_ble_eq_true rfl) ?_
  refine lv_bipush (v := 24) hx hb dX11_add_35 (by decide +kernel) ?_
  refine lv_icmp_lt (tgt := 50) hx hb dX11_add_37 (by decide) (fun _ => ?_) (fun h9 => absurd (show (0 : Int32) < (24 : Int32) by decide +kernel) h9)
  refine lv_aload_n hx hb dX11_add_50 rfl (lv_at hl 0 rfl) ?_
  refine va_get (D := (dC, dI)) (ci := 13) (v := .ref q2) (C := RX11) (T := TX11) (N := 14) hx hb hts (fun _ h => List.mem_cons_of_mem _ (List.mem_append_left _ (List.mem_append_left _ (List.mem_append_left _ (List.mem_append_left _ (List.mem_append_left _ (List.mem_append_left _ (List.mem_append_left _ (List.mem_append_left _ (List.mem_append_left _ (List.mem_append_left _ (List.mem_append_right _ h)))))))))))) hown hK hP 0 rfl rfl 1 (by decide) (hts (.fieldLink RX11 19 "Seekwell" "shelf" "LSeekwell$Shelf;") (by decide +kernel)) (fun _ h9 => h9) rfl dX11_add_51 ?_
  refine lv_aload_n hx hb dX11_add_54 rfl (lv_at hl 0 rfl) ?_
  refine va_get (D := (dC, dI)) (ci := 13) (v := .ref q1) (C := RX11) (T := TX11) (N := 14) hx hb hts (fun _ h => List.mem_cons_of_mem _ (List.mem_append_left _ (List.mem_append_left _ (List.mem_append_left _ (List.mem_append_left _ (List.mem_append_left _ (List.mem_append_left _ (List.mem_append_left _ (List.mem_append_left _ (List.mem_append_left _ (List.mem_append_left _ (List.mem_append_right _ h)))))))))))) hown hK hP 0 rfl rfl 0 (by decide) (hts (.fieldLink RX11 10 "Seekwell" "text" "LSeekwell$Line;") (by decide +kernel)) (fun _ h9 => h9) rfl dX11_add_55 ?_
  refine lv_iload_n hx hb dX11_add_58 rfl (lv_at hl 1 rfl) ?_
  refine lv_iload_n hx hb dX11_add_59 rfl (lv_at hl 2 rfl) ?_
  have hPc := hP.sub (ws' := [(q2, .inr (11, [.ref q14, .int 0, .int 1])), (q14, .inl (k0, 24, .inr (.inr (.inr (.inr (fun _ => none)))))), (q1, .inr (7, [.ref q15, .int 0]))]) [3, 1, 2] rfl
  have hDc := hD.sub (ws' := [(q2, .inr (11, [.ref q14, .int 0, .int 1])), (q14, .inl (k0, 24, .inr (.inr (.inr (.inr (fun _ => none)))))), (q1, .inr (7, [.ref q15, .int 0]))]) [3, 1, 2] (by decide) rfl
  have hKc := hK.sub (tys' := [(k0, (.object "Seekwell$Text"))]) [0] rfl
  have hFc := va_free (wc := [(q2, .inr (11, [.ref q14, .int 0, .int 1])), (q14, .inl (k0, 24, .inr (.inr (.inr (.inr (fun _ => none)))))), (q1, .inr (7, [.ref q15, .int 0]))]) hD hS hA [3, 1, 2] rfl
  refine va_calli (va_runV (As := [.ref q1, .int p1, .int p2]) (rest := []) ⟨hx, hb, hml, hown, hts⟩ (c_X8_come l dC dI q2 q1 q14 q15 k0 H.size p1 p2 hc4 hc5) (cwV 3 hts gX11_add_X8_come rfl rfl rfl (by decide +kernel) ⟨Nat.le_of_ble_eq_true rfl, Nat.le_of_ble_eq_true rfl⟩) ⟨zB_blind, va_recv hK hP (ci := 11) (q0 := 3) rfl rfl, (zPre hPc hDc hKc hS hFc hZ hN)⟩ rfl rfl hl.1 rfl (lv_room (Nat.le_of_ble_eq_true rfl)) dX11_add_60 ⟨Nat.le_of_ble_eq_true rfl, Nat.le_of_ble_eq_true rfl⟩) hS (fun q _ h => hFc q h) hFc (fun r u t H1 locs ht hvm hw hB hz1 hk1 hS => ?_)
  subst hw
  obtain ⟨hP1, hK1, hD1⟩ := hB
  rw [ht] at hP1
  have hK1 := va_K.moved hvm.symm hK1
  obtain ⟨hP, hD⟩ := va_join (wr := [(q0, .inr (13, [.ref q1, .ref q2, .ref q3, .ref q4, .ref q5, .ref q6, .ref q7, .ref q8, .int 0, .ref q9, .ref q10, .ref q11, .ref q12, .ref q13]))]) (w1 := [(q1, .inr (7, [.ref q15, .int 0]))]) hP hD [3, 1, 2] [0] rfl rfl (by decide) (by decide) hk1 hFc hP1 hD1
  have hK := (hK.sub (tys' := []) [] rfl).app hK1
  generalize H1 = H at hP hS ⊢
  have hP : va_P (dC, dI) vwCl [(q0, .inr (13, [.ref q1, .ref q2, .ref q3, .ref q4, .ref q5, .ref q6, .ref q7, .ref q8, .int 0, .ref q9, .ref q10, .ref q11, .ref q12, .ref q13])), (q1, .inr (7, [.ref q15, .int 0]))] H := hP
  have hD : va_D A [(q0, .inr (13, [.ref q1, .ref q2, .ref q3, .ref q4, .ref q5, .ref q6, .ref q7, .ref q8, .int 0, .ref q9, .ref q10, .ref q11, .ref q12, .ref q13])), (q1, .inr (7, [.ref q15, .int 0]))] := hD
  have hK : va_K (dC, dI) vwCl [] s := hK
  refine W.widen (k := 5) (n := 18) (Nat.le_of_ble_eq_true rfl) (Nat.le_of_ble_eq_true rfl) ?_
  refine lv_istore_n (lv' := [(3, .int 0), (0, .ref q0), (1, .int p1), (2, .int p2)]) hx hb dX11_add_63 rfl hl (by decide) rfl (fun ls hl => ?_)
  refine lv_aload_n hx hb dX11_add_64 rfl (lv_at hl 1 rfl) ?_
  refine va_get (D := (dC, dI)) (ci := 13) (v := .ref q1) (C := RX11) (T := TX11) (N := 14) hx hb hts (fun _ h => List.mem_cons_of_mem _ (List.mem_append_left _ (List.mem_append_left _ (List.mem_append_left _ (List.mem_append_left _ (List.mem_append_left _ (List.mem_append_left _ (List.mem_append_left _ (List.mem_append_left _ (List.mem_append_left _ (List.mem_append_left _ (List.mem_append_right _ h)))))))))))) hown hK hP 0 rfl rfl 0 (by decide) (hts (.fieldLink RX11 10 "Seekwell" "text" "LSeekwell$Line;") (by decide +kernel)) (fun _ h9 => h9) rfl dX11_add_65 ?_
  have hPc := hP.sub (ws' := [(q1, .inr (7, [.ref q15, .int 0]))]) [1] rfl
  have hDc := hD.sub (ws' := [(q1, .inr (7, [.ref q15, .int 0]))]) [1] (by decide) rfl
  have hKc := hK.sub (tys' := []) [] rfl
  have hFc := va_free (wc := [(q1, .inr (7, [.ref q15, .int 0]))]) hD hS hA [1] rfl
  refine va_callv (va_runV (As := []) (rest := []) ⟨hx, hb, hml, hown, hts⟩ (c_X4_clear l dC dI q1 q15 H.size  ) (cwV 0 hts gX11_add_X4_clear rfl rfl rfl (by decide +kernel) ⟨Nat.le_of_ble_eq_true rfl, Nat.le_of_ble_eq_true rfl⟩) ⟨zB_blind, va_recv hK hP (ci := 7) (q0 := 1) rfl rfl, (zPre hPc hDc hKc hS hFc hZ hN)⟩ rfl rfl hl.1 rfl (lv_room (Nat.le_of_ble_eq_true rfl)) dX11_add_68 ⟨Nat.le_of_ble_eq_true rfl, Nat.le_of_ble_eq_true rfl⟩) hS (fun q _ h => hFc q h) hFc (fun u t H1 locs ht hvm hw hB hz1 hk1 hS => ?_)
  obtain ⟨hP1, hK1, hD1⟩ := hB
  rw [ht] at hP1
  have hK1 := va_K.moved hvm.symm hK1
  obtain ⟨hP, hD⟩ := va_join (wr := []) (w1 := []) hP hD [1] [] rfl rfl (by decide) (by decide) hk1 hFc hP1 hD1
  have hK := (hK.sub (tys' := []) [] rfl).app hK1
  generalize H1 = H at hP hS ⊢
  have hP : va_P (dC, dI) vwCl [] H := hP
  have hD : va_D A [] := hD
  have hK : va_K (dC, dI) vwCl [] s := hK
  refine W.widen (k := 5) (n := 18) (Nat.le_of_ble_eq_true rfl) (Nat.le_of_ble_eq_true rfl) ?_
  refine lv_iload_n hx hb dX11_add_71 rfl (lv_at hl 0 rfl) ?_
  have hP9 := hP.sub (ws' := []) [] rfl
  have hD9 := hD.sub (ws' := []) [] (by decide) rfl
  have hK9 := hK.sub (tys' := []) [] rfl
  exact W.iret (v := 0) hx hb hr (fun t ht hW => ⟨⟨0, (), rfl, rfl, ⟨by rw [ht]; exact hP9, va_K.moved hW.alike hK9, hD9⟩⟩, hS.F ht⟩) hS.2.2 dX11_add_72
set_option maxHeartbeats 4000000 in
set_option maxRecDepth 100000 in
theorem c_L_add_5 (l : Launch) (dC : Nat → ClassId) (dI : Nat → Nat → Nat) (q0 q1 q2 q3 q4 q5 q6 q7 q8 q9 q10 q11 q12 q13 q14 q15 q16 : Nat) (k0 k1 : ClassId) (sz : Nat) (p1 : Int32) (p2 : Int32) (hc0 : ¬ p1 < 0) (hc1 : ¬ (999 : Int32) < p1) (hc2 : ¬ p2 < 97) (hc3 : ¬ (122 : Int32) < p2) (hc4 : narrow .char (.int p2) = .int p2) (hc5 : fits .char (.int p2) = true) : Met l yL_add wsL_add ({ frames := 6, cells := 5, slots := 18, locals := 129 }) (va_Pc [.ref q0, .int p1, .int p2, .ref q1] (zB (dC, dI) [(k0, (.object "Seekwell$Text")), (k1, .long)] [(q0, .inr (13, [.ref q2, .ref q3, .ref q4, .ref q5, .ref q6, .ref q7, .ref q8, .ref q9, .int 0, .ref q10, .ref q11, .ref q12, .ref q13, .ref q14])), (q3, .inr (11, [.ref q15, .int 0, .int 1])), (q15, .inl (k0, 24, .inr (.inr (.inr (.inr (fun _ => none)))))), (q2, .inr (7, [.ref q16, .int 0])), (q1, .inl (k1, 1, .inr (.inl (fun _ => 0))))] sz)) (va_Qi (fun (r : Int32) (_ : Unit) => 0 = r) (fun _ t => zE (dC, dI) [(k1, .long)] [(q1, .inl (k1, 1, .inr (.inl (vp_updL (fun _ => 0) (0 : Int32).toNatClampNeg 0))))] (va_A [(q0, .inr (13, [.ref q2, .ref q3, .ref q4, .ref q5, .ref q6, .ref q7, .ref q8, .ref q9, .int 0, .ref q10, .ref q11, .ref q12, .ref q13, .ref q14])), (q3, .inr (11, [.ref q15, .int 0, .int 1])), (q15, .inl (k0, 24, .inr (.inr (.inr (.inr (fun _ => none)))))), (q2, .inr (7, [.ref q16, .int 0])), (q1, .inl (k1, 1, .inr (.inl (fun _ => 0))))] sz) t) (va_A [(q0, .inr (13, [.ref q2, .ref q3, .ref q4, .ref q5, .ref q6, .ref q7, .ref q8, .ref q9, .int 0, .ref q10, .ref q11, .ref q12, .ref q13, .ref q14])), (q3, .inr (11, [.ref q15, .int 0, .int 1])), (q15, .inl (k0, 24, .inr (.inr (.inr (.inr (fun _ => none)))))), (q2, .inr (7, [.ref q16, .int 0])), (q1, .inl (k1, 1, .inr (.inl (fun _ => 0))))] sz)) 5 18 (va_A [(q0, .inr (13, [.ref q2, .ref q3, .ref q4, .ref q5, .ref q6, .ref q7, .ref q8, .ref q9, .int 0, .ref q10, .ref q11, .ref q12, .ref q13, .ref q14])), (q3, .inr (11, [.ref q15, .int 0, .int 1])), (q15, .inl (k0, 24, .inr (.inr (.inr (.inr (fun _ => none)))))), (q2, .inr (7, [.ref q16, .int 0])), (q1, .inl (k1, 1, .inr (.inl (fun _ => 0))))] sz) := by
  refine va_MetW (cc := cL_add) (maxL := 5) (ret := (some .int)) (by decide) rfl ?_
  intro p e s m args below meth c s₁ B hml hv
  obtain ⟨rfl, hsz, hP, hK, hD0, hZ, hN⟩ := hv
  have hx := B.exec
  have hb := B.bytes
  have hr := B.returns
  have hts := atoms_spec (ws := wsL_add) B.pre
  have hown : s.vm.findClass RL = some m.cls := findClass_of_methodNamed B.named
  have hlocks := B.notSynchronized
  have htab := vx_table (x := yL_add) B (hts (.codeWith yL_add cL_add 5 (some .int) [(0, 10, 13, 13), (0, 10, 17, 15)]) List.mem_cons_self)
  subst hsz
  have hD := hD0.self (sz := s.heap.size)
  generalize hAe : va_A [(q0, .inr (13, [.ref q2, .ref q3, .ref q4, .ref q5, .ref q6, .ref q7, .ref q8, .ref q9, .int 0, .ref q10, .ref q11, .ref q12, .ref q13, .ref q14])), (q3, .inr (11, [.ref q15, .int 0, .int 1])), (q15, .inl (k0, 24, .inr (.inr (.inr (.inr (fun _ => none)))))), (q2, .inr (7, [.ref q16, .int 0])), (q1, .inl (k1, 1, .inr (.inl (fun _ => 0))))] s.heap.size = A at hD hZ ⊢
  have hA : ∀ q : Nat, s.heap.size ≤ q → A q := fun q h => by rw [← hAe]; exact Or.inr h
  have hS : va_S A s.heap s.heap [] := va_S.rf
  have hP : va_P (dC, dI) vwCl [(q0, .inr (13, [.ref q2, .ref q3, .ref q4, .ref q5, .ref q6, .ref q7, .ref q8, .ref q9, .int 0, .ref q10, .ref q11, .ref q12, .ref q13, .ref q14])), (q3, .inr (11, [.ref q15, .int 0, .int 1])), (q15, .inl (k0, 24, .inr (.inr (.inr (.inr (fun _ => none)))))), (q2, .inr (7, [.ref q16, .int 0])), (q1, .inl (k1, 1, .inr (.inl (fun _ => 0))))] s.heap := hP
  have hl := lv_entry ([.ref q0, .int p1, .int p2, .ref q1]) (n := 5) (Nat.le_of_ble_eq_true rfl)
  rw [lg_entry_eq]
  generalize (lg_sl ([.ref q0, .int p1, .int p2, .ref q1]) ++ List.replicate (5 - (lg_sl ([.ref q0, .int p1, .int p2, .ref q1])).length) Slot.unset).toArray = ls at hl ⊢
  have hl : lv_has ls 5 [(0, .ref q0), (1, .int p1), (2, .int p2), (3, .ref q1)] := hl
  refine lv_aload_n hx hb dL_add_0 rfl (lv_at hl 3 rfl) ?_
  refine lv_iconst (v := 0) hx hb dL_add_1 (by decide +kernel) ?_
  refine lv_aload_n hx hb dL_add_2 rfl (lv_at hl 0 rfl) ?_
  refine lv_iload_n hx hb dL_add_3 rfl (lv_at hl 1 rfl) ?_
  refine lv_iload_n hx hb dL_add_4 rfl (lv_at hl 2 rfl) ?_
  have hPc := hP.sub (ws' := [(q0, .inr (13, [.ref q2, .ref q3, .ref q4, .ref q5, .ref q6, .ref q7, .ref q8, .ref q9, .int 0, .ref q10, .ref q11, .ref q12, .ref q13, .ref q14])), (q3, .inr (11, [.ref q15, .int 0, .int 1])), (q15, .inl (k0, 24, .inr (.inr (.inr (.inr (fun _ => none)))))), (q2, .inr (7, [.ref q16, .int 0]))]) [0, 1, 2, 3] rfl
  have hDc := hD.sub (ws' := [(q0, .inr (13, [.ref q2, .ref q3, .ref q4, .ref q5, .ref q6, .ref q7, .ref q8, .ref q9, .int 0, .ref q10, .ref q11, .ref q12, .ref q13, .ref q14])), (q3, .inr (11, [.ref q15, .int 0, .int 1])), (q15, .inl (k0, 24, .inr (.inr (.inr (.inr (fun _ => none)))))), (q2, .inr (7, [.ref q16, .int 0]))]) [0, 1, 2, 3] (by decide) rfl
  have hKc := hK.sub (tys' := [(k0, (.object "Seekwell$Text"))]) [0] rfl
  have hFc := va_free (wc := [(q0, .inr (13, [.ref q2, .ref q3, .ref q4, .ref q5, .ref q6, .ref q7, .ref q8, .ref q9, .int 0, .ref q10, .ref q11, .ref q12, .ref q13, .ref q14])), (q3, .inr (11, [.ref q15, .int 0, .int 1])), (q15, .inl (k0, 24, .inr (.inr (.inr (.inr (fun _ => none)))))), (q2, .inr (7, [.ref q16, .int 0]))]) hD hS hA [0, 1, 2, 3] rfl
  refine va_calli (va_runV (As := [.int p1, .int p2]) (rest := [.int 0, .ref q1]) ⟨hx, hb, hml, hown, hts⟩ (c_X11_add_5 l dC dI q0 q2 q3 q4 q5 q6 q7 q8 q9 q10 q11 q12 q13 q14 q15 q16 k0 s.heap.size p1 p2 hc0 hc1 hc2 hc3 hc4 hc5) (cwV 2 hts gL_add_X11_add rfl rfl rfl (by decide +kernel) ⟨Nat.le_of_ble_eq_true rfl, Nat.le_of_ble_eq_true rfl⟩) ⟨zB_blind, va_recv hK hP (ci := 13) (q0 := 0) rfl rfl, (zPre hPc hDc hKc hS hFc hZ hN)⟩ rfl rfl hl.1 rfl (lv_room (Nat.le_of_ble_eq_true rfl)) dL_add_5 ⟨Nat.le_of_ble_eq_true rfl, Nat.le_of_ble_eq_true rfl⟩) hS (fun q _ h => hFc q h) hFc (fun r u t H1 locs ht hvm hw hB hz1 hk1 hS => ?_)
  subst hw
  obtain ⟨hP1, hK1, hD1⟩ := hB
  rw [ht] at hP1
  have hK1 := va_K.moved hvm.symm hK1
  obtain ⟨hP, hD⟩ := va_join (wr := [(q1, .inl (k1, 1, .inr (.inl (fun _ => 0))))]) (w1 := []) hP hD [0, 1, 2, 3] [4] rfl rfl (by decide) (by decide) hk1 hFc hP1 hD1
  have hK := (hK.sub (tys' := [(k1, .long)]) [1] rfl).app hK1
  generalize H1 = H at hP hS ⊢
  have hP : va_P (dC, dI) vwCl [(q1, .inl (k1, 1, .inr (.inl (fun _ => 0))))] H := hP
  have hD : va_D A [(q1, .inl (k1, 1, .inr (.inl (fun _ => 0))))] := hD
  have hK : va_K (dC, dI) vwCl [(k1, .long)] s := hK
  refine W.widen (k := 5) (n := 18) (Nat.le_of_ble_eq_true rfl) (Nat.le_of_ble_eq_true rfl) ?_
  refine lv_i2l (v := 0) hx hb dL_add_8 (by decide +kernel) ?_
  refine va_last (D := (dC, dI)) hx hb hK hP hD hS 0 0 rfl rfl (i := 0) (x := 0) (zin (by decide +kernel)) dL_add_9 (fun H locs hP hD hS => ?_)
  have hP : va_P (dC, dI) vwCl [(q1, .inl (k1, 1, .inr (.inl (vp_updL (fun _ => 0) (0 : Int32).toNatClampNeg 0))))] H := hP
  have hD : va_D A [(q1, .inl (k1, 1, .inr (.inl (vp_updL (fun _ => 0) (0 : Int32).toNatClampNeg 0))))] := hD
  refine lv_goto (tgt := 21) hx hb dL_add_10 (by decide) ?_
  refine lv_iconst (v := 0) hx hb dL_add_21 (by decide +kernel) ?_
  have hP9 := hP.sub (ws' := [(q1, .inl (k1, 1, .inr (.inl (vp_updL (fun _ => 0) (0 : Int32).toNatClampNeg 0))))]) [0] rfl
  have hD9 := hD.sub (ws' := [(q1, .inl (k1, 1, .inr (.inl (vp_updL (fun _ => 0) (0 : Int32).toNatClampNeg 0))))]) [0] (by decide) rfl
  have hK9 := hK.sub (tys' := [(k1, .long)]) [0] rfl
  exact W.iret (v := 0) hx hb hr (fun t ht hW => ⟨⟨0, (), rfl, rfl, ⟨by rw [ht]; exact hP9, va_K.moved hW.alike hK9, hD9⟩⟩, hS.F ht⟩) hS.2.2 dL_add_22
set_option maxHeartbeats 4000000 in
set_option maxRecDepth 100000 in
theorem c_X12_init (l : Launch) (dC : Nat → ClassId) (dI : Nat → Nat → Nat) (q0 : Nat) (sz : Nat) : Met l yX12_init wsX12_init ({ frames := 1, cells := 2, slots := 0, locals := 20 }) (va_Pc [.ref q0, .int 124] (zB (dC, dI) [] [(q0, .inr (14, [.int 0, .int 0, .int 0, .null, .int 0, .null, .int 0, .int 0]))] sz)) (va_Qv (fun (_ : Unit) => True) (fun _ t => ∃ q1 : Nat, ∃ q2 : Nat, ∃ k0 : ClassId, zE (dC, dI) [(k0, (.object "SeekwellModel$Node"))] [(q0, .inr (14, [.int 124, .int 0, .int 1, .ref q1, .int 97, .ref q2, .int 0, .int 0])), (q1, .inl (k0, 0, .inr (.inr (.inr (.inr (fun _ => none))))))] (va_A [(q0, .inr (14, [.int 0, .int 0, .int 0, .null, .int 0, .null, .int 0, .int 0]))] sz) t) (va_A [(q0, .inr (14, [.int 0, .int 0, .int 0, .null, .int 0, .null, .int 0, .int 0]))] sz)) 2 0 (va_A [(q0, .inr (14, [.int 0, .int 0, .int 0, .null, .int 0, .null, .int 0, .int 0]))] sz) := by
  refine Met.ofW (cc := cX12_init) (maxL := 2) (ret := none) (by decide) rfl ?_
  intro p e s m args below meth c s₁ B hml hv
  obtain ⟨rfl, hsz, hP, hK, hD0, hZ, hN⟩ := hv
  have hx := B.exec
  have hb := B.bytes
  have hr := B.returns
  have hts := atoms_spec (ws := wsX12_init) B.pre
  have hown : s.vm.findClass RX12 = some m.cls := findClass_of_methodNamed B.named
  have hlocks := B.notSynchronized
  have hin : meth.name = "<init>" := (name_of_methodNamed B.named B.method).1
  subst hsz
  have hD := hD0.self (sz := s.heap.size)
  generalize hAe : va_A [(q0, .inr (14, [.int 0, .int 0, .int 0, .null, .int 0, .null, .int 0, .int 0]))] s.heap.size = A at hD hZ ⊢
  have hA : ∀ q : Nat, s.heap.size ≤ q → A q := fun q h => by rw [← hAe]; exact Or.inr h
  have hS : va_S A s.heap s.heap [] := va_S.rf
  have hP : va_P (dC, dI) vwCl [(q0, .inr (14, [.int 0, .int 0, .int 0, .null, .int 0, .null, .int 0, .int 0]))] s.heap := hP
  have hl := lv_entry ([.ref q0, .int 124]) (n := 2) (Nat.le_of_ble_eq_true rfl)
  rw [lg_entry_eq]
  generalize (lg_sl ([.ref q0, .int 124]) ++ List.replicate (2 - (lg_sl ([.ref q0, .int 124])).length) Slot.unset).toArray = ls at hl ⊢
  have hl : lv_has ls 2 [(0, .ref q0), (1, .int 124)] := hl
  refine lv_aload_n hx hb dX12_init_0 rfl (lv_at hl 0 rfl) ?_
  refine z_objInit hx hb hown (hts (.methodLink RX12 1 objectInit) (by decide +kernel)) (hts (.instanceMethod objectInit) (by decide +kernel)) (hts (.code objectInit ⟨#[0xb1]⟩ 1 none) (by decide +kernel)) (hl.1.trans hml.symm) dX12_init_1 (Nat.le_of_ble_eq_true rfl) (Nat.le_of_ble_eq_true rfl) ?_
  refine lv_aload_n hx hb dX12_init_4 rfl (lv_at hl 0 rfl) ?_
  refine lv_iconst (v := 1) hx hb dX12_init_5 (by decide +kernel) ?_
  refine va_put (D := (dC, dI)) (ci := 14) (v := .int 1) (ty := .int) (C := RX12) (T := TX12) (N := 8) hx hb hts (fun _ h => List.mem_cons_of_mem _ (List.mem_append_right _ h)) tyX12 tyX12_ok nmX12 hown hK hP hD hS 0 rfl rfl 2 (by decide) (hts (.fieldLink RX12 7 "SeekwellModel$Node" "weight" "I") (by decide +kernel)) (fun _ h9 => h9) rfl (by decide +kernel) rfl rfl (Nat.le_of_ble_eq_true rfl) dX12_init_6 (fun H locs hP hD hS => ?_)
  have hP : va_P (dC, dI) vwCl [(q0, .inr (14, [.int 0, .int 0, .int 1, .null, .int 0, .null, .int 0, .int 0]))] H := hP
  have hD : va_D A [(q0, .inr (14, [.int 0, .int 0, .int 1, .null, .int 0, .null, .int 0, .int 0]))] := hD
  refine lv_aload_n hx hb dX12_init_9 rfl (lv_at hl 0 rfl) ?_
  refine lv_iconst (v := 0) hx hb dX12_init_10 (by decide +kernel) ?_
  refine va_newq (D := (dC, dI)) (C := "SeekwellModel$Node") (N' := 0) hx hb hown (hts (.classLink RX12 8 "SeekwellModel$Node") (by decide +kernel)) (hN.2.2.1 "SeekwellModel$Node" (by decide +kernel)) hK hP hD hS hA (by decide +kernel) (by decide +kernel) (Nat.le_of_ble_eq_true rfl) (Nat.le_of_ble_eq_true rfl) (Nat.le_of_ble_eq_true rfl) dX12_init_11 (fun q1 k0 H hK hP hD hS => ?_)
  have hP : va_P (dC, dI) vwCl [(q0, .inr (14, [.int 0, .int 0, .int 1, .null, .int 0, .null, .int 0, .int 0])), (q1, .inl (k0, 0, .inr (.inr (.inr (.inr (fun _ => none))))))] H := hP
  have hD : va_D A [(q0, .inr (14, [.int 0, .int 0, .int 1, .null, .int 0, .null, .int 0, .int 0])), (q1, .inl (k0, 0, .inr (.inr (.inr (.inr (fun _ => none))))))] := hD
  have hK : va_K (dC, dI) vwCl [(k0, (.object "SeekwellModel$Node"))] s := hK
  refine W.widen (k := 1) (n := 0) (Nat.le_of_ble_eq_true rfl) (Nat.le_of_ble_eq_true rfl) ?_
  refine va_put (D := (dC, dI)) (ci := 14) (v := .ref q1) (ty := (.array (.object "SeekwellModel$Node"))) (C := RX12) (T := TX12) (N := 8) hx hb hts (fun _ h => List.mem_cons_of_mem _ (List.mem_append_right _ h)) tyX12 tyX12_ok nmX12 hown hK hP hD hS 0 rfl rfl 3 (by decide) (hts (.fieldLink RX12 13 "SeekwellModel$Node" "rows" "[LSeekwellModel$Node;") (by decide +kernel)) (fun _ h9 => h9) rfl (by decide +kernel) rfl rfl (Nat.le_of_ble_eq_true rfl) dX12_init_14 (fun H locs hP hD hS => ?_)
  have hP : va_P (dC, dI) vwCl [(q0, .inr (14, [.int 0, .int 0, .int 1, .ref q1, .int 0, .null, .int 0, .int 0])), (q1, .inl (k0, 0, .inr (.inr (.inr (.inr (fun _ => none))))))] H := hP
  have hD : va_D A [(q0, .inr (14, [.int 0, .int 0, .int 1, .ref q1, .int 0, .null, .int 0, .int 0])), (q1, .inl (k0, 0, .inr (.inr (.inr (.inr (fun _ => none))))))] := hD
  refine lv_aload_n hx hb dX12_init_17 rfl (lv_at hl 0 rfl) ?_
  refine lv_bipush (v := 97) hx hb dX12_init_18 (by decide +kernel) ?_
  refine va_put (D := (dC, dI)) (ci := 14) (v := .int 97) (ty := .char) (C := RX12) (T := TX12) (N := 8) hx hb hts (fun _ h => List.mem_cons_of_mem _ (List.mem_append_right _ h)) tyX12 tyX12_ok nmX12 hown hK hP hD hS 0 rfl rfl 4 (by decide) (hts (.fieldLink RX12 17 "SeekwellModel$Node" "where" "C") (by decide +kernel)) (fun _ h9 => h9) rfl (by decide +kernel) rfl rfl (Nat.le_of_ble_eq_true rfl) dX12_init_20 (fun H locs hP hD hS => ?_)
  have hP : va_P (dC, dI) vwCl [(q0, .inr (14, [.int 0, .int 0, .int 1, .ref q1, .int 97, .null, .int 0, .int 0])), (q1, .inl (k0, 0, .inr (.inr (.inr (.inr (fun _ => none))))))] H := hP
  have hD : va_D A [(q0, .inr (14, [.int 0, .int 0, .int 1, .ref q1, .int 97, .null, .int 0, .int 0])), (q1, .inl (k0, 0, .inr (.inr (.inr (.inr (fun _ => none))))))] := hD
  refine lv_aload_n hx hb dX12_init_23 rfl (lv_at hl 0 rfl) ?_
  refine lv_iconst (v := 0) hx hb dX12_init_24 (by decide +kernel) ?_
  refine va_newa (D := (dC, dI)) (atype := .long) (ty := .long) (a0 := (0, .inr (.inl (fun _ => 0)))) (N' := 0) hx hb (hts (.arrayClass .long) (by decide +kernel)) rfl hK hP hD hS hA (fun _ => rfl) (by decide +kernel) (by decide +kernel) (Nat.le_of_ble_eq_true rfl) (Nat.le_of_ble_eq_true rfl) (Nat.le_of_ble_eq_true rfl) dX12_init_25 (fun q2 k1 H hK hP hD hS => ?_)
  have hP : va_P (dC, dI) vwCl [(q0, .inr (14, [.int 0, .int 0, .int 1, .ref q1, .int 97, .null, .int 0, .int 0])), (q1, .inl (k0, 0, .inr (.inr (.inr (.inr (fun _ => none)))))), (q2, .inl (k1, 0, .inr (.inl (fun _ => 0))))] H := hP
  have hD : va_D A [(q0, .inr (14, [.int 0, .int 0, .int 1, .ref q1, .int 97, .null, .int 0, .int 0])), (q1, .inl (k0, 0, .inr (.inr (.inr (.inr (fun _ => none)))))), (q2, .inl (k1, 0, .inr (.inl (fun _ => 0))))] := hD
  have hK : va_K (dC, dI) vwCl [(k0, (.object "SeekwellModel$Node")), (k1, .long)] s := hK
  refine W.widen (k := 2) (n := 0) (Nat.le_of_ble_eq_true rfl) (Nat.le_of_ble_eq_true rfl) ?_
  refine va_put (D := (dC, dI)) (ci := 14) (v := .ref q2) (ty := (.array .long)) (C := RX12) (T := TX12) (N := 8) hx hb hts (fun _ h => List.mem_cons_of_mem _ (List.mem_append_right _ h)) tyX12 tyX12_ok nmX12 hown hK hP hD hS 0 rfl rfl 5 (by decide) (hts (.fieldLink RX12 21 "SeekwellModel$Node" "words" "[J") (by decide +kernel)) (fun _ h9 => h9) rfl (by decide +kernel) rfl rfl (Nat.le_of_ble_eq_true rfl) dX12_init_27 (fun H locs hP hD hS => ?_)
  have hP : va_P (dC, dI) vwCl [(q0, .inr (14, [.int 0, .int 0, .int 1, .ref q1, .int 97, .ref q2, .int 0, .int 0])), (q1, .inl (k0, 0, .inr (.inr (.inr (.inr (fun _ => none)))))), (q2, .inl (k1, 0, .inr (.inl (fun _ => 0))))] H := hP
  have hD : va_D A [(q0, .inr (14, [.int 0, .int 0, .int 1, .ref q1, .int 97, .ref q2, .int 0, .int 0])), (q1, .inl (k0, 0, .inr (.inr (.inr (.inr (fun _ => none)))))), (q2, .inl (k1, 0, .inr (.inl (fun _ => 0))))] := hD
  refine lv_aload_n hx hb dX12_init_30 rfl (lv_at hl 0 rfl) ?_
  refine lv_iload_n hx hb dX12_init_31 rfl (lv_at hl 1 rfl) ?_
  refine va_putF (D := (dC, dI)) (ci := 14) (v := .int 124) (ty := .char) (C := RX12) (T := TX12) (N := 8) hx hb hts (fun _ h => List.mem_cons_of_mem _ (List.mem_append_right _ h)) tyX12 tyX12_ok nmX12 hown hK hP hD hS 0 rfl rfl 0 (by decide) (hts (.fieldLink RX12 25 "SeekwellModel$Node" "kind" "C") (by decide +kernel)) (fun _ h9 => h9) rfl hin rfl (by decide +kernel) rfl rfl (Nat.le_of_ble_eq_true rfl) dX12_init_32 (fun H locs hP hD hS => ?_)
  have hP : va_P (dC, dI) vwCl [(q0, .inr (14, [.int 124, .int 0, .int 1, .ref q1, .int 97, .ref q2, .int 0, .int 0])), (q1, .inl (k0, 0, .inr (.inr (.inr (.inr (fun _ => none)))))), (q2, .inl (k1, 0, .inr (.inl (fun _ => 0))))] H := hP
  have hD : va_D A [(q0, .inr (14, [.int 124, .int 0, .int 1, .ref q1, .int 97, .ref q2, .int 0, .int 0])), (q1, .inl (k0, 0, .inr (.inr (.inr (.inr (fun _ => none)))))), (q2, .inl (k1, 0, .inr (.inl (fun _ => 0))))] := hD
  have hP9 := hP.sub (ws' := [(q0, .inr (14, [.int 124, .int 0, .int 1, .ref q1, .int 97, .ref q2, .int 0, .int 0])), (q1, .inl (k0, 0, .inr (.inr (.inr (.inr (fun _ => none))))))]) [0, 1] rfl
  have hD9 := hD.sub (ws' := [(q0, .inr (14, [.int 124, .int 0, .int 1, .ref q1, .int 97, .ref q2, .int 0, .int 0])), (q1, .inl (k0, 0, .inr (.inr (.inr (.inr (fun _ => none))))))]) [0, 1] (by decide) rfl
  have hK9 := hK.sub (tys' := [(k0, (.object "SeekwellModel$Node"))]) [0] rfl
  exact W.vret hx hb hr (fun t ht hW => ⟨⟨(), rfl, trivial, q1, q2, k0, ⟨by rw [ht]; exact hP9, va_K.moved hW.alike hK9, hD9⟩⟩, hS.F ht⟩) hS.2.2 dX12_init_35
set_option maxHeartbeats 4000000 in
set_option maxRecDepth 100000 in
theorem c_X12_init_2 (l : Launch) (dC : Nat → ClassId) (dI : Nat → Nat → Nat) (q0 : Nat) (sz : Nat) : Met l yX12_init wsX12_init ({ frames := 1, cells := 2, slots := 0, locals := 20 }) (va_Pc [.ref q0, .int 38] (zB (dC, dI) [] [(q0, .inr (14, [.int 0, .int 0, .int 0, .null, .int 0, .null, .int 0, .int 0]))] sz)) (va_Qv (fun (_ : Unit) => True) (fun _ t => ∃ q1 : Nat, ∃ q2 : Nat, ∃ k0 : ClassId, zE (dC, dI) [(k0, (.object "SeekwellModel$Node"))] [(q0, .inr (14, [.int 38, .int 0, .int 1, .ref q1, .int 97, .ref q2, .int 0, .int 0])), (q1, .inl (k0, 0, .inr (.inr (.inr (.inr (fun _ => none))))))] (va_A [(q0, .inr (14, [.int 0, .int 0, .int 0, .null, .int 0, .null, .int 0, .int 0]))] sz) t) (va_A [(q0, .inr (14, [.int 0, .int 0, .int 0, .null, .int 0, .null, .int 0, .int 0]))] sz)) 2 0 (va_A [(q0, .inr (14, [.int 0, .int 0, .int 0, .null, .int 0, .null, .int 0, .int 0]))] sz) := by
  refine Met.ofW (cc := cX12_init) (maxL := 2) (ret := none) (by decide) rfl ?_
  intro p e s m args below meth c s₁ B hml hv
  obtain ⟨rfl, hsz, hP, hK, hD0, hZ, hN⟩ := hv
  have hx := B.exec
  have hb := B.bytes
  have hr := B.returns
  have hts := atoms_spec (ws := wsX12_init) B.pre
  have hown : s.vm.findClass RX12 = some m.cls := findClass_of_methodNamed B.named
  have hlocks := B.notSynchronized
  have hin : meth.name = "<init>" := (name_of_methodNamed B.named B.method).1
  subst hsz
  have hD := hD0.self (sz := s.heap.size)
  generalize hAe : va_A [(q0, .inr (14, [.int 0, .int 0, .int 0, .null, .int 0, .null, .int 0, .int 0]))] s.heap.size = A at hD hZ ⊢
  have hA : ∀ q : Nat, s.heap.size ≤ q → A q := fun q h => by rw [← hAe]; exact Or.inr h
  have hS : va_S A s.heap s.heap [] := va_S.rf
  have hP : va_P (dC, dI) vwCl [(q0, .inr (14, [.int 0, .int 0, .int 0, .null, .int 0, .null, .int 0, .int 0]))] s.heap := hP
  have hl := lv_entry ([.ref q0, .int 38]) (n := 2) (Nat.le_of_ble_eq_true rfl)
  rw [lg_entry_eq]
  generalize (lg_sl ([.ref q0, .int 38]) ++ List.replicate (2 - (lg_sl ([.ref q0, .int 38])).length) Slot.unset).toArray = ls at hl ⊢
  have hl : lv_has ls 2 [(0, .ref q0), (1, .int 38)] := hl
  refine lv_aload_n hx hb dX12_init_0 rfl (lv_at hl 0 rfl) ?_
  refine z_objInit hx hb hown (hts (.methodLink RX12 1 objectInit) (by decide +kernel)) (hts (.instanceMethod objectInit) (by decide +kernel)) (hts (.code objectInit ⟨#[0xb1]⟩ 1 none) (by decide +kernel)) (hl.1.trans hml.symm) dX12_init_1 (Nat.le_of_ble_eq_true rfl) (Nat.le_of_ble_eq_true rfl) ?_
  refine lv_aload_n hx hb dX12_init_4 rfl (lv_at hl 0 rfl) ?_
  refine lv_iconst (v := 1) hx hb dX12_init_5 (by decide +kernel) ?_
  refine va_put (D := (dC, dI)) (ci := 14) (v := .int 1) (ty := .int) (C := RX12) (T := TX12) (N := 8) hx hb hts (fun _ h => List.mem_cons_of_mem _ (List.mem_append_right _ h)) tyX12 tyX12_ok nmX12 hown hK hP hD hS 0 rfl rfl 2 (by decide) (hts (.fieldLink RX12 7 "SeekwellModel$Node" "weight" "I") (by decide +kernel)) (fun _ h9 => h9) rfl (by decide +kernel) rfl rfl (Nat.le_of_ble_eq_true rfl) dX12_init_6 (fun H locs hP hD hS => ?_)
  have hP : va_P (dC, dI) vwCl [(q0, .inr (14, [.int 0, .int 0, .int 1, .null, .int 0, .null, .int 0, .int 0]))] H := hP
  have hD : va_D A [(q0, .inr (14, [.int 0, .int 0, .int 1, .null, .int 0, .null, .int 0, .int 0]))] := hD
  refine lv_aload_n hx hb dX12_init_9 rfl (lv_at hl 0 rfl) ?_
  refine lv_iconst (v := 0) hx hb dX12_init_10 (by decide +kernel) ?_
  refine va_newq (D := (dC, dI)) (C := "SeekwellModel$Node") (N' := 0) hx hb hown (hts (.classLink RX12 8 "SeekwellModel$Node") (by decide +kernel)) (hN.2.2.1 "SeekwellModel$Node" (by decide +kernel)) hK hP hD hS hA (by decide +kernel) (by decide +kernel) (Nat.le_of_ble_eq_true rfl) (Nat.le_of_ble_eq_true rfl) (Nat.le_of_ble_eq_true rfl) dX12_init_11 (fun q1 k0 H hK hP hD hS => ?_)
  have hP : va_P (dC, dI) vwCl [(q0, .inr (14, [.int 0, .int 0, .int 1, .null, .int 0, .null, .int 0, .int 0])), (q1, .inl (k0, 0, .inr (.inr (.inr (.inr (fun _ => none))))))] H := hP
  have hD : va_D A [(q0, .inr (14, [.int 0, .int 0, .int 1, .null, .int 0, .null, .int 0, .int 0])), (q1, .inl (k0, 0, .inr (.inr (.inr (.inr (fun _ => none))))))] := hD
  have hK : va_K (dC, dI) vwCl [(k0, (.object "SeekwellModel$Node"))] s := hK
  refine W.widen (k := 1) (n := 0) (Nat.le_of_ble_eq_true rfl) (Nat.le_of_ble_eq_true rfl) ?_
  refine va_put (D := (dC, dI)) (ci := 14) (v := .ref q1) (ty := (.array (.object "SeekwellModel$Node"))) (C := RX12) (T := TX12) (N := 8) hx hb hts (fun _ h => List.mem_cons_of_mem _ (List.mem_append_right _ h)) tyX12 tyX12_ok nmX12 hown hK hP hD hS 0 rfl rfl 3 (by decide) (hts (.fieldLink RX12 13 "SeekwellModel$Node" "rows" "[LSeekwellModel$Node;") (by decide +kernel)) (fun _ h9 => h9) rfl (by decide +kernel) rfl rfl (Nat.le_of_ble_eq_true rfl) dX12_init_14 (fun H locs hP hD hS => ?_)
  have hP : va_P (dC, dI) vwCl [(q0, .inr (14, [.int 0, .int 0, .int 1, .ref q1, .int 0, .null, .int 0, .int 0])), (q1, .inl (k0, 0, .inr (.inr (.inr (.inr (fun _ => none))))))] H := hP
  have hD : va_D A [(q0, .inr (14, [.int 0, .int 0, .int 1, .ref q1, .int 0, .null, .int 0, .int 0])), (q1, .inl (k0, 0, .inr (.inr (.inr (.inr (fun _ => none))))))] := hD
  refine lv_aload_n hx hb dX12_init_17 rfl (lv_at hl 0 rfl) ?_
  refine lv_bipush (v := 97) hx hb dX12_init_18 (by decide +kernel) ?_
  refine va_put (D := (dC, dI)) (ci := 14) (v := .int 97) (ty := .char) (C := RX12) (T := TX12) (N := 8) hx hb hts (fun _ h => List.mem_cons_of_mem _ (List.mem_append_right _ h)) tyX12 tyX12_ok nmX12 hown hK hP hD hS 0 rfl rfl 4 (by decide) (hts (.fieldLink RX12 17 "SeekwellModel$Node" "where" "C") (by decide +kernel)) (fun _ h9 => h9) rfl (by decide +kernel) rfl rfl (Nat.le_of_ble_eq_true rfl) dX12_init_20 (fun H locs hP hD hS => ?_)
  have hP : va_P (dC, dI) vwCl [(q0, .inr (14, [.int 0, .int 0, .int 1, .ref q1, .int 97, .null, .int 0, .int 0])), (q1, .inl (k0, 0, .inr (.inr (.inr (.inr (fun _ => none))))))] H := hP
  have hD : va_D A [(q0, .inr (14, [.int 0, .int 0, .int 1, .ref q1, .int 97, .null, .int 0, .int 0])), (q1, .inl (k0, 0, .inr (.inr (.inr (.inr (fun _ => none))))))] := hD
  refine lv_aload_n hx hb dX12_init_23 rfl (lv_at hl 0 rfl) ?_
  refine lv_iconst (v := 0) hx hb dX12_init_24 (by decide +kernel) ?_
  refine va_newa (D := (dC, dI)) (atype := .long) (ty := .long) (a0 := (0, .inr (.inl (fun _ => 0)))) (N' := 0) hx hb (hts (.arrayClass .long) (by decide +kernel)) rfl hK hP hD hS hA (fun _ => rfl) (by decide +kernel) (by decide +kernel) (Nat.le_of_ble_eq_true rfl) (Nat.le_of_ble_eq_true rfl) (Nat.le_of_ble_eq_true rfl) dX12_init_25 (fun q2 k1 H hK hP hD hS => ?_)
  have hP : va_P (dC, dI) vwCl [(q0, .inr (14, [.int 0, .int 0, .int 1, .ref q1, .int 97, .null, .int 0, .int 0])), (q1, .inl (k0, 0, .inr (.inr (.inr (.inr (fun _ => none)))))), (q2, .inl (k1, 0, .inr (.inl (fun _ => 0))))] H := hP
  have hD : va_D A [(q0, .inr (14, [.int 0, .int 0, .int 1, .ref q1, .int 97, .null, .int 0, .int 0])), (q1, .inl (k0, 0, .inr (.inr (.inr (.inr (fun _ => none)))))), (q2, .inl (k1, 0, .inr (.inl (fun _ => 0))))] := hD
  have hK : va_K (dC, dI) vwCl [(k0, (.object "SeekwellModel$Node")), (k1, .long)] s := hK
  refine W.widen (k := 2) (n := 0) (Nat.le_of_ble_eq_true rfl) (Nat.le_of_ble_eq_true rfl) ?_
  refine va_put (D := (dC, dI)) (ci := 14) (v := .ref q2) (ty := (.array .long)) (C := RX12) (T := TX12) (N := 8) hx hb hts (fun _ h => List.mem_cons_of_mem _ (List.mem_append_right _ h)) tyX12 tyX12_ok nmX12 hown hK hP hD hS 0 rfl rfl 5 (by decide) (hts (.fieldLink RX12 21 "SeekwellModel$Node" "words" "[J") (by decide +kernel)) (fun _ h9 => h9) rfl (by decide +kernel) rfl rfl (Nat.le_of_ble_eq_true rfl) dX12_init_27 (fun H locs hP hD hS => ?_)
  have hP : va_P (dC, dI) vwCl [(q0, .inr (14, [.int 0, .int 0, .int 1, .ref q1, .int 97, .ref q2, .int 0, .int 0])), (q1, .inl (k0, 0, .inr (.inr (.inr (.inr (fun _ => none)))))), (q2, .inl (k1, 0, .inr (.inl (fun _ => 0))))] H := hP
  have hD : va_D A [(q0, .inr (14, [.int 0, .int 0, .int 1, .ref q1, .int 97, .ref q2, .int 0, .int 0])), (q1, .inl (k0, 0, .inr (.inr (.inr (.inr (fun _ => none)))))), (q2, .inl (k1, 0, .inr (.inl (fun _ => 0))))] := hD
  refine lv_aload_n hx hb dX12_init_30 rfl (lv_at hl 0 rfl) ?_
  refine lv_iload_n hx hb dX12_init_31 rfl (lv_at hl 1 rfl) ?_
  refine va_putF (D := (dC, dI)) (ci := 14) (v := .int 38) (ty := .char) (C := RX12) (T := TX12) (N := 8) hx hb hts (fun _ h => List.mem_cons_of_mem _ (List.mem_append_right _ h)) tyX12 tyX12_ok nmX12 hown hK hP hD hS 0 rfl rfl 0 (by decide) (hts (.fieldLink RX12 25 "SeekwellModel$Node" "kind" "C") (by decide +kernel)) (fun _ h9 => h9) rfl hin rfl (by decide +kernel) rfl rfl (Nat.le_of_ble_eq_true rfl) dX12_init_32 (fun H locs hP hD hS => ?_)
  have hP : va_P (dC, dI) vwCl [(q0, .inr (14, [.int 38, .int 0, .int 1, .ref q1, .int 97, .ref q2, .int 0, .int 0])), (q1, .inl (k0, 0, .inr (.inr (.inr (.inr (fun _ => none)))))), (q2, .inl (k1, 0, .inr (.inl (fun _ => 0))))] H := hP
  have hD : va_D A [(q0, .inr (14, [.int 38, .int 0, .int 1, .ref q1, .int 97, .ref q2, .int 0, .int 0])), (q1, .inl (k0, 0, .inr (.inr (.inr (.inr (fun _ => none)))))), (q2, .inl (k1, 0, .inr (.inl (fun _ => 0))))] := hD
  have hP9 := hP.sub (ws' := [(q0, .inr (14, [.int 38, .int 0, .int 1, .ref q1, .int 97, .ref q2, .int 0, .int 0])), (q1, .inl (k0, 0, .inr (.inr (.inr (.inr (fun _ => none))))))]) [0, 1] rfl
  have hD9 := hD.sub (ws' := [(q0, .inr (14, [.int 38, .int 0, .int 1, .ref q1, .int 97, .ref q2, .int 0, .int 0])), (q1, .inl (k0, 0, .inr (.inr (.inr (.inr (fun _ => none))))))]) [0, 1] (by decide) rfl
  have hK9 := hK.sub (tys' := [(k0, (.object "SeekwellModel$Node"))]) [0] rfl
  exact W.vret hx hb hr (fun t ht hW => ⟨⟨(), rfl, trivial, q1, q2, k0, ⟨by rw [ht]; exact hP9, va_K.moved hW.alike hK9, hD9⟩⟩, hS.F ht⟩) hS.2.2 dX12_init_35
set_option maxHeartbeats 4000000 in
set_option maxRecDepth 100000 in
theorem c_X13_is (l : Launch) (dC : Nat → ClassId) (dI : Nat → Nat → Nat) (q0 q1 q2 q3 q4 q5 q6 q7 q8 q9 q10 q11 q12 q13 q14 q15 q16 q17 q18 q19 : Nat) (sz : Nat) : Met l yX13_is wsX13_is ({ frames := 0, cells := 0, slots := 0, locals := 0 }) (va_Pc [.ref q0, .int 33] (zB (dC, dI) [] [(q0, .inr (15, [.ref q1, .ref q2, .ref q3, .ref q4, .ref q5, .ref q6, .int 0, .int 1, .ref q7, .int 0, .ref q8, .null, .ref q9, .null, .ref q10, .ref q11, .ref q12, .ref q13, .ref q14, .int 0, .ref q15, .ref q16, .ref q17, .ref q18, .ref q19, .int 0, .int (-1)]))] sz)) (va_Qi (fun (r : Int32) (_ : Unit) => 0 = r) (fun _ t => zE (dC, dI) [] [(q0, .inr (15, [.ref q1, .ref q2, .ref q3, .ref q4, .ref q5, .ref q6, .int 0, .int 1, .ref q7, .int 0, .ref q8, .null, .ref q9, .null, .ref q10, .ref q11, .ref q12, .ref q13, .ref q14, .int 0, .ref q15, .ref q16, .ref q17, .ref q18, .ref q19, .int 0, .int (-1)]))] (va_A [(q0, .inr (15, [.ref q1, .ref q2, .ref q3, .ref q4, .ref q5, .ref q6, .int 0, .int 1, .ref q7, .int 0, .ref q8, .null, .ref q9, .null, .ref q10, .ref q11, .ref q12, .ref q13, .ref q14, .int 0, .ref q15, .ref q16, .ref q17, .ref q18, .ref q19, .int 0, .int (-1)]))] sz) t) (va_A [(q0, .inr (15, [.ref q1, .ref q2, .ref q3, .ref q4, .ref q5, .ref q6, .int 0, .int 1, .ref q7, .int 0, .ref q8, .null, .ref q9, .null, .ref q10, .ref q11, .ref q12, .ref q13, .ref q14, .int 0, .ref q15, .ref q16, .ref q17, .ref q18, .ref q19, .int 0, .int (-1)]))] sz)) 0 0 (va_A [(q0, .inr (15, [.ref q1, .ref q2, .ref q3, .ref q4, .ref q5, .ref q6, .int 0, .int 1, .ref q7, .int 0, .ref q8, .null, .ref q9, .null, .ref q10, .ref q11, .ref q12, .ref q13, .ref q14, .int 0, .ref q15, .ref q16, .ref q17, .ref q18, .ref q19, .int 0, .int (-1)]))] sz) := by
  refine Met.ofW (cc := cX13_is) (maxL := 2) (ret := (some .boolean)) (by decide) rfl ?_
  intro p e s m args below meth c s₁ B hml hv
  obtain ⟨rfl, hsz, hP, hK, hD0, hZ, hN⟩ := hv
  have hx := B.exec
  have hb := B.bytes
  have hr := B.returns
  have hts := atoms_spec (ws := wsX13_is) B.pre
  have hown : s.vm.findClass RX13 = some m.cls := findClass_of_methodNamed B.named
  have hlocks := B.notSynchronized
  subst hsz
  have hD := hD0.self (sz := s.heap.size)
  generalize hAe : va_A [(q0, .inr (15, [.ref q1, .ref q2, .ref q3, .ref q4, .ref q5, .ref q6, .int 0, .int 1, .ref q7, .int 0, .ref q8, .null, .ref q9, .null, .ref q10, .ref q11, .ref q12, .ref q13, .ref q14, .int 0, .ref q15, .ref q16, .ref q17, .ref q18, .ref q19, .int 0, .int (-1)]))] s.heap.size = A at hD hZ ⊢
  have hA : ∀ q : Nat, s.heap.size ≤ q → A q := fun q h => by rw [← hAe]; exact Or.inr h
  have hS : va_S A s.heap s.heap [] := va_S.rf
  have hP : va_P (dC, dI) vwCl [(q0, .inr (15, [.ref q1, .ref q2, .ref q3, .ref q4, .ref q5, .ref q6, .int 0, .int 1, .ref q7, .int 0, .ref q8, .null, .ref q9, .null, .ref q10, .ref q11, .ref q12, .ref q13, .ref q14, .int 0, .ref q15, .ref q16, .ref q17, .ref q18, .ref q19, .int 0, .int (-1)]))] s.heap := hP
  have hl := lv_entry ([.ref q0, .int 33]) (n := 2) (Nat.le_of_ble_eq_true rfl)
  rw [lg_entry_eq]
  generalize (lg_sl ([.ref q0, .int 33]) ++ List.replicate (2 - (lg_sl ([.ref q0, .int 33])).length) Slot.unset).toArray = ls at hl ⊢
  have hl : lv_has ls 2 [(0, .ref q0), (1, .int 33)] := hl
  refine lv_aload_n hx hb dX13_is_0 rfl (lv_at hl 0 rfl) ?_
  refine va_get (D := (dC, dI)) (ci := 15) (v := .int 0) (C := RX13) (T := TX13) (N := 27) hx hb hts (fun _ h => List.mem_cons_of_mem _ (List.mem_append_left _ (List.mem_append_right _ h))) hown hK hP 0 rfl rfl 25 (by decide) (hts (.fieldLink RX13 210 "SeekwellModel" "at" "I") (by decide +kernel)) (fun _ h9 => h9) rfl dX13_is_1 ?_
  refine lv_aload_n hx hb dX13_is_4 rfl (lv_at hl 0 rfl) ?_
  refine va_get (D := (dC, dI)) (ci := 15) (v := .int 0) (C := RX13) (T := TX13) (N := 27) hx hb hts (fun _ h => List.mem_cons_of_mem _ (List.mem_append_left _ (List.mem_append_right _ h))) hown hK hP 0 rfl rfl 9 (by decide) (hts (.fieldLink RX13 132 "SeekwellModel" "typed" "I") (by decide +kernel)) (fun _ h9 => h9) rfl dX13_is_5 ?_
  refine lv_icmp_ge (tgt := 28) hx hb dX13_is_8 (by decide) (fun _ => ?_) (fun h9 => absurd (show (0 : Int32) ≤ (0 : Int32) by decide +kernel) h9)
  refine lv_iconst (v := 0) hx hb dX13_is_28 (by decide +kernel) ?_
  have hP9 := hP.sub (ws' := [(q0, .inr (15, [.ref q1, .ref q2, .ref q3, .ref q4, .ref q5, .ref q6, .int 0, .int 1, .ref q7, .int 0, .ref q8, .null, .ref q9, .null, .ref q10, .ref q11, .ref q12, .ref q13, .ref q14, .int 0, .ref q15, .ref q16, .ref q17, .ref q18, .ref q19, .int 0, .int (-1)]))]) [0] rfl
  have hD9 := hD.sub (ws' := [(q0, .inr (15, [.ref q1, .ref q2, .ref q3, .ref q4, .ref q5, .ref q6, .int 0, .int 1, .ref q7, .int 0, .ref q8, .null, .ref q9, .null, .ref q10, .ref q11, .ref q12, .ref q13, .ref q14, .int 0, .ref q15, .ref q16, .ref q17, .ref q18, .ref q19, .int 0, .int (-1)]))]) [0] (by decide) rfl
  have hK9 := hK.sub (tys' := []) [] rfl
  exact W.zret (v := 0) hx hb hr (by decide +kernel) (fun t ht hW => ⟨⟨0, (), rfl, rfl, ⟨by rw [ht]; exact hP9, va_K.moved hW.alike hK9, hD9⟩⟩, hS.F ht⟩) hS.2.2 dX13_is_29
set_option maxHeartbeats 4000000 in
set_option maxRecDepth 100000 in
theorem c_X13_is_2 (l : Launch) (dC : Nat → ClassId) (dI : Nat → Nat → Nat) (q0 q1 q2 q3 q4 q5 q6 q7 q8 q9 q10 q11 q12 q13 q14 q15 q16 q17 q18 q19 : Nat) (sz : Nat) : Met l yX13_is wsX13_is ({ frames := 0, cells := 0, slots := 0, locals := 0 }) (va_Pc [.ref q0, .int 40] (zB (dC, dI) [] [(q0, .inr (15, [.ref q1, .ref q2, .ref q3, .ref q4, .ref q5, .ref q6, .int 0, .int 1, .ref q7, .int 0, .ref q8, .null, .ref q9, .null, .ref q10, .ref q11, .ref q12, .ref q13, .ref q14, .int 0, .ref q15, .ref q16, .ref q17, .ref q18, .ref q19, .int 0, .int (-1)]))] sz)) (va_Qi (fun (r : Int32) (_ : Unit) => 0 = r) (fun _ t => zE (dC, dI) [] [(q0, .inr (15, [.ref q1, .ref q2, .ref q3, .ref q4, .ref q5, .ref q6, .int 0, .int 1, .ref q7, .int 0, .ref q8, .null, .ref q9, .null, .ref q10, .ref q11, .ref q12, .ref q13, .ref q14, .int 0, .ref q15, .ref q16, .ref q17, .ref q18, .ref q19, .int 0, .int (-1)]))] (va_A [(q0, .inr (15, [.ref q1, .ref q2, .ref q3, .ref q4, .ref q5, .ref q6, .int 0, .int 1, .ref q7, .int 0, .ref q8, .null, .ref q9, .null, .ref q10, .ref q11, .ref q12, .ref q13, .ref q14, .int 0, .ref q15, .ref q16, .ref q17, .ref q18, .ref q19, .int 0, .int (-1)]))] sz) t) (va_A [(q0, .inr (15, [.ref q1, .ref q2, .ref q3, .ref q4, .ref q5, .ref q6, .int 0, .int 1, .ref q7, .int 0, .ref q8, .null, .ref q9, .null, .ref q10, .ref q11, .ref q12, .ref q13, .ref q14, .int 0, .ref q15, .ref q16, .ref q17, .ref q18, .ref q19, .int 0, .int (-1)]))] sz)) 0 0 (va_A [(q0, .inr (15, [.ref q1, .ref q2, .ref q3, .ref q4, .ref q5, .ref q6, .int 0, .int 1, .ref q7, .int 0, .ref q8, .null, .ref q9, .null, .ref q10, .ref q11, .ref q12, .ref q13, .ref q14, .int 0, .ref q15, .ref q16, .ref q17, .ref q18, .ref q19, .int 0, .int (-1)]))] sz) := by
  refine Met.ofW (cc := cX13_is) (maxL := 2) (ret := (some .boolean)) (by decide) rfl ?_
  intro p e s m args below meth c s₁ B hml hv
  obtain ⟨rfl, hsz, hP, hK, hD0, hZ, hN⟩ := hv
  have hx := B.exec
  have hb := B.bytes
  have hr := B.returns
  have hts := atoms_spec (ws := wsX13_is) B.pre
  have hown : s.vm.findClass RX13 = some m.cls := findClass_of_methodNamed B.named
  have hlocks := B.notSynchronized
  subst hsz
  have hD := hD0.self (sz := s.heap.size)
  generalize hAe : va_A [(q0, .inr (15, [.ref q1, .ref q2, .ref q3, .ref q4, .ref q5, .ref q6, .int 0, .int 1, .ref q7, .int 0, .ref q8, .null, .ref q9, .null, .ref q10, .ref q11, .ref q12, .ref q13, .ref q14, .int 0, .ref q15, .ref q16, .ref q17, .ref q18, .ref q19, .int 0, .int (-1)]))] s.heap.size = A at hD hZ ⊢
  have hA : ∀ q : Nat, s.heap.size ≤ q → A q := fun q h => by rw [← hAe]; exact Or.inr h
  have hS : va_S A s.heap s.heap [] := va_S.rf
  have hP : va_P (dC, dI) vwCl [(q0, .inr (15, [.ref q1, .ref q2, .ref q3, .ref q4, .ref q5, .ref q6, .int 0, .int 1, .ref q7, .int 0, .ref q8, .null, .ref q9, .null, .ref q10, .ref q11, .ref q12, .ref q13, .ref q14, .int 0, .ref q15, .ref q16, .ref q17, .ref q18, .ref q19, .int 0, .int (-1)]))] s.heap := hP
  have hl := lv_entry ([.ref q0, .int 40]) (n := 2) (Nat.le_of_ble_eq_true rfl)
  rw [lg_entry_eq]
  generalize (lg_sl ([.ref q0, .int 40]) ++ List.replicate (2 - (lg_sl ([.ref q0, .int 40])).length) Slot.unset).toArray = ls at hl ⊢
  have hl : lv_has ls 2 [(0, .ref q0), (1, .int 40)] := hl
  refine lv_aload_n hx hb dX13_is_0 rfl (lv_at hl 0 rfl) ?_
  refine va_get (D := (dC, dI)) (ci := 15) (v := .int 0) (C := RX13) (T := TX13) (N := 27) hx hb hts (fun _ h => List.mem_cons_of_mem _ (List.mem_append_left _ (List.mem_append_right _ h))) hown hK hP 0 rfl rfl 25 (by decide) (hts (.fieldLink RX13 210 "SeekwellModel" "at" "I") (by decide +kernel)) (fun _ h9 => h9) rfl dX13_is_1 ?_
  refine lv_aload_n hx hb dX13_is_4 rfl (lv_at hl 0 rfl) ?_
  refine va_get (D := (dC, dI)) (ci := 15) (v := .int 0) (C := RX13) (T := TX13) (N := 27) hx hb hts (fun _ h => List.mem_cons_of_mem _ (List.mem_append_left _ (List.mem_append_right _ h))) hown hK hP 0 rfl rfl 9 (by decide) (hts (.fieldLink RX13 132 "SeekwellModel" "typed" "I") (by decide +kernel)) (fun _ h9 => h9) rfl dX13_is_5 ?_
  refine lv_icmp_ge (tgt := 28) hx hb dX13_is_8 (by decide) (fun _ => ?_) (fun h9 => absurd (show (0 : Int32) ≤ (0 : Int32) by decide +kernel) h9)
  refine lv_iconst (v := 0) hx hb dX13_is_28 (by decide +kernel) ?_
  have hP9 := hP.sub (ws' := [(q0, .inr (15, [.ref q1, .ref q2, .ref q3, .ref q4, .ref q5, .ref q6, .int 0, .int 1, .ref q7, .int 0, .ref q8, .null, .ref q9, .null, .ref q10, .ref q11, .ref q12, .ref q13, .ref q14, .int 0, .ref q15, .ref q16, .ref q17, .ref q18, .ref q19, .int 0, .int (-1)]))]) [0] rfl
  have hD9 := hD.sub (ws' := [(q0, .inr (15, [.ref q1, .ref q2, .ref q3, .ref q4, .ref q5, .ref q6, .int 0, .int 1, .ref q7, .int 0, .ref q8, .null, .ref q9, .null, .ref q10, .ref q11, .ref q12, .ref q13, .ref q14, .int 0, .ref q15, .ref q16, .ref q17, .ref q18, .ref q19, .int 0, .int (-1)]))]) [0] (by decide) rfl
  have hK9 := hK.sub (tys' := []) [] rfl
  exact W.zret (v := 0) hx hb hr (by decide +kernel) (fun t ht hW => ⟨⟨0, (), rfl, rfl, ⟨by rw [ht]; exact hP9, va_K.moved hW.alike hK9, hD9⟩⟩, hS.F ht⟩) hS.2.2 dX13_is_29
set_option maxHeartbeats 4000000 in
set_option maxRecDepth 100000 in
theorem c_X13_is_3 (l : Launch) (dC : Nat → ClassId) (dI : Nat → Nat → Nat) (q0 q1 q2 q3 q4 q5 q6 q7 q8 q9 q10 q11 q12 q13 q14 q15 q16 q17 q18 q19 : Nat) (sz : Nat) : Met l yX13_is wsX13_is ({ frames := 0, cells := 0, slots := 0, locals := 0 }) (va_Pc [.ref q0, .int 60] (zB (dC, dI) [] [(q0, .inr (15, [.ref q1, .ref q2, .ref q3, .ref q4, .ref q5, .ref q6, .int 0, .int 1, .ref q7, .int 0, .ref q8, .null, .ref q9, .null, .ref q10, .ref q11, .ref q12, .ref q13, .ref q14, .int 0, .ref q15, .ref q16, .ref q17, .ref q18, .ref q19, .int 0, .int (-1)]))] sz)) (va_Qi (fun (r : Int32) (_ : Unit) => 0 = r) (fun _ t => zE (dC, dI) [] [(q0, .inr (15, [.ref q1, .ref q2, .ref q3, .ref q4, .ref q5, .ref q6, .int 0, .int 1, .ref q7, .int 0, .ref q8, .null, .ref q9, .null, .ref q10, .ref q11, .ref q12, .ref q13, .ref q14, .int 0, .ref q15, .ref q16, .ref q17, .ref q18, .ref q19, .int 0, .int (-1)]))] (va_A [(q0, .inr (15, [.ref q1, .ref q2, .ref q3, .ref q4, .ref q5, .ref q6, .int 0, .int 1, .ref q7, .int 0, .ref q8, .null, .ref q9, .null, .ref q10, .ref q11, .ref q12, .ref q13, .ref q14, .int 0, .ref q15, .ref q16, .ref q17, .ref q18, .ref q19, .int 0, .int (-1)]))] sz) t) (va_A [(q0, .inr (15, [.ref q1, .ref q2, .ref q3, .ref q4, .ref q5, .ref q6, .int 0, .int 1, .ref q7, .int 0, .ref q8, .null, .ref q9, .null, .ref q10, .ref q11, .ref q12, .ref q13, .ref q14, .int 0, .ref q15, .ref q16, .ref q17, .ref q18, .ref q19, .int 0, .int (-1)]))] sz)) 0 0 (va_A [(q0, .inr (15, [.ref q1, .ref q2, .ref q3, .ref q4, .ref q5, .ref q6, .int 0, .int 1, .ref q7, .int 0, .ref q8, .null, .ref q9, .null, .ref q10, .ref q11, .ref q12, .ref q13, .ref q14, .int 0, .ref q15, .ref q16, .ref q17, .ref q18, .ref q19, .int 0, .int (-1)]))] sz) := by
  refine Met.ofW (cc := cX13_is) (maxL := 2) (ret := (some .boolean)) (by decide) rfl ?_
  intro p e s m args below meth c s₁ B hml hv
  obtain ⟨rfl, hsz, hP, hK, hD0, hZ, hN⟩ := hv
  have hx := B.exec
  have hb := B.bytes
  have hr := B.returns
  have hts := atoms_spec (ws := wsX13_is) B.pre
  have hown : s.vm.findClass RX13 = some m.cls := findClass_of_methodNamed B.named
  have hlocks := B.notSynchronized
  subst hsz
  have hD := hD0.self (sz := s.heap.size)
  generalize hAe : va_A [(q0, .inr (15, [.ref q1, .ref q2, .ref q3, .ref q4, .ref q5, .ref q6, .int 0, .int 1, .ref q7, .int 0, .ref q8, .null, .ref q9, .null, .ref q10, .ref q11, .ref q12, .ref q13, .ref q14, .int 0, .ref q15, .ref q16, .ref q17, .ref q18, .ref q19, .int 0, .int (-1)]))] s.heap.size = A at hD hZ ⊢
  have hA : ∀ q : Nat, s.heap.size ≤ q → A q := fun q h => by rw [← hAe]; exact Or.inr h
  have hS : va_S A s.heap s.heap [] := va_S.rf
  have hP : va_P (dC, dI) vwCl [(q0, .inr (15, [.ref q1, .ref q2, .ref q3, .ref q4, .ref q5, .ref q6, .int 0, .int 1, .ref q7, .int 0, .ref q8, .null, .ref q9, .null, .ref q10, .ref q11, .ref q12, .ref q13, .ref q14, .int 0, .ref q15, .ref q16, .ref q17, .ref q18, .ref q19, .int 0, .int (-1)]))] s.heap := hP
  have hl := lv_entry ([.ref q0, .int 60]) (n := 2) (Nat.le_of_ble_eq_true rfl)
  rw [lg_entry_eq]
  generalize (lg_sl ([.ref q0, .int 60]) ++ List.replicate (2 - (lg_sl ([.ref q0, .int 60])).length) Slot.unset).toArray = ls at hl ⊢
  have hl : lv_has ls 2 [(0, .ref q0), (1, .int 60)] := hl
  refine lv_aload_n hx hb dX13_is_0 rfl (lv_at hl 0 rfl) ?_
  refine va_get (D := (dC, dI)) (ci := 15) (v := .int 0) (C := RX13) (T := TX13) (N := 27) hx hb hts (fun _ h => List.mem_cons_of_mem _ (List.mem_append_left _ (List.mem_append_right _ h))) hown hK hP 0 rfl rfl 25 (by decide) (hts (.fieldLink RX13 210 "SeekwellModel" "at" "I") (by decide +kernel)) (fun _ h9 => h9) rfl dX13_is_1 ?_
  refine lv_aload_n hx hb dX13_is_4 rfl (lv_at hl 0 rfl) ?_
  refine va_get (D := (dC, dI)) (ci := 15) (v := .int 0) (C := RX13) (T := TX13) (N := 27) hx hb hts (fun _ h => List.mem_cons_of_mem _ (List.mem_append_left _ (List.mem_append_right _ h))) hown hK hP 0 rfl rfl 9 (by decide) (hts (.fieldLink RX13 132 "SeekwellModel" "typed" "I") (by decide +kernel)) (fun _ h9 => h9) rfl dX13_is_5 ?_
  refine lv_icmp_ge (tgt := 28) hx hb dX13_is_8 (by decide) (fun _ => ?_) (fun h9 => absurd (show (0 : Int32) ≤ (0 : Int32) by decide +kernel) h9)
  refine lv_iconst (v := 0) hx hb dX13_is_28 (by decide +kernel) ?_
  have hP9 := hP.sub (ws' := [(q0, .inr (15, [.ref q1, .ref q2, .ref q3, .ref q4, .ref q5, .ref q6, .int 0, .int 1, .ref q7, .int 0, .ref q8, .null, .ref q9, .null, .ref q10, .ref q11, .ref q12, .ref q13, .ref q14, .int 0, .ref q15, .ref q16, .ref q17, .ref q18, .ref q19, .int 0, .int (-1)]))]) [0] rfl
  have hD9 := hD.sub (ws' := [(q0, .inr (15, [.ref q1, .ref q2, .ref q3, .ref q4, .ref q5, .ref q6, .int 0, .int 1, .ref q7, .int 0, .ref q8, .null, .ref q9, .null, .ref q10, .ref q11, .ref q12, .ref q13, .ref q14, .int 0, .ref q15, .ref q16, .ref q17, .ref q18, .ref q19, .int 0, .int (-1)]))]) [0] (by decide) rfl
  have hK9 := hK.sub (tys' := []) [] rfl
  exact W.zret (v := 0) hx hb hr (by decide +kernel) (fun t ht hW => ⟨⟨0, (), rfl, rfl, ⟨by rw [ht]; exact hP9, va_K.moved hW.alike hK9, hD9⟩⟩, hS.F ht⟩) hS.2.2 dX13_is_29
set_option maxHeartbeats 4000000 in
set_option maxRecDepth 100000 in
theorem c_X13_is_4 (l : Launch) (dC : Nat → ClassId) (dI : Nat → Nat → Nat) (q0 q1 q2 q3 q4 q5 q6 q7 q8 q9 q10 q11 q12 q13 q14 q15 q16 q17 q18 q19 : Nat) (sz : Nat) : Met l yX13_is wsX13_is ({ frames := 0, cells := 0, slots := 0, locals := 0 }) (va_Pc [.ref q0, .int 62] (zB (dC, dI) [] [(q0, .inr (15, [.ref q1, .ref q2, .ref q3, .ref q4, .ref q5, .ref q6, .int 0, .int 1, .ref q7, .int 0, .ref q8, .null, .ref q9, .null, .ref q10, .ref q11, .ref q12, .ref q13, .ref q14, .int 0, .ref q15, .ref q16, .ref q17, .ref q18, .ref q19, .int 0, .int (-1)]))] sz)) (va_Qi (fun (r : Int32) (_ : Unit) => 0 = r) (fun _ t => zE (dC, dI) [] [(q0, .inr (15, [.ref q1, .ref q2, .ref q3, .ref q4, .ref q5, .ref q6, .int 0, .int 1, .ref q7, .int 0, .ref q8, .null, .ref q9, .null, .ref q10, .ref q11, .ref q12, .ref q13, .ref q14, .int 0, .ref q15, .ref q16, .ref q17, .ref q18, .ref q19, .int 0, .int (-1)]))] (va_A [(q0, .inr (15, [.ref q1, .ref q2, .ref q3, .ref q4, .ref q5, .ref q6, .int 0, .int 1, .ref q7, .int 0, .ref q8, .null, .ref q9, .null, .ref q10, .ref q11, .ref q12, .ref q13, .ref q14, .int 0, .ref q15, .ref q16, .ref q17, .ref q18, .ref q19, .int 0, .int (-1)]))] sz) t) (va_A [(q0, .inr (15, [.ref q1, .ref q2, .ref q3, .ref q4, .ref q5, .ref q6, .int 0, .int 1, .ref q7, .int 0, .ref q8, .null, .ref q9, .null, .ref q10, .ref q11, .ref q12, .ref q13, .ref q14, .int 0, .ref q15, .ref q16, .ref q17, .ref q18, .ref q19, .int 0, .int (-1)]))] sz)) 0 0 (va_A [(q0, .inr (15, [.ref q1, .ref q2, .ref q3, .ref q4, .ref q5, .ref q6, .int 0, .int 1, .ref q7, .int 0, .ref q8, .null, .ref q9, .null, .ref q10, .ref q11, .ref q12, .ref q13, .ref q14, .int 0, .ref q15, .ref q16, .ref q17, .ref q18, .ref q19, .int 0, .int (-1)]))] sz) := by
  refine Met.ofW (cc := cX13_is) (maxL := 2) (ret := (some .boolean)) (by decide) rfl ?_
  intro p e s m args below meth c s₁ B hml hv
  obtain ⟨rfl, hsz, hP, hK, hD0, hZ, hN⟩ := hv
  have hx := B.exec
  have hb := B.bytes
  have hr := B.returns
  have hts := atoms_spec (ws := wsX13_is) B.pre
  have hown : s.vm.findClass RX13 = some m.cls := findClass_of_methodNamed B.named
  have hlocks := B.notSynchronized
  subst hsz
  have hD := hD0.self (sz := s.heap.size)
  generalize hAe : va_A [(q0, .inr (15, [.ref q1, .ref q2, .ref q3, .ref q4, .ref q5, .ref q6, .int 0, .int 1, .ref q7, .int 0, .ref q8, .null, .ref q9, .null, .ref q10, .ref q11, .ref q12, .ref q13, .ref q14, .int 0, .ref q15, .ref q16, .ref q17, .ref q18, .ref q19, .int 0, .int (-1)]))] s.heap.size = A at hD hZ ⊢
  have hA : ∀ q : Nat, s.heap.size ≤ q → A q := fun q h => by rw [← hAe]; exact Or.inr h
  have hS : va_S A s.heap s.heap [] := va_S.rf
  have hP : va_P (dC, dI) vwCl [(q0, .inr (15, [.ref q1, .ref q2, .ref q3, .ref q4, .ref q5, .ref q6, .int 0, .int 1, .ref q7, .int 0, .ref q8, .null, .ref q9, .null, .ref q10, .ref q11, .ref q12, .ref q13, .ref q14, .int 0, .ref q15, .ref q16, .ref q17, .ref q18, .ref q19, .int 0, .int (-1)]))] s.heap := hP
  have hl := lv_entry ([.ref q0, .int 62]) (n := 2) (Nat.le_of_ble_eq_true rfl)
  rw [lg_entry_eq]
  generalize (lg_sl ([.ref q0, .int 62]) ++ List.replicate (2 - (lg_sl ([.ref q0, .int 62])).length) Slot.unset).toArray = ls at hl ⊢
  have hl : lv_has ls 2 [(0, .ref q0), (1, .int 62)] := hl
  refine lv_aload_n hx hb dX13_is_0 rfl (lv_at hl 0 rfl) ?_
  refine va_get (D := (dC, dI)) (ci := 15) (v := .int 0) (C := RX13) (T := TX13) (N := 27) hx hb hts (fun _ h => List.mem_cons_of_mem _ (List.mem_append_left _ (List.mem_append_right _ h))) hown hK hP 0 rfl rfl 25 (by decide) (hts (.fieldLink RX13 210 "SeekwellModel" "at" "I") (by decide +kernel)) (fun _ h9 => h9) rfl dX13_is_1 ?_
  refine lv_aload_n hx hb dX13_is_4 rfl (lv_at hl 0 rfl) ?_
  refine va_get (D := (dC, dI)) (ci := 15) (v := .int 0) (C := RX13) (T := TX13) (N := 27) hx hb hts (fun _ h => List.mem_cons_of_mem _ (List.mem_append_left _ (List.mem_append_right _ h))) hown hK hP 0 rfl rfl 9 (by decide) (hts (.fieldLink RX13 132 "SeekwellModel" "typed" "I") (by decide +kernel)) (fun _ h9 => h9) rfl dX13_is_5 ?_
  refine lv_icmp_ge (tgt := 28) hx hb dX13_is_8 (by decide) (fun _ => ?_) (fun h9 => absurd (show (0 : Int32) ≤ (0 : Int32) by decide +kernel) h9)
  refine lv_iconst (v := 0) hx hb dX13_is_28 (by decide +kernel) ?_
  have hP9 := hP.sub (ws' := [(q0, .inr (15, [.ref q1, .ref q2, .ref q3, .ref q4, .ref q5, .ref q6, .int 0, .int 1, .ref q7, .int 0, .ref q8, .null, .ref q9, .null, .ref q10, .ref q11, .ref q12, .ref q13, .ref q14, .int 0, .ref q15, .ref q16, .ref q17, .ref q18, .ref q19, .int 0, .int (-1)]))]) [0] rfl
  have hD9 := hD.sub (ws' := [(q0, .inr (15, [.ref q1, .ref q2, .ref q3, .ref q4, .ref q5, .ref q6, .int 0, .int 1, .ref q7, .int 0, .ref q8, .null, .ref q9, .null, .ref q10, .ref q11, .ref q12, .ref q13, .ref q14, .int 0, .ref q15, .ref q16, .ref q17, .ref q18, .ref q19, .int 0, .int (-1)]))]) [0] (by decide) rfl
  have hK9 := hK.sub (tys' := []) [] rfl
  exact W.zret (v := 0) hx hb hr (by decide +kernel) (fun t ht hW => ⟨⟨0, (), rfl, rfl, ⟨by rw [ht]; exact hP9, va_K.moved hW.alike hK9, hD9⟩⟩, hS.F ht⟩) hS.2.2 dX13_is_29
set_option maxHeartbeats 4000000 in
set_option maxRecDepth 100000 in
theorem c_X13_is_5 (l : Launch) (dC : Nat → ClassId) (dI : Nat → Nat → Nat) (q0 q1 q2 q3 q4 q5 q6 q7 q8 q9 q10 q11 q12 q13 q14 q15 q16 q17 q18 q19 : Nat) (sz : Nat) : Met l yX13_is wsX13_is ({ frames := 0, cells := 0, slots := 0, locals := 0 }) (va_Pc [.ref q0, .int 34] (zB (dC, dI) [] [(q0, .inr (15, [.ref q1, .ref q2, .ref q3, .ref q4, .ref q5, .ref q6, .int 0, .int 1, .ref q7, .int 0, .ref q8, .null, .ref q9, .null, .ref q10, .ref q11, .ref q12, .ref q13, .ref q14, .int 0, .ref q15, .ref q16, .ref q17, .ref q18, .ref q19, .int 0, .int (-1)]))] sz)) (va_Qi (fun (r : Int32) (_ : Unit) => 0 = r) (fun _ t => zE (dC, dI) [] [(q0, .inr (15, [.ref q1, .ref q2, .ref q3, .ref q4, .ref q5, .ref q6, .int 0, .int 1, .ref q7, .int 0, .ref q8, .null, .ref q9, .null, .ref q10, .ref q11, .ref q12, .ref q13, .ref q14, .int 0, .ref q15, .ref q16, .ref q17, .ref q18, .ref q19, .int 0, .int (-1)]))] (va_A [(q0, .inr (15, [.ref q1, .ref q2, .ref q3, .ref q4, .ref q5, .ref q6, .int 0, .int 1, .ref q7, .int 0, .ref q8, .null, .ref q9, .null, .ref q10, .ref q11, .ref q12, .ref q13, .ref q14, .int 0, .ref q15, .ref q16, .ref q17, .ref q18, .ref q19, .int 0, .int (-1)]))] sz) t) (va_A [(q0, .inr (15, [.ref q1, .ref q2, .ref q3, .ref q4, .ref q5, .ref q6, .int 0, .int 1, .ref q7, .int 0, .ref q8, .null, .ref q9, .null, .ref q10, .ref q11, .ref q12, .ref q13, .ref q14, .int 0, .ref q15, .ref q16, .ref q17, .ref q18, .ref q19, .int 0, .int (-1)]))] sz)) 0 0 (va_A [(q0, .inr (15, [.ref q1, .ref q2, .ref q3, .ref q4, .ref q5, .ref q6, .int 0, .int 1, .ref q7, .int 0, .ref q8, .null, .ref q9, .null, .ref q10, .ref q11, .ref q12, .ref q13, .ref q14, .int 0, .ref q15, .ref q16, .ref q17, .ref q18, .ref q19, .int 0, .int (-1)]))] sz) := by
  refine Met.ofW (cc := cX13_is) (maxL := 2) (ret := (some .boolean)) (by decide) rfl ?_
  intro p e s m args below meth c s₁ B hml hv
  obtain ⟨rfl, hsz, hP, hK, hD0, hZ, hN⟩ := hv
  have hx := B.exec
  have hb := B.bytes
  have hr := B.returns
  have hts := atoms_spec (ws := wsX13_is) B.pre
  have hown : s.vm.findClass RX13 = some m.cls := findClass_of_methodNamed B.named
  have hlocks := B.notSynchronized
  subst hsz
  have hD := hD0.self (sz := s.heap.size)
  generalize hAe : va_A [(q0, .inr (15, [.ref q1, .ref q2, .ref q3, .ref q4, .ref q5, .ref q6, .int 0, .int 1, .ref q7, .int 0, .ref q8, .null, .ref q9, .null, .ref q10, .ref q11, .ref q12, .ref q13, .ref q14, .int 0, .ref q15, .ref q16, .ref q17, .ref q18, .ref q19, .int 0, .int (-1)]))] s.heap.size = A at hD hZ ⊢
  have hA : ∀ q : Nat, s.heap.size ≤ q → A q := fun q h => by rw [← hAe]; exact Or.inr h
  have hS : va_S A s.heap s.heap [] := va_S.rf
  have hP : va_P (dC, dI) vwCl [(q0, .inr (15, [.ref q1, .ref q2, .ref q3, .ref q4, .ref q5, .ref q6, .int 0, .int 1, .ref q7, .int 0, .ref q8, .null, .ref q9, .null, .ref q10, .ref q11, .ref q12, .ref q13, .ref q14, .int 0, .ref q15, .ref q16, .ref q17, .ref q18, .ref q19, .int 0, .int (-1)]))] s.heap := hP
  have hl := lv_entry ([.ref q0, .int 34]) (n := 2) (Nat.le_of_ble_eq_true rfl)
  rw [lg_entry_eq]
  generalize (lg_sl ([.ref q0, .int 34]) ++ List.replicate (2 - (lg_sl ([.ref q0, .int 34])).length) Slot.unset).toArray = ls at hl ⊢
  have hl : lv_has ls 2 [(0, .ref q0), (1, .int 34)] := hl
  refine lv_aload_n hx hb dX13_is_0 rfl (lv_at hl 0 rfl) ?_
  refine va_get (D := (dC, dI)) (ci := 15) (v := .int 0) (C := RX13) (T := TX13) (N := 27) hx hb hts (fun _ h => List.mem_cons_of_mem _ (List.mem_append_left _ (List.mem_append_right _ h))) hown hK hP 0 rfl rfl 25 (by decide) (hts (.fieldLink RX13 210 "SeekwellModel" "at" "I") (by decide +kernel)) (fun _ h9 => h9) rfl dX13_is_1 ?_
  refine lv_aload_n hx hb dX13_is_4 rfl (lv_at hl 0 rfl) ?_
  refine va_get (D := (dC, dI)) (ci := 15) (v := .int 0) (C := RX13) (T := TX13) (N := 27) hx hb hts (fun _ h => List.mem_cons_of_mem _ (List.mem_append_left _ (List.mem_append_right _ h))) hown hK hP 0 rfl rfl 9 (by decide) (hts (.fieldLink RX13 132 "SeekwellModel" "typed" "I") (by decide +kernel)) (fun _ h9 => h9) rfl dX13_is_5 ?_
  refine lv_icmp_ge (tgt := 28) hx hb dX13_is_8 (by decide) (fun _ => ?_) (fun h9 => absurd (show (0 : Int32) ≤ (0 : Int32) by decide +kernel) h9)
  refine lv_iconst (v := 0) hx hb dX13_is_28 (by decide +kernel) ?_
  have hP9 := hP.sub (ws' := [(q0, .inr (15, [.ref q1, .ref q2, .ref q3, .ref q4, .ref q5, .ref q6, .int 0, .int 1, .ref q7, .int 0, .ref q8, .null, .ref q9, .null, .ref q10, .ref q11, .ref q12, .ref q13, .ref q14, .int 0, .ref q15, .ref q16, .ref q17, .ref q18, .ref q19, .int 0, .int (-1)]))]) [0] rfl
  have hD9 := hD.sub (ws' := [(q0, .inr (15, [.ref q1, .ref q2, .ref q3, .ref q4, .ref q5, .ref q6, .int 0, .int 1, .ref q7, .int 0, .ref q8, .null, .ref q9, .null, .ref q10, .ref q11, .ref q12, .ref q13, .ref q14, .int 0, .ref q15, .ref q16, .ref q17, .ref q18, .ref q19, .int 0, .int (-1)]))]) [0] (by decide) rfl
  have hK9 := hK.sub (tys' := []) [] rfl
  exact W.zret (v := 0) hx hb hr (by decide +kernel) (fun t ht hW => ⟨⟨0, (), rfl, rfl, ⟨by rw [ht]; exact hP9, va_K.moved hW.alike hK9, hD9⟩⟩, hS.F ht⟩) hS.2.2 dX13_is_29
set_option maxHeartbeats 4000000 in
set_option maxRecDepth 100000 in
theorem c_X13_is_6 (l : Launch) (dC : Nat → ClassId) (dI : Nat → Nat → Nat) (q0 q1 q2 q3 q4 q5 q6 q7 q8 q9 q10 q11 q12 q13 q14 q15 q16 q17 q18 q19 : Nat) (sz : Nat) : Met l yX13_is wsX13_is ({ frames := 0, cells := 0, slots := 0, locals := 0 }) (va_Pc [.ref q0, .int 123] (zB (dC, dI) [] [(q0, .inr (15, [.ref q1, .ref q2, .ref q3, .ref q4, .ref q5, .ref q6, .int 0, .int 1, .ref q7, .int 0, .ref q8, .null, .ref q9, .null, .ref q10, .ref q11, .ref q12, .ref q13, .ref q14, .int 0, .ref q15, .ref q16, .ref q17, .ref q18, .ref q19, .int 0, .int (-1)]))] sz)) (va_Qi (fun (r : Int32) (_ : Unit) => 0 = r) (fun _ t => zE (dC, dI) [] [(q0, .inr (15, [.ref q1, .ref q2, .ref q3, .ref q4, .ref q5, .ref q6, .int 0, .int 1, .ref q7, .int 0, .ref q8, .null, .ref q9, .null, .ref q10, .ref q11, .ref q12, .ref q13, .ref q14, .int 0, .ref q15, .ref q16, .ref q17, .ref q18, .ref q19, .int 0, .int (-1)]))] (va_A [(q0, .inr (15, [.ref q1, .ref q2, .ref q3, .ref q4, .ref q5, .ref q6, .int 0, .int 1, .ref q7, .int 0, .ref q8, .null, .ref q9, .null, .ref q10, .ref q11, .ref q12, .ref q13, .ref q14, .int 0, .ref q15, .ref q16, .ref q17, .ref q18, .ref q19, .int 0, .int (-1)]))] sz) t) (va_A [(q0, .inr (15, [.ref q1, .ref q2, .ref q3, .ref q4, .ref q5, .ref q6, .int 0, .int 1, .ref q7, .int 0, .ref q8, .null, .ref q9, .null, .ref q10, .ref q11, .ref q12, .ref q13, .ref q14, .int 0, .ref q15, .ref q16, .ref q17, .ref q18, .ref q19, .int 0, .int (-1)]))] sz)) 0 0 (va_A [(q0, .inr (15, [.ref q1, .ref q2, .ref q3, .ref q4, .ref q5, .ref q6, .int 0, .int 1, .ref q7, .int 0, .ref q8, .null, .ref q9, .null, .ref q10, .ref q11, .ref q12, .ref q13, .ref q14, .int 0, .ref q15, .ref q16, .ref q17, .ref q18, .ref q19, .int 0, .int (-1)]))] sz) := by
  refine Met.ofW (cc := cX13_is) (maxL := 2) (ret := (some .boolean)) (by decide) rfl ?_
  intro p e s m args below meth c s₁ B hml hv
  obtain ⟨rfl, hsz, hP, hK, hD0, hZ, hN⟩ := hv
  have hx := B.exec
  have hb := B.bytes
  have hr := B.returns
  have hts := atoms_spec (ws := wsX13_is) B.pre
  have hown : s.vm.findClass RX13 = some m.cls := findClass_of_methodNamed B.named
  have hlocks := B.notSynchronized
  subst hsz
  have hD := hD0.self (sz := s.heap.size)
  generalize hAe : va_A [(q0, .inr (15, [.ref q1, .ref q2, .ref q3, .ref q4, .ref q5, .ref q6, .int 0, .int 1, .ref q7, .int 0, .ref q8, .null, .ref q9, .null, .ref q10, .ref q11, .ref q12, .ref q13, .ref q14, .int 0, .ref q15, .ref q16, .ref q17, .ref q18, .ref q19, .int 0, .int (-1)]))] s.heap.size = A at hD hZ ⊢
  have hA : ∀ q : Nat, s.heap.size ≤ q → A q := fun q h => by rw [← hAe]; exact Or.inr h
  have hS : va_S A s.heap s.heap [] := va_S.rf
  have hP : va_P (dC, dI) vwCl [(q0, .inr (15, [.ref q1, .ref q2, .ref q3, .ref q4, .ref q5, .ref q6, .int 0, .int 1, .ref q7, .int 0, .ref q8, .null, .ref q9, .null, .ref q10, .ref q11, .ref q12, .ref q13, .ref q14, .int 0, .ref q15, .ref q16, .ref q17, .ref q18, .ref q19, .int 0, .int (-1)]))] s.heap := hP
  have hl := lv_entry ([.ref q0, .int 123]) (n := 2) (Nat.le_of_ble_eq_true rfl)
  rw [lg_entry_eq]
  generalize (lg_sl ([.ref q0, .int 123]) ++ List.replicate (2 - (lg_sl ([.ref q0, .int 123])).length) Slot.unset).toArray = ls at hl ⊢
  have hl : lv_has ls 2 [(0, .ref q0), (1, .int 123)] := hl
  refine lv_aload_n hx hb dX13_is_0 rfl (lv_at hl 0 rfl) ?_
  refine va_get (D := (dC, dI)) (ci := 15) (v := .int 0) (C := RX13) (T := TX13) (N := 27) hx hb hts (fun _ h => List.mem_cons_of_mem _ (List.mem_append_left _ (List.mem_append_right _ h))) hown hK hP 0 rfl rfl 25 (by decide) (hts (.fieldLink RX13 210 "SeekwellModel" "at" "I") (by decide +kernel)) (fun _ h9 => h9) rfl dX13_is_1 ?_
  refine lv_aload_n hx hb dX13_is_4 rfl (lv_at hl 0 rfl) ?_
  refine va_get (D := (dC, dI)) (ci := 15) (v := .int 0) (C := RX13) (T := TX13) (N := 27) hx hb hts (fun _ h => List.mem_cons_of_mem _ (List.mem_append_left _ (List.mem_append_right _ h))) hown hK hP 0 rfl rfl 9 (by decide) (hts (.fieldLink RX13 132 "SeekwellModel" "typed" "I") (by decide +kernel)) (fun _ h9 => h9) rfl dX13_is_5 ?_
  refine lv_icmp_ge (tgt := 28) hx hb dX13_is_8 (by decide) (fun _ => ?_) (fun h9 => absurd (show (0 : Int32) ≤ (0 : Int32) by decide +kernel) h9)
  refine lv_iconst (v := 0) hx hb dX13_is_28 (by decide +kernel) ?_
  have hP9 := hP.sub (ws' := [(q0, .inr (15, [.ref q1, .ref q2, .ref q3, .ref q4, .ref q5, .ref q6, .int 0, .int 1, .ref q7, .int 0, .ref q8, .null, .ref q9, .null, .ref q10, .ref q11, .ref q12, .ref q13, .ref q14, .int 0, .ref q15, .ref q16, .ref q17, .ref q18, .ref q19, .int 0, .int (-1)]))]) [0] rfl
  have hD9 := hD.sub (ws' := [(q0, .inr (15, [.ref q1, .ref q2, .ref q3, .ref q4, .ref q5, .ref q6, .int 0, .int 1, .ref q7, .int 0, .ref q8, .null, .ref q9, .null, .ref q10, .ref q11, .ref q12, .ref q13, .ref q14, .int 0, .ref q15, .ref q16, .ref q17, .ref q18, .ref q19, .int 0, .int (-1)]))]) [0] (by decide) rfl
  have hK9 := hK.sub (tys' := []) [] rfl
  exact W.zret (v := 0) hx hb hr (by decide +kernel) (fun t ht hW => ⟨⟨0, (), rfl, rfl, ⟨by rw [ht]; exact hP9, va_K.moved hW.alike hK9, hD9⟩⟩, hS.F ht⟩) hS.2.2 dX13_is_29
set_option maxHeartbeats 4000000 in
set_option maxRecDepth 100000 in
theorem c_X13_is_7 (l : Launch) (dC : Nat → ClassId) (dI : Nat → Nat → Nat) (q0 q1 q2 q3 q4 q5 q6 q7 q8 q9 q10 q11 q12 q13 q14 q15 q16 q17 q18 q19 : Nat) (sz : Nat) : Met l yX13_is wsX13_is ({ frames := 0, cells := 0, slots := 0, locals := 0 }) (va_Pc [.ref q0, .int 91] (zB (dC, dI) [] [(q0, .inr (15, [.ref q1, .ref q2, .ref q3, .ref q4, .ref q5, .ref q6, .int 0, .int 1, .ref q7, .int 0, .ref q8, .null, .ref q9, .null, .ref q10, .ref q11, .ref q12, .ref q13, .ref q14, .int 0, .ref q15, .ref q16, .ref q17, .ref q18, .ref q19, .int 0, .int (-1)]))] sz)) (va_Qi (fun (r : Int32) (_ : Unit) => 0 = r) (fun _ t => zE (dC, dI) [] [(q0, .inr (15, [.ref q1, .ref q2, .ref q3, .ref q4, .ref q5, .ref q6, .int 0, .int 1, .ref q7, .int 0, .ref q8, .null, .ref q9, .null, .ref q10, .ref q11, .ref q12, .ref q13, .ref q14, .int 0, .ref q15, .ref q16, .ref q17, .ref q18, .ref q19, .int 0, .int (-1)]))] (va_A [(q0, .inr (15, [.ref q1, .ref q2, .ref q3, .ref q4, .ref q5, .ref q6, .int 0, .int 1, .ref q7, .int 0, .ref q8, .null, .ref q9, .null, .ref q10, .ref q11, .ref q12, .ref q13, .ref q14, .int 0, .ref q15, .ref q16, .ref q17, .ref q18, .ref q19, .int 0, .int (-1)]))] sz) t) (va_A [(q0, .inr (15, [.ref q1, .ref q2, .ref q3, .ref q4, .ref q5, .ref q6, .int 0, .int 1, .ref q7, .int 0, .ref q8, .null, .ref q9, .null, .ref q10, .ref q11, .ref q12, .ref q13, .ref q14, .int 0, .ref q15, .ref q16, .ref q17, .ref q18, .ref q19, .int 0, .int (-1)]))] sz)) 0 0 (va_A [(q0, .inr (15, [.ref q1, .ref q2, .ref q3, .ref q4, .ref q5, .ref q6, .int 0, .int 1, .ref q7, .int 0, .ref q8, .null, .ref q9, .null, .ref q10, .ref q11, .ref q12, .ref q13, .ref q14, .int 0, .ref q15, .ref q16, .ref q17, .ref q18, .ref q19, .int 0, .int (-1)]))] sz) := by
  refine Met.ofW (cc := cX13_is) (maxL := 2) (ret := (some .boolean)) (by decide) rfl ?_
  intro p e s m args below meth c s₁ B hml hv
  obtain ⟨rfl, hsz, hP, hK, hD0, hZ, hN⟩ := hv
  have hx := B.exec
  have hb := B.bytes
  have hr := B.returns
  have hts := atoms_spec (ws := wsX13_is) B.pre
  have hown : s.vm.findClass RX13 = some m.cls := findClass_of_methodNamed B.named
  have hlocks := B.notSynchronized
  subst hsz
  have hD := hD0.self (sz := s.heap.size)
  generalize hAe : va_A [(q0, .inr (15, [.ref q1, .ref q2, .ref q3, .ref q4, .ref q5, .ref q6, .int 0, .int 1, .ref q7, .int 0, .ref q8, .null, .ref q9, .null, .ref q10, .ref q11, .ref q12, .ref q13, .ref q14, .int 0, .ref q15, .ref q16, .ref q17, .ref q18, .ref q19, .int 0, .int (-1)]))] s.heap.size = A at hD hZ ⊢
  have hA : ∀ q : Nat, s.heap.size ≤ q → A q := fun q h => by rw [← hAe]; exact Or.inr h
  have hS : va_S A s.heap s.heap [] := va_S.rf
  have hP : va_P (dC, dI) vwCl [(q0, .inr (15, [.ref q1, .ref q2, .ref q3, .ref q4, .ref q5, .ref q6, .int 0, .int 1, .ref q7, .int 0, .ref q8, .null, .ref q9, .null, .ref q10, .ref q11, .ref q12, .ref q13, .ref q14, .int 0, .ref q15, .ref q16, .ref q17, .ref q18, .ref q19, .int 0, .int (-1)]))] s.heap := hP
  have hl := lv_entry ([.ref q0, .int 91]) (n := 2) (Nat.le_of_ble_eq_true rfl)
  rw [lg_entry_eq]
  generalize (lg_sl ([.ref q0, .int 91]) ++ List.replicate (2 - (lg_sl ([.ref q0, .int 91])).length) Slot.unset).toArray = ls at hl ⊢
  have hl : lv_has ls 2 [(0, .ref q0), (1, .int 91)] := hl
  refine lv_aload_n hx hb dX13_is_0 rfl (lv_at hl 0 rfl) ?_
  refine va_get (D := (dC, dI)) (ci := 15) (v := .int 0) (C := RX13) (T := TX13) (N := 27) hx hb hts (fun _ h => List.mem_cons_of_mem _ (List.mem_append_left _ (List.mem_append_right _ h))) hown hK hP 0 rfl rfl 25 (by decide) (hts (.fieldLink RX13 210 "SeekwellModel" "at" "I") (by decide +kernel)) (fun _ h9 => h9) rfl dX13_is_1 ?_
  refine lv_aload_n hx hb dX13_is_4 rfl (lv_at hl 0 rfl) ?_
  refine va_get (D := (dC, dI)) (ci := 15) (v := .int 0) (C := RX13) (T := TX13) (N := 27) hx hb hts (fun _ h => List.mem_cons_of_mem _ (List.mem_append_left _ (List.mem_append_right _ h))) hown hK hP 0 rfl rfl 9 (by decide) (hts (.fieldLink RX13 132 "SeekwellModel" "typed" "I") (by decide +kernel)) (fun _ h9 => h9) rfl dX13_is_5 ?_
  refine lv_icmp_ge (tgt := 28) hx hb dX13_is_8 (by decide) (fun _ => ?_) (fun h9 => absurd (show (0 : Int32) ≤ (0 : Int32) by decide +kernel) h9)
  refine lv_iconst (v := 0) hx hb dX13_is_28 (by decide +kernel) ?_
  have hP9 := hP.sub (ws' := [(q0, .inr (15, [.ref q1, .ref q2, .ref q3, .ref q4, .ref q5, .ref q6, .int 0, .int 1, .ref q7, .int 0, .ref q8, .null, .ref q9, .null, .ref q10, .ref q11, .ref q12, .ref q13, .ref q14, .int 0, .ref q15, .ref q16, .ref q17, .ref q18, .ref q19, .int 0, .int (-1)]))]) [0] rfl
  have hD9 := hD.sub (ws' := [(q0, .inr (15, [.ref q1, .ref q2, .ref q3, .ref q4, .ref q5, .ref q6, .int 0, .int 1, .ref q7, .int 0, .ref q8, .null, .ref q9, .null, .ref q10, .ref q11, .ref q12, .ref q13, .ref q14, .int 0, .ref q15, .ref q16, .ref q17, .ref q18, .ref q19, .int 0, .int (-1)]))]) [0] (by decide) rfl
  have hK9 := hK.sub (tys' := []) [] rfl
  exact W.zret (v := 0) hx hb hr (by decide +kernel) (fun t ht hW => ⟨⟨0, (), rfl, rfl, ⟨by rw [ht]; exact hP9, va_K.moved hW.alike hK9, hD9⟩⟩, hS.F ht⟩) hS.2.2 dX13_is_29
set_option maxHeartbeats 4000000 in
set_option maxRecDepth 100000 in
theorem c_X13_word (l : Launch) (dC : Nat → ClassId) (dI : Nat → Nat → Nat) (q0 : Nat) (sz : Nat) : Met l yX13_word wsX13_word ({ frames := 0, cells := 0, slots := 0, locals := 0 }) (va_Pc [.ref q0, .int 0] (zB (dC, dI) [] [] sz)) (va_Ql (fun (r : Int64) (_ : Unit) => 0 = r) (fun _ t => zE (dC, dI) [] [] (va_A [] sz) t) (va_A [] sz)) 0 0 (va_A [] sz) := by
  refine Met.ofW (cc := cX13_word) (maxL := 5) (ret := (some .long)) (by decide) rfl ?_
  intro p e s m args below meth c s₁ B hml hv
  obtain ⟨rfl, hsz, hP, hK, hD0, hZ, hN⟩ := hv
  have hx := B.exec
  have hb := B.bytes
  have hr := B.returns
  have hts := atoms_spec (ws := wsX13_word) B.pre
  have hown : s.vm.findClass RX13 = some m.cls := findClass_of_methodNamed B.named
  have hlocks := B.notSynchronized
  subst hsz
  have hD := hD0.self (sz := s.heap.size)
  generalize hAe : va_A [] s.heap.size = A at hD hZ ⊢
  have hA : ∀ q : Nat, s.heap.size ≤ q → A q := fun q h => by rw [← hAe]; exact Or.inr h
  have hS : va_S A s.heap s.heap [] := va_S.rf
  have hP : va_P (dC, dI) vwCl [] s.heap := hP
  have hl := lv_entry ([.ref q0, .int 0]) (n := 5) (Nat.le_of_ble_eq_true rfl)
  rw [lg_entry_eq]
  generalize (lg_sl ([.ref q0, .int 0]) ++ List.replicate (5 - (lg_sl ([.ref q0, .int 0])).length) Slot.unset).toArray = ls at hl ⊢
  have hl : lv_has ls 5 [(0, .ref q0), (1, .int 0)] := hl
  refine lv_lconst (v := 0) hx hb dX13_word_0 (by decide +kernel) ?_
  refine lv_lstore_n (lv' := [(2, .long 0), (0, .ref q0), (1, .int 0)]) hx hb dX13_word_1 rfl hl (by decide) rfl (fun ls hl => ?_)
  refine lv_iconst (v := 0) hx hb dX13_word_2 (by decide +kernel) ?_
  refine lv_istore (lv' := [(4, .int 0), (2, .long 0), (0, .ref q0), (1, .int 0)]) hx hb dX13_word_3 hl (by decide) rfl (fun ls hl => ?_)
  refine lv_iload hx hb dX13_word_5 (lv_at hl 0 rfl) ?_
  refine lv_bipush (v := 12) hx hb dX13_word_7 (by decide +kernel) ?_
  refine lv_icmp_ge (tgt := 46) hx hb dX13_word_9 (by decide) (fun h9 => absurd h9 (show ¬ (12 : Int32) ≤ (0 : Int32) by decide +kernel)) (fun _ => ?_)
  refine lv_ldc2 (v := 37) hx hb hown (hts (.constantLong RX13 92 37) (by decide +kernel)) dX13_word_12 ?_
  refine lv_lload_n hx hb dX13_word_15 rfl (lv_at hl 1 rfl) ?_
  refine lv_lmul hx hb dX13_word_16 ?_
  refine zt_l (v := 0) (by decide +kernel) ?_
  refine lv_iload hx hb dX13_word_17 (lv_at hl 0 rfl) ?_
  refine lv_iload_n hx hb dX13_word_19 rfl (lv_at hl 3 rfl) ?_
  refine lv_icmp_ge (tgt := 36) hx hb dX13_word_20 (by decide) (fun _ => ?_) (fun h9 => absurd (show (0 : Int32) ≤ (0 : Int32) by decide +kernel) h9)
  refine lv_iconst (v := 0) hx hb dX13_word_36 (by decide +kernel) ?_
  refine lv_i2l (v := 0) hx hb dX13_word_37 (by decide +kernel) ?_
  refine lv_ladd hx hb dX13_word_38 ?_
  refine zt_l (v := 0) (by decide +kernel) ?_
  refine lv_lstore_n (lv' := [(2, .long 0), (4, .int 0), (0, .ref q0), (1, .int 0)]) hx hb dX13_word_39 rfl hl (by decide) rfl (fun ls hl => ?_)
  refine lv_iinc (v := 1) (lv' := [(4, .int 1), (2, .long 0), (0, .ref q0), (1, .int 0)]) hx hb dX13_word_40 hl (k := 1) rfl (by decide +kernel) (by decide) rfl (fun ls hl => ?_)
  refine lv_goto (tgt := 5) hx hb dX13_word_43 (by decide) ?_
  refine lv_iload hx hb dX13_word_5 (lv_at hl 0 rfl) ?_
  refine lv_bipush (v := 12) hx hb dX13_word_7 (by decide +kernel) ?_
  refine lv_icmp_ge (tgt := 46) hx hb dX13_word_9 (by decide) (fun h9 => absurd h9 (show ¬ (12 : Int32) ≤ (1 : Int32) by decide +kernel)) (fun _ => ?_)
  refine lv_ldc2 (v := 37) hx hb hown (hts (.constantLong RX13 92 37) (by decide +kernel)) dX13_word_12 ?_
  refine lv_lload_n hx hb dX13_word_15 rfl (lv_at hl 1 rfl) ?_
  refine lv_lmul hx hb dX13_word_16 ?_
  refine zt_l (v := 0) (by decide +kernel) ?_
  refine lv_iload hx hb dX13_word_17 (lv_at hl 0 rfl) ?_
  refine lv_iload_n hx hb dX13_word_19 rfl (lv_at hl 3 rfl) ?_
  refine lv_icmp_ge (tgt := 36) hx hb dX13_word_20 (by decide) (fun _ => ?_) (fun h9 => absurd (show (0 : Int32) ≤ (1 : Int32) by decide +kernel) h9)
  refine lv_iconst (v := 0) hx hb dX13_word_36 (by decide +kernel) ?_
  refine lv_i2l (v := 0) hx hb dX13_word_37 (by decide +kernel) ?_
  refine lv_ladd hx hb dX13_word_38 ?_
  refine zt_l (v := 0) (by decide +kernel) ?_
  refine lv_lstore_n (lv' := [(2, .long 0), (4, .int 1), (0, .ref q0), (1, .int 0)]) hx hb dX13_word_39 rfl hl (by decide) rfl (fun ls hl => ?_)
  refine lv_iinc (v := 2) (lv' := [(4, .int 2), (2, .long 0), (0, .ref q0), (1, .int 0)]) hx hb dX13_word_40 hl (k := 1) rfl (by decide +kernel) (by decide) rfl (fun ls hl => ?_)
  refine lv_goto (tgt := 5) hx hb dX13_word_43 (by decide) ?_
  refine lv_iload hx hb dX13_word_5 (lv_at hl 0 rfl) ?_
  refine lv_bipush (v := 12) hx hb dX13_word_7 (by decide +kernel) ?_
  refine lv_icmp_ge (tgt := 46) hx hb dX13_word_9 (by decide) (fun h9 => absurd h9 (show ¬ (12 : Int32) ≤ (2 : Int32) by decide +kernel)) (fun _ => ?_)
  refine lv_ldc2 (v := 37) hx hb hown (hts (.constantLong RX13 92 37) (by decide +kernel)) dX13_word_12 ?_
  refine lv_lload_n hx hb dX13_word_15 rfl (lv_at hl 1 rfl) ?_
  refine lv_lmul hx hb dX13_word_16 ?_
  refine zt_l (v := 0) (by decide +kernel) ?_
  refine lv_iload hx hb dX13_word_17 (lv_at hl 0 rfl) ?_
  refine lv_iload_n hx hb dX13_word_19 rfl (lv_at hl 3 rfl) ?_
  refine lv_icmp_ge (tgt := 36) hx hb dX13_word_20 (by decide) (fun _ => ?_) (fun h9 => absurd (show (0 : Int32) ≤ (2 : Int32) by decide +kernel) h9)
  refine lv_iconst (v := 0) hx hb dX13_word_36 (by decide +kernel) ?_
  refine lv_i2l (v := 0) hx hb dX13_word_37 (by decide +kernel) ?_
  refine lv_ladd hx hb dX13_word_38 ?_
  refine zt_l (v := 0) (by decide +kernel) ?_
  refine lv_lstore_n (lv' := [(2, .long 0), (4, .int 2), (0, .ref q0), (1, .int 0)]) hx hb dX13_word_39 rfl hl (by decide) rfl (fun ls hl => ?_)
  refine lv_iinc (v := 3) (lv' := [(4, .int 3), (2, .long 0), (0, .ref q0), (1, .int 0)]) hx hb dX13_word_40 hl (k := 1) rfl (by decide +kernel) (by decide) rfl (fun ls hl => ?_)
  refine lv_goto (tgt := 5) hx hb dX13_word_43 (by decide) ?_
  refine lv_iload hx hb dX13_word_5 (lv_at hl 0 rfl) ?_
  refine lv_bipush (v := 12) hx hb dX13_word_7 (by decide +kernel) ?_
  refine lv_icmp_ge (tgt := 46) hx hb dX13_word_9 (by decide) (fun h9 => absurd h9 (show ¬ (12 : Int32) ≤ (3 : Int32) by decide +kernel)) (fun _ => ?_)
  refine lv_ldc2 (v := 37) hx hb hown (hts (.constantLong RX13 92 37) (by decide +kernel)) dX13_word_12 ?_
  refine lv_lload_n hx hb dX13_word_15 rfl (lv_at hl 1 rfl) ?_
  refine lv_lmul hx hb dX13_word_16 ?_
  refine zt_l (v := 0) (by decide +kernel) ?_
  refine lv_iload hx hb dX13_word_17 (lv_at hl 0 rfl) ?_
  refine lv_iload_n hx hb dX13_word_19 rfl (lv_at hl 3 rfl) ?_
  refine lv_icmp_ge (tgt := 36) hx hb dX13_word_20 (by decide) (fun _ => ?_) (fun h9 => absurd (show (0 : Int32) ≤ (3 : Int32) by decide +kernel) h9)
  refine lv_iconst (v := 0) hx hb dX13_word_36 (by decide +kernel) ?_
  refine lv_i2l (v := 0) hx hb dX13_word_37 (by decide +kernel) ?_
  refine lv_ladd hx hb dX13_word_38 ?_
  refine zt_l (v := 0) (by decide +kernel) ?_
  refine lv_lstore_n (lv' := [(2, .long 0), (4, .int 3), (0, .ref q0), (1, .int 0)]) hx hb dX13_word_39 rfl hl (by decide) rfl (fun ls hl => ?_)
  refine lv_iinc (v := 4) (lv' := [(4, .int 4), (2, .long 0), (0, .ref q0), (1, .int 0)]) hx hb dX13_word_40 hl (k := 1) rfl (by decide +kernel) (by decide) rfl (fun ls hl => ?_)
  refine lv_goto (tgt := 5) hx hb dX13_word_43 (by decide) ?_
  refine lv_iload hx hb dX13_word_5 (lv_at hl 0 rfl) ?_
  refine lv_bipush (v := 12) hx hb dX13_word_7 (by decide +kernel) ?_
  refine lv_icmp_ge (tgt := 46) hx hb dX13_word_9 (by decide) (fun h9 => absurd h9 (show ¬ (12 : Int32) ≤ (4 : Int32) by decide +kernel)) (fun _ => ?_)
  refine lv_ldc2 (v := 37) hx hb hown (hts (.constantLong RX13 92 37) (by decide +kernel)) dX13_word_12 ?_
  refine lv_lload_n hx hb dX13_word_15 rfl (lv_at hl 1 rfl) ?_
  refine lv_lmul hx hb dX13_word_16 ?_
  refine zt_l (v := 0) (by decide +kernel) ?_
  refine lv_iload hx hb dX13_word_17 (lv_at hl 0 rfl) ?_
  refine lv_iload_n hx hb dX13_word_19 rfl (lv_at hl 3 rfl) ?_
  refine lv_icmp_ge (tgt := 36) hx hb dX13_word_20 (by decide) (fun _ => ?_) (fun h9 => absurd (show (0 : Int32) ≤ (4 : Int32) by decide +kernel) h9)
  refine lv_iconst (v := 0) hx hb dX13_word_36 (by decide +kernel) ?_
  refine lv_i2l (v := 0) hx hb dX13_word_37 (by decide +kernel) ?_
  refine lv_ladd hx hb dX13_word_38 ?_
  refine zt_l (v := 0) (by decide +kernel) ?_
  refine lv_lstore_n (lv' := [(2, .long 0), (4, .int 4), (0, .ref q0), (1, .int 0)]) hx hb dX13_word_39 rfl hl (by decide) rfl (fun ls hl => ?_)
  refine lv_iinc (v := 5) (lv' := [(4, .int 5), (2, .long 0), (0, .ref q0), (1, .int 0)]) hx hb dX13_word_40 hl (k := 1) rfl (by decide +kernel) (by decide) rfl (fun ls hl => ?_)
  refine lv_goto (tgt := 5) hx hb dX13_word_43 (by decide) ?_
  refine lv_iload hx hb dX13_word_5 (lv_at hl 0 rfl) ?_
  refine lv_bipush (v := 12) hx hb dX13_word_7 (by decide +kernel) ?_
  refine lv_icmp_ge (tgt := 46) hx hb dX13_word_9 (by decide) (fun h9 => absurd h9 (show ¬ (12 : Int32) ≤ (5 : Int32) by decide +kernel)) (fun _ => ?_)
  refine lv_ldc2 (v := 37) hx hb hown (hts (.constantLong RX13 92 37) (by decide +kernel)) dX13_word_12 ?_
  refine lv_lload_n hx hb dX13_word_15 rfl (lv_at hl 1 rfl) ?_
  refine lv_lmul hx hb dX13_word_16 ?_
  refine zt_l (v := 0) (by decide +kernel) ?_
  refine lv_iload hx hb dX13_word_17 (lv_at hl 0 rfl) ?_
  refine lv_iload_n hx hb dX13_word_19 rfl (lv_at hl 3 rfl) ?_
  refine lv_icmp_ge (tgt := 36) hx hb dX13_word_20 (by decide) (fun _ => ?_) (fun h9 => absurd (show (0 : Int32) ≤ (5 : Int32) by decide +kernel) h9)
  refine lv_iconst (v := 0) hx hb dX13_word_36 (by decide +kernel) ?_
  refine lv_i2l (v := 0) hx hb dX13_word_37 (by decide +kernel) ?_
  refine lv_ladd hx hb dX13_word_38 ?_
  refine zt_l (v := 0) (by decide +kernel) ?_
  refine lv_lstore_n (lv' := [(2, .long 0), (4, .int 5), (0, .ref q0), (1, .int 0)]) hx hb dX13_word_39 rfl hl (by decide) rfl (fun ls hl => ?_)
  refine lv_iinc (v := 6) (lv' := [(4, .int 6), (2, .long 0), (0, .ref q0), (1, .int 0)]) hx hb dX13_word_40 hl (k := 1) rfl (by decide +kernel) (by decide) rfl (fun ls hl => ?_)
  refine lv_goto (tgt := 5) hx hb dX13_word_43 (by decide) ?_
  refine lv_iload hx hb dX13_word_5 (lv_at hl 0 rfl) ?_
  refine lv_bipush (v := 12) hx hb dX13_word_7 (by decide +kernel) ?_
  refine lv_icmp_ge (tgt := 46) hx hb dX13_word_9 (by decide) (fun h9 => absurd h9 (show ¬ (12 : Int32) ≤ (6 : Int32) by decide +kernel)) (fun _ => ?_)
  refine lv_ldc2 (v := 37) hx hb hown (hts (.constantLong RX13 92 37) (by decide +kernel)) dX13_word_12 ?_
  refine lv_lload_n hx hb dX13_word_15 rfl (lv_at hl 1 rfl) ?_
  refine lv_lmul hx hb dX13_word_16 ?_
  refine zt_l (v := 0) (by decide +kernel) ?_
  refine lv_iload hx hb dX13_word_17 (lv_at hl 0 rfl) ?_
  refine lv_iload_n hx hb dX13_word_19 rfl (lv_at hl 3 rfl) ?_
  refine lv_icmp_ge (tgt := 36) hx hb dX13_word_20 (by decide) (fun _ => ?_) (fun h9 => absurd (show (0 : Int32) ≤ (6 : Int32) by decide +kernel) h9)
  refine lv_iconst (v := 0) hx hb dX13_word_36 (by decide +kernel) ?_
  refine lv_i2l (v := 0) hx hb dX13_word_37 (by decide +kernel) ?_
  refine lv_ladd hx hb dX13_word_38 ?_
  refine zt_l (v := 0) (by decide +kernel) ?_
  refine lv_lstore_n (lv' := [(2, .long 0), (4, .int 6), (0, .ref q0), (1, .int 0)]) hx hb dX13_word_39 rfl hl (by decide) rfl (fun ls hl => ?_)
  refine lv_iinc (v := 7) (lv' := [(4, .int 7), (2, .long 0), (0, .ref q0), (1, .int 0)]) hx hb dX13_word_40 hl (k := 1) rfl (by decide +kernel) (by decide) rfl (fun ls hl => ?_)
  refine lv_goto (tgt := 5) hx hb dX13_word_43 (by decide) ?_
  refine lv_iload hx hb dX13_word_5 (lv_at hl 0 rfl) ?_
  refine lv_bipush (v := 12) hx hb dX13_word_7 (by decide +kernel) ?_
  refine lv_icmp_ge (tgt := 46) hx hb dX13_word_9 (by decide) (fun h9 => absurd h9 (show ¬ (12 : Int32) ≤ (7 : Int32) by decide +kernel)) (fun _ => ?_)
  refine lv_ldc2 (v := 37) hx hb hown (hts (.constantLong RX13 92 37) (by decide +kernel)) dX13_word_12 ?_
  refine lv_lload_n hx hb dX13_word_15 rfl (lv_at hl 1 rfl) ?_
  refine lv_lmul hx hb dX13_word_16 ?_
  refine zt_l (v := 0) (by decide +kernel) ?_
  refine lv_iload hx hb dX13_word_17 (lv_at hl 0 rfl) ?_
  refine lv_iload_n hx hb dX13_word_19 rfl (lv_at hl 3 rfl) ?_
  refine lv_icmp_ge (tgt := 36) hx hb dX13_word_20 (by decide) (fun _ => ?_) (fun h9 => absurd (show (0 : Int32) ≤ (7 : Int32) by decide +kernel) h9)
  refine lv_iconst (v := 0) hx hb dX13_word_36 (by decide +kernel) ?_
  refine lv_i2l (v := 0) hx hb dX13_word_37 (by decide +kernel) ?_
  refine lv_ladd hx hb dX13_word_38 ?_
  refine zt_l (v := 0) (by decide +kernel) ?_
  refine lv_lstore_n (lv' := [(2, .long 0), (4, .int 7), (0, .ref q0), (1, .int 0)]) hx hb dX13_word_39 rfl hl (by decide) rfl (fun ls hl => ?_)
  refine lv_iinc (v := 8) (lv' := [(4, .int 8), (2, .long 0), (0, .ref q0), (1, .int 0)]) hx hb dX13_word_40 hl (k := 1) rfl (by decide +kernel) (by decide) rfl (fun ls hl => ?_)
  refine lv_goto (tgt := 5) hx hb dX13_word_43 (by decide) ?_
  refine lv_iload hx hb dX13_word_5 (lv_at hl 0 rfl) ?_
  refine lv_bipush (v := 12) hx hb dX13_word_7 (by decide +kernel) ?_
  refine lv_icmp_ge (tgt := 46) hx hb dX13_word_9 (by decide) (fun h9 => absurd h9 (show ¬ (12 : Int32) ≤ (8 : Int32) by decide +kernel)) (fun _ => ?_)
  refine lv_ldc2 (v := 37) hx hb hown (hts (.constantLong RX13 92 37) (by decide +kernel)) dX13_word_12 ?_
  refine lv_lload_n hx hb dX13_word_15 rfl (lv_at hl 1 rfl) ?_
  refine lv_lmul hx hb dX13_word_16 ?_
  refine zt_l (v := 0) (by decide +kernel) ?_
  refine lv_iload hx hb dX13_word_17 (lv_at hl 0 rfl) ?_
  refine lv_iload_n hx hb dX13_word_19 rfl (lv_at hl 3 rfl) ?_
  refine lv_icmp_ge (tgt := 36) hx hb dX13_word_20 (by decide) (fun _ => ?_) (fun h9 => absurd (show (0 : Int32) ≤ (8 : Int32) by decide +kernel) h9)
  refine lv_iconst (v := 0) hx hb dX13_word_36 (by decide +kernel) ?_
  refine lv_i2l (v := 0) hx hb dX13_word_37 (by decide +kernel) ?_
  refine lv_ladd hx hb dX13_word_38 ?_
  refine zt_l (v := 0) (by decide +kernel) ?_
  refine lv_lstore_n (lv' := [(2, .long 0), (4, .int 8), (0, .ref q0), (1, .int 0)]) hx hb dX13_word_39 rfl hl (by decide) rfl (fun ls hl => ?_)
  refine lv_iinc (v := 9) (lv' := [(4, .int 9), (2, .long 0), (0, .ref q0), (1, .int 0)]) hx hb dX13_word_40 hl (k := 1) rfl (by decide +kernel) (by decide) rfl (fun ls hl => ?_)
  refine lv_goto (tgt := 5) hx hb dX13_word_43 (by decide) ?_
  refine lv_iload hx hb dX13_word_5 (lv_at hl 0 rfl) ?_
  refine lv_bipush (v := 12) hx hb dX13_word_7 (by decide +kernel) ?_
  refine lv_icmp_ge (tgt := 46) hx hb dX13_word_9 (by decide) (fun h9 => absurd h9 (show ¬ (12 : Int32) ≤ (9 : Int32) by decide +kernel)) (fun _ => ?_)
  refine lv_ldc2 (v := 37) hx hb hown (hts (.constantLong RX13 92 37) (by decide +kernel)) dX13_word_12 ?_
  refine lv_lload_n hx hb dX13_word_15 rfl (lv_at hl 1 rfl) ?_
  refine lv_lmul hx hb dX13_word_16 ?_
  refine zt_l (v := 0) (by decide +kernel) ?_
  refine lv_iload hx hb dX13_word_17 (lv_at hl 0 rfl) ?_
  refine lv_iload_n hx hb dX13_word_19 rfl (lv_at hl 3 rfl) ?_
  refine lv_icmp_ge (tgt := 36) hx hb dX13_word_20 (by decide) (fun _ => ?_) (fun h9 => absurd (show (0 : Int32) ≤ (9 : Int32) by decide +kernel) h9)
  refine lv_iconst (v := 0) hx hb dX13_word_36 (by decide +kernel) ?_
  refine lv_i2l (v := 0) hx hb dX13_word_37 (by decide +kernel) ?_
  refine lv_ladd hx hb dX13_word_38 ?_
  refine zt_l (v := 0) (by decide +kernel) ?_
  refine lv_lstore_n (lv' := [(2, .long 0), (4, .int 9), (0, .ref q0), (1, .int 0)]) hx hb dX13_word_39 rfl hl (by decide) rfl (fun ls hl => ?_)
  refine lv_iinc (v := 10) (lv' := [(4, .int 10), (2, .long 0), (0, .ref q0), (1, .int 0)]) hx hb dX13_word_40 hl (k := 1) rfl (by decide +kernel) (by decide) rfl (fun ls hl => ?_)
  refine lv_goto (tgt := 5) hx hb dX13_word_43 (by decide) ?_
  refine lv_iload hx hb dX13_word_5 (lv_at hl 0 rfl) ?_
  refine lv_bipush (v := 12) hx hb dX13_word_7 (by decide +kernel) ?_
  refine lv_icmp_ge (tgt := 46) hx hb dX13_word_9 (by decide) (fun h9 => absurd h9 (show ¬ (12 : Int32) ≤ (10 : Int32) by decide +kernel)) (fun _ => ?_)
  refine lv_ldc2 (v := 37) hx hb hown (hts (.constantLong RX13 92 37) (by decide +kernel)) dX13_word_12 ?_
  refine lv_lload_n hx hb dX13_word_15 rfl (lv_at hl 1 rfl) ?_
  refine lv_lmul hx hb dX13_word_16 ?_
  refine zt_l (v := 0) (by decide +kernel) ?_
  refine lv_iload hx hb dX13_word_17 (lv_at hl 0 rfl) ?_
  refine lv_iload_n hx hb dX13_word_19 rfl (lv_at hl 3 rfl) ?_
  refine lv_icmp_ge (tgt := 36) hx hb dX13_word_20 (by decide) (fun _ => ?_) (fun h9 => absurd (show (0 : Int32) ≤ (10 : Int32) by decide +kernel) h9)
  refine lv_iconst (v := 0) hx hb dX13_word_36 (by decide +kernel) ?_
  refine lv_i2l (v := 0) hx hb dX13_word_37 (by decide +kernel) ?_
  refine lv_ladd hx hb dX13_word_38 ?_
  refine zt_l (v := 0) (by decide +kernel) ?_
  refine lv_lstore_n (lv' := [(2, .long 0), (4, .int 10), (0, .ref q0), (1, .int 0)]) hx hb dX13_word_39 rfl hl (by decide) rfl (fun ls hl => ?_)
  refine lv_iinc (v := 11) (lv' := [(4, .int 11), (2, .long 0), (0, .ref q0), (1, .int 0)]) hx hb dX13_word_40 hl (k := 1) rfl (by decide +kernel) (by decide) rfl (fun ls hl => ?_)
  refine lv_goto (tgt := 5) hx hb dX13_word_43 (by decide) ?_
  refine lv_iload hx hb dX13_word_5 (lv_at hl 0 rfl) ?_
  refine lv_bipush (v := 12) hx hb dX13_word_7 (by decide +kernel) ?_
  refine lv_icmp_ge (tgt := 46) hx hb dX13_word_9 (by decide) (fun h9 => absurd h9 (show ¬ (12 : Int32) ≤ (11 : Int32) by decide +kernel)) (fun _ => ?_)
  refine lv_ldc2 (v := 37) hx hb hown (hts (.constantLong RX13 92 37) (by decide +kernel)) dX13_word_12 ?_
  refine lv_lload_n hx hb dX13_word_15 rfl (lv_at hl 1 rfl) ?_
  refine lv_lmul hx hb dX13_word_16 ?_
  refine zt_l (v := 0) (by decide +kernel) ?_
  refine lv_iload hx hb dX13_word_17 (lv_at hl 0 rfl) ?_
  refine lv_iload_n hx hb dX13_word_19 rfl (lv_at hl 3 rfl) ?_
  refine lv_icmp_ge (tgt := 36) hx hb dX13_word_20 (by decide) (fun _ => ?_) (fun h9 => absurd (show (0 : Int32) ≤ (11 : Int32) by decide +kernel) h9)
  refine lv_iconst (v := 0) hx hb dX13_word_36 (by decide +kernel) ?_
  refine lv_i2l (v := 0) hx hb dX13_word_37 (by decide +kernel) ?_
  refine lv_ladd hx hb dX13_word_38 ?_
  refine zt_l (v := 0) (by decide +kernel) ?_
  refine lv_lstore_n (lv' := [(2, .long 0), (4, .int 11), (0, .ref q0), (1, .int 0)]) hx hb dX13_word_39 rfl hl (by decide) rfl (fun ls hl => ?_)
  refine lv_iinc (v := 12) (lv' := [(4, .int 12), (2, .long 0), (0, .ref q0), (1, .int 0)]) hx hb dX13_word_40 hl (k := 1) rfl (by decide +kernel) (by decide) rfl (fun ls hl => ?_)
  refine lv_goto (tgt := 5) hx hb dX13_word_43 (by decide) ?_
  refine lv_iload hx hb dX13_word_5 (lv_at hl 0 rfl) ?_
  refine lv_bipush (v := 12) hx hb dX13_word_7 (by decide +kernel) ?_
  refine lv_icmp_ge (tgt := 46) hx hb dX13_word_9 (by decide) (fun _ => ?_) (fun h9 => absurd (show (12 : Int32) ≤ (12 : Int32) by decide +kernel) h9)
  refine lv_lload_n hx hb dX13_word_46 rfl (lv_at hl 1 rfl) ?_
  have hP9 := hP.sub (ws' := []) [] rfl
  have hD9 := hD.sub (ws' := []) [] (by decide) rfl
  have hK9 := hK.sub (tys' := []) [] rfl
  exact W.lret (v := 0) hx hb hr (fun t ht hW => ⟨⟨0, (), rfl, rfl, ⟨by rw [ht]; exact hP9, va_K.moved hW.alike hK9, hD9⟩⟩, hS.F ht⟩) hS.2.2 dX13_word_47
set_option maxHeartbeats 4000000 in
set_option maxRecDepth 100000 in
theorem c_X13_wordAt (l : Launch) (dC : Nat → ClassId) (dI : Nat → Nat → Nat) (q0 q1 q2 q3 q4 q5 q6 q7 q8 q9 q10 q11 q12 q13 q14 q15 q16 q17 q18 q19 : Nat) (sz : Nat) : Met l yX13_wordAt wsX13_wordAt ({ frames := 1, cells := 1, slots := 12, locals := 24 }) (va_Pc [.ref q0] (zB (dC, dI) [] [(q0, .inr (15, [.ref q1, .ref q2, .ref q3, .ref q4, .ref q5, .ref q6, .int 0, .int 1, .ref q7, .int 0, .ref q8, .null, .ref q9, .null, .ref q10, .ref q11, .ref q12, .ref q13, .ref q14, .int 0, .ref q15, .ref q16, .ref q17, .ref q18, .ref q19, .int 0, .int (-1)]))] sz)) (va_Ql (fun (r : Int64) (_ : Unit) => 0 = r) (fun _ t => zE (dC, dI) [] [(q0, .inr (15, [.ref q1, .ref q2, .ref q3, .ref q4, .ref q5, .ref q6, .int 0, .int 1, .ref q7, .int 0, .ref q8, .null, .ref q9, .null, .ref q10, .ref q11, .ref q12, .ref q13, .ref q14, .int 0, .ref q15, .ref q16, .ref q17, .ref q18, .ref q19, .int 0, .int 0]))] (va_A [(q0, .inr (15, [.ref q1, .ref q2, .ref q3, .ref q4, .ref q5, .ref q6, .int 0, .int 1, .ref q7, .int 0, .ref q8, .null, .ref q9, .null, .ref q10, .ref q11, .ref q12, .ref q13, .ref q14, .int 0, .ref q15, .ref q16, .ref q17, .ref q18, .ref q19, .int 0, .int (-1)]))] sz) t) (va_A [(q0, .inr (15, [.ref q1, .ref q2, .ref q3, .ref q4, .ref q5, .ref q6, .int 0, .int 1, .ref q7, .int 0, .ref q8, .null, .ref q9, .null, .ref q10, .ref q11, .ref q12, .ref q13, .ref q14, .int 0, .ref q15, .ref q16, .ref q17, .ref q18, .ref q19, .int 0, .int (-1)]))] sz)) 1 12 (va_A [(q0, .inr (15, [.ref q1, .ref q2, .ref q3, .ref q4, .ref q5, .ref q6, .int 0, .int 1, .ref q7, .int 0, .ref q8, .null, .ref q9, .null, .ref q10, .ref q11, .ref q12, .ref q13, .ref q14, .int 0, .ref q15, .ref q16, .ref q17, .ref q18, .ref q19, .int 0, .int (-1)]))] sz) := by
  refine Met.ofW (cc := cX13_wordAt) (maxL := 3) (ret := (some .long)) (by decide) rfl ?_
  intro p e s m args below meth c s₁ B hml hv
  obtain ⟨rfl, hsz, hP, hK, hD0, hZ, hN⟩ := hv
  have hx := B.exec
  have hb := B.bytes
  have hr := B.returns
  have hts := atoms_spec (ws := wsX13_wordAt) B.pre
  have hown : s.vm.findClass RX13 = some m.cls := findClass_of_methodNamed B.named
  have hlocks := B.notSynchronized
  subst hsz
  have hD := hD0.self (sz := s.heap.size)
  generalize hAe : va_A [(q0, .inr (15, [.ref q1, .ref q2, .ref q3, .ref q4, .ref q5, .ref q6, .int 0, .int 1, .ref q7, .int 0, .ref q8, .null, .ref q9, .null, .ref q10, .ref q11, .ref q12, .ref q13, .ref q14, .int 0, .ref q15, .ref q16, .ref q17, .ref q18, .ref q19, .int 0, .int (-1)]))] s.heap.size = A at hD hZ ⊢
  have hA : ∀ q : Nat, s.heap.size ≤ q → A q := fun q h => by rw [← hAe]; exact Or.inr h
  have hS : va_S A s.heap s.heap [] := va_S.rf
  have hP : va_P (dC, dI) vwCl [(q0, .inr (15, [.ref q1, .ref q2, .ref q3, .ref q4, .ref q5, .ref q6, .int 0, .int 1, .ref q7, .int 0, .ref q8, .null, .ref q9, .null, .ref q10, .ref q11, .ref q12, .ref q13, .ref q14, .int 0, .ref q15, .ref q16, .ref q17, .ref q18, .ref q19, .int 0, .int (-1)]))] s.heap := hP
  have hl := lv_entry ([.ref q0]) (n := 3) (Nat.le_of_ble_eq_true rfl)
  rw [lg_entry_eq]
  generalize (lg_sl ([.ref q0]) ++ List.replicate (3 - (lg_sl ([.ref q0])).length) Slot.unset).toArray = ls at hl ⊢
  have hl : lv_has ls 3 [(0, .ref q0)] := hl
  refine lv_bipush (v := 12) hx hb dX13_wordAt_0 (by decide +kernel) ?_
  refine va_newa (D := (dC, dI)) (atype := .int) (ty := .int) (a0 := (12, .inl (fun _ => 0))) (N' := 12) hx hb (hts (.arrayClass .int) (by decide +kernel)) rfl hK hP hD hS hA (fun _ => rfl) (by decide +kernel) (by decide +kernel) (Nat.le_of_ble_eq_true rfl) (Nat.le_of_ble_eq_true rfl) (Nat.le_of_ble_eq_true rfl) dX13_wordAt_2 (fun q20 k0 H hK hP hD hS => ?_)
  have hP : va_P (dC, dI) vwCl [(q0, .inr (15, [.ref q1, .ref q2, .ref q3, .ref q4, .ref q5, .ref q6, .int 0, .int 1, .ref q7, .int 0, .ref q8, .null, .ref q9, .null, .ref q10, .ref q11, .ref q12, .ref q13, .ref q14, .int 0, .ref q15, .ref q16, .ref q17, .ref q18, .ref q19, .int 0, .int (-1)])), (q20, .inl (k0, 12, .inl (fun _ => 0)))] H := hP
  have hD : va_D A [(q0, .inr (15, [.ref q1, .ref q2, .ref q3, .ref q4, .ref q5, .ref q6, .int 0, .int 1, .ref q7, .int 0, .ref q8, .null, .ref q9, .null, .ref q10, .ref q11, .ref q12, .ref q13, .ref q14, .int 0, .ref q15, .ref q16, .ref q17, .ref q18, .ref q19, .int 0, .int (-1)])), (q20, .inl (k0, 12, .inl (fun _ => 0)))] := hD
  have hK : va_K (dC, dI) vwCl [(k0, .int)] s := hK
  refine W.widen (k := 1) (n := 12) (Nat.le_of_ble_eq_true rfl) (Nat.le_of_ble_eq_true rfl) ?_
  refine lv_astore_n (lv' := [(1, .ref q20), (0, .ref q0)]) hx hb dX13_wordAt_4 rfl hl (by decide) rfl (fun ls hl => ?_)
  refine lv_iconst (v := 0) hx hb dX13_wordAt_5 (by decide +kernel) ?_
  refine lv_istore_n (lv' := [(2, .int 0), (1, .ref q20), (0, .ref q0)]) hx hb dX13_wordAt_6 rfl hl (by decide) rfl (fun ls hl => ?_)
  refine lv_aload_n hx hb dX13_wordAt_7 rfl (lv_at hl 2 rfl) ?_
  refine va_get (D := (dC, dI)) (ci := 15) (v := .int 0) (C := RX13) (T := TX13) (N := 27) hx hb hts (fun _ h => List.mem_cons_of_mem _ (List.mem_append_left _ (List.mem_append_right _ h))) hown hK hP 0 rfl rfl 25 (by decide) (hts (.fieldLink RX13 210 "SeekwellModel" "at" "I") (by decide +kernel)) (fun _ h9 => h9) rfl dX13_wordAt_8 ?_
  refine lv_aload_n hx hb dX13_wordAt_11 rfl (lv_at hl 2 rfl) ?_
  refine va_get (D := (dC, dI)) (ci := 15) (v := .int 0) (C := RX13) (T := TX13) (N := 27) hx hb hts (fun _ h => List.mem_cons_of_mem _ (List.mem_append_left _ (List.mem_append_right _ h))) hown hK hP 0 rfl rfl 9 (by decide) (hts (.fieldLink RX13 132 "SeekwellModel" "typed" "I") (by decide +kernel)) (fun _ h9 => h9) rfl dX13_wordAt_12 ?_
  refine lv_icmp_ge (tgt := 67) hx hb dX13_wordAt_15 (by decide) (fun _ => ?_) (fun h9 => absurd (show (0 : Int32) ≤ (0 : Int32) by decide +kernel) h9)
  refine lv_aload_n hx hb dX13_wordAt_67 rfl (lv_at hl 2 rfl) ?_
  refine va_get (D := (dC, dI)) (ci := 15) (v := .int (-1)) (C := RX13) (T := TX13) (N := 27) hx hb hts (fun _ h => List.mem_cons_of_mem _ (List.mem_append_left _ (List.mem_append_right _ h))) hown hK hP 0 rfl rfl 26 (by decide) (hts (.fieldLink RX13 216 "SeekwellModel" "fault" "I") (by decide +kernel)) (fun _ h9 => h9) rfl dX13_wordAt_68 ?_
  refine lv_if_ge (tgt := 112) hx hb dX13_wordAt_71 (by decide) (fun h9 => absurd h9 (show ¬ (0 : Int32) ≤ ((-1) : Int32) by decide +kernel)) (fun _ => ?_)
  refine lv_iload_n hx hb dX13_wordAt_74 rfl (lv_at hl 0 rfl) ?_
  refine lv_if_eq (tgt := 104) hx hb dX13_wordAt_75 (by decide) (fun _ => ?_) (fun h9 => absurd (show (0 : Int32) = (0 : Int32) by decide +kernel) h9)
  refine lv_aload_n hx hb dX13_wordAt_104 rfl (lv_at hl 2 rfl) ?_
  refine lv_aload_n hx hb dX13_wordAt_105 rfl (lv_at hl 2 rfl) ?_
  refine va_get (D := (dC, dI)) (ci := 15) (v := .int 0) (C := RX13) (T := TX13) (N := 27) hx hb hts (fun _ h => List.mem_cons_of_mem _ (List.mem_append_left _ (List.mem_append_right _ h))) hown hK hP 0 rfl rfl 25 (by decide) (hts (.fieldLink RX13 210 "SeekwellModel" "at" "I") (by decide +kernel)) (fun _ h9 => h9) rfl dX13_wordAt_106 ?_
  refine va_put (D := (dC, dI)) (ci := 15) (v := .int 0) (ty := .int) (C := RX13) (T := TX13) (N := 27) hx hb hts (fun _ h => List.mem_cons_of_mem _ (List.mem_append_left _ (List.mem_append_right _ h))) tyX13 tyX13_ok nmX13 hown hK hP hD hS 0 rfl rfl 26 (by decide) (hts (.fieldLink RX13 216 "SeekwellModel" "fault" "I") (by decide +kernel)) (fun _ h9 => h9) rfl (by decide +kernel) rfl rfl (Nat.le_of_ble_eq_true rfl) dX13_wordAt_109 (fun H locs hP hD hS => ?_)
  have hP : va_P (dC, dI) vwCl [(q0, .inr (15, [.ref q1, .ref q2, .ref q3, .ref q4, .ref q5, .ref q6, .int 0, .int 1, .ref q7, .int 0, .ref q8, .null, .ref q9, .null, .ref q10, .ref q11, .ref q12, .ref q13, .ref q14, .int 0, .ref q15, .ref q16, .ref q17, .ref q18, .ref q19, .int 0, .int 0])), (q20, .inl (k0, 12, .inl (fun _ => 0)))] H := hP
  have hD : va_D A [(q0, .inr (15, [.ref q1, .ref q2, .ref q3, .ref q4, .ref q5, .ref q6, .int 0, .int 1, .ref q7, .int 0, .ref q8, .null, .ref q9, .null, .ref q10, .ref q11, .ref q12, .ref q13, .ref q14, .int 0, .ref q15, .ref q16, .ref q17, .ref q18, .ref q19, .int 0, .int 0])), (q20, .inl (k0, 12, .inl (fun _ => 0)))] := hD
  refine lv_aload_n hx hb dX13_wordAt_112 rfl (lv_at hl 1 rfl) ?_
  refine lv_iload_n hx hb dX13_wordAt_113 rfl (lv_at hl 0 rfl) ?_
  have hPc := hP.sub (ws' := []) [] rfl
  have hDc := hD.sub (ws' := []) [] (by decide) rfl
  have hKc := hK.sub (tys' := []) [] rfl
  have hFc := va_free (wc := []) hD hS hA [] rfl
  refine va_calll (va_runS (As := [.ref q20, .int 0]) (rest := []) ⟨hx, hb, hml, hown, hts⟩ (c_X13_word l dC dI q20 H.size  ) (va_cwS 2 hts gX13_wordAt_X13_word rfl rfl rfl (by decide +kernel) ⟨Nat.le_of_ble_eq_true rfl, Nat.le_of_ble_eq_true rfl⟩) ⟨zB_blind, (zPre hPc hDc hKc hS hFc hZ hN)⟩ rfl rfl hl.1 rfl (lv_room (Nat.le_of_ble_eq_true rfl)) dX13_wordAt_114 ⟨Nat.le_of_ble_eq_true rfl, Nat.le_of_ble_eq_true rfl⟩) hS (fun q _ h => hFc q h) hFc (fun r u t H1 locs ht hvm hw hB hz1 hk1 hS => ?_)
  subst hw
  obtain ⟨hP1, hK1, hD1⟩ := hB
  rw [ht] at hP1
  have hK1 := va_K.moved hvm.symm hK1
  obtain ⟨hP, hD⟩ := va_join (wr := [(q0, .inr (15, [.ref q1, .ref q2, .ref q3, .ref q4, .ref q5, .ref q6, .int 0, .int 1, .ref q7, .int 0, .ref q8, .null, .ref q9, .null, .ref q10, .ref q11, .ref q12, .ref q13, .ref q14, .int 0, .ref q15, .ref q16, .ref q17, .ref q18, .ref q19, .int 0, .int 0]))]) (w1 := []) hP hD [] [0] rfl rfl (by decide) (by decide) hk1 hFc hP1 hD1
  have hK := (hK.sub (tys' := []) [] rfl).app hK1
  generalize H1 = H at hP hS ⊢
  have hP : va_P (dC, dI) vwCl [(q0, .inr (15, [.ref q1, .ref q2, .ref q3, .ref q4, .ref q5, .ref q6, .int 0, .int 1, .ref q7, .int 0, .ref q8, .null, .ref q9, .null, .ref q10, .ref q11, .ref q12, .ref q13, .ref q14, .int 0, .ref q15, .ref q16, .ref q17, .ref q18, .ref q19, .int 0, .int 0]))] H := hP
  have hD : va_D A [(q0, .inr (15, [.ref q1, .ref q2, .ref q3, .ref q4, .ref q5, .ref q6, .int 0, .int 1, .ref q7, .int 0, .ref q8, .null, .ref q9, .null, .ref q10, .ref q11, .ref q12, .ref q13, .ref q14, .int 0, .ref q15, .ref q16, .ref q17, .ref q18, .ref q19, .int 0, .int 0]))] := hD
  have hK : va_K (dC, dI) vwCl [] s := hK
  refine W.widen (k := 1) (n := 12) (Nat.le_of_ble_eq_true rfl) (Nat.le_of_ble_eq_true rfl) ?_
  have hP9 := hP.sub (ws' := [(q0, .inr (15, [.ref q1, .ref q2, .ref q3, .ref q4, .ref q5, .ref q6, .int 0, .int 1, .ref q7, .int 0, .ref q8, .null, .ref q9, .null, .ref q10, .ref q11, .ref q12, .ref q13, .ref q14, .int 0, .ref q15, .ref q16, .ref q17, .ref q18, .ref q19, .int 0, .int 0]))]) [0] rfl
  have hD9 := hD.sub (ws' := [(q0, .inr (15, [.ref q1, .ref q2, .ref q3, .ref q4, .ref q5, .ref q6, .int 0, .int 1, .ref q7, .int 0, .ref q8, .null, .ref q9, .null, .ref q10, .ref q11, .ref q12, .ref q13, .ref q14, .int 0, .ref q15, .ref q16, .ref q17, .ref q18, .ref q19, .int 0, .int 0]))]) [0] (by decide) rfl
  have hK9 := hK.sub (tys' := []) [] rfl
  exact W.lret (v := 0) hx hb hr (fun t ht hW => ⟨⟨0, (), rfl, rfl, ⟨by rw [ht]; exact hP9, va_K.moved hW.alike hK9, hD9⟩⟩, hS.F ht⟩) hS.2.2 dX13_wordAt_117
set_option maxHeartbeats 4000000 in
set_option maxRecDepth 100000 in
theorem c_X12_init_3 (l : Launch) (dC : Nat → ClassId) (dI : Nat → Nat → Nat) (q0 : Nat) (sz : Nat) : Met l yX12_init wsX12_init ({ frames := 1, cells := 2, slots := 0, locals := 20 }) (va_Pc [.ref q0, .int 119] (zB (dC, dI) [] [(q0, .inr (14, [.int 0, .int 0, .int 0, .null, .int 0, .null, .int 0, .int 0]))] sz)) (va_Qv (fun (_ : Unit) => True) (fun _ t => ∃ q1 : Nat, ∃ q2 : Nat, ∃ k0 : ClassId, zE (dC, dI) [(k0, .long)] [(q0, .inr (14, [.int 119, .int 0, .int 1, .ref q1, .int 97, .ref q2, .int 0, .int 0])), (q2, .inl (k0, 0, .inr (.inl (fun _ => 0))))] (va_A [(q0, .inr (14, [.int 0, .int 0, .int 0, .null, .int 0, .null, .int 0, .int 0]))] sz) t) (va_A [(q0, .inr (14, [.int 0, .int 0, .int 0, .null, .int 0, .null, .int 0, .int 0]))] sz)) 2 0 (va_A [(q0, .inr (14, [.int 0, .int 0, .int 0, .null, .int 0, .null, .int 0, .int 0]))] sz) := by
  refine Met.ofW (cc := cX12_init) (maxL := 2) (ret := none) (by decide) rfl ?_
  intro p e s m args below meth c s₁ B hml hv
  obtain ⟨rfl, hsz, hP, hK, hD0, hZ, hN⟩ := hv
  have hx := B.exec
  have hb := B.bytes
  have hr := B.returns
  have hts := atoms_spec (ws := wsX12_init) B.pre
  have hown : s.vm.findClass RX12 = some m.cls := findClass_of_methodNamed B.named
  have hlocks := B.notSynchronized
  have hin : meth.name = "<init>" := (name_of_methodNamed B.named B.method).1
  subst hsz
  have hD := hD0.self (sz := s.heap.size)
  generalize hAe : va_A [(q0, .inr (14, [.int 0, .int 0, .int 0, .null, .int 0, .null, .int 0, .int 0]))] s.heap.size = A at hD hZ ⊢
  have hA : ∀ q : Nat, s.heap.size ≤ q → A q := fun q h => by rw [← hAe]; exact Or.inr h
  have hS : va_S A s.heap s.heap [] := va_S.rf
  have hP : va_P (dC, dI) vwCl [(q0, .inr (14, [.int 0, .int 0, .int 0, .null, .int 0, .null, .int 0, .int 0]))] s.heap := hP
  have hl := lv_entry ([.ref q0, .int 119]) (n := 2) (Nat.le_of_ble_eq_true rfl)
  rw [lg_entry_eq]
  generalize (lg_sl ([.ref q0, .int 119]) ++ List.replicate (2 - (lg_sl ([.ref q0, .int 119])).length) Slot.unset).toArray = ls at hl ⊢
  have hl : lv_has ls 2 [(0, .ref q0), (1, .int 119)] := hl
  refine lv_aload_n hx hb dX12_init_0 rfl (lv_at hl 0 rfl) ?_
  refine z_objInit hx hb hown (hts (.methodLink RX12 1 objectInit) (by decide +kernel)) (hts (.instanceMethod objectInit) (by decide +kernel)) (hts (.code objectInit ⟨#[0xb1]⟩ 1 none) (by decide +kernel)) (hl.1.trans hml.symm) dX12_init_1 (Nat.le_of_ble_eq_true rfl) (Nat.le_of_ble_eq_true rfl) ?_
  refine lv_aload_n hx hb dX12_init_4 rfl (lv_at hl 0 rfl) ?_
  refine lv_iconst (v := 1) hx hb dX12_init_5 (by decide +kernel) ?_
  refine va_put (D := (dC, dI)) (ci := 14) (v := .int 1) (ty := .int) (C := RX12) (T := TX12) (N := 8) hx hb hts (fun _ h => List.mem_cons_of_mem _ (List.mem_append_right _ h)) tyX12 tyX12_ok nmX12 hown hK hP hD hS 0 rfl rfl 2 (by decide) (hts (.fieldLink RX12 7 "SeekwellModel$Node" "weight" "I") (by decide +kernel)) (fun _ h9 => h9) rfl (by decide +kernel) rfl rfl (Nat.le_of_ble_eq_true rfl) dX12_init_6 (fun H locs hP hD hS => ?_)
  have hP : va_P (dC, dI) vwCl [(q0, .inr (14, [.int 0, .int 0, .int 1, .null, .int 0, .null, .int 0, .int 0]))] H := hP
  have hD : va_D A [(q0, .inr (14, [.int 0, .int 0, .int 1, .null, .int 0, .null, .int 0, .int 0]))] := hD
  refine lv_aload_n hx hb dX12_init_9 rfl (lv_at hl 0 rfl) ?_
  refine lv_iconst (v := 0) hx hb dX12_init_10 (by decide +kernel) ?_
  refine va_newq (D := (dC, dI)) (C := "SeekwellModel$Node") (N' := 0) hx hb hown (hts (.classLink RX12 8 "SeekwellModel$Node") (by decide +kernel)) (hN.2.2.1 "SeekwellModel$Node" (by decide +kernel)) hK hP hD hS hA (by decide +kernel) (by decide +kernel) (Nat.le_of_ble_eq_true rfl) (Nat.le_of_ble_eq_true rfl) (Nat.le_of_ble_eq_true rfl) dX12_init_11 (fun q1 k1 H hK hP hD hS => ?_)
  have hP : va_P (dC, dI) vwCl [(q0, .inr (14, [.int 0, .int 0, .int 1, .null, .int 0, .null, .int 0, .int 0])), (q1, .inl (k1, 0, .inr (.inr (.inr (.inr (fun _ => none))))))] H := hP
  have hD : va_D A [(q0, .inr (14, [.int 0, .int 0, .int 1, .null, .int 0, .null, .int 0, .int 0])), (q1, .inl (k1, 0, .inr (.inr (.inr (.inr (fun _ => none))))))] := hD
  have hK : va_K (dC, dI) vwCl [(k1, (.object "SeekwellModel$Node"))] s := hK
  refine W.widen (k := 1) (n := 0) (Nat.le_of_ble_eq_true rfl) (Nat.le_of_ble_eq_true rfl) ?_
  refine va_put (D := (dC, dI)) (ci := 14) (v := .ref q1) (ty := (.array (.object "SeekwellModel$Node"))) (C := RX12) (T := TX12) (N := 8) hx hb hts (fun _ h => List.mem_cons_of_mem _ (List.mem_append_right _ h)) tyX12 tyX12_ok nmX12 hown hK hP hD hS 0 rfl rfl 3 (by decide) (hts (.fieldLink RX12 13 "SeekwellModel$Node" "rows" "[LSeekwellModel$Node;") (by decide +kernel)) (fun _ h9 => h9) rfl (by decide +kernel) rfl rfl (Nat.le_of_ble_eq_true rfl) dX12_init_14 (fun H locs hP hD hS => ?_)
  have hP : va_P (dC, dI) vwCl [(q0, .inr (14, [.int 0, .int 0, .int 1, .ref q1, .int 0, .null, .int 0, .int 0])), (q1, .inl (k1, 0, .inr (.inr (.inr (.inr (fun _ => none))))))] H := hP
  have hD : va_D A [(q0, .inr (14, [.int 0, .int 0, .int 1, .ref q1, .int 0, .null, .int 0, .int 0])), (q1, .inl (k1, 0, .inr (.inr (.inr (.inr (fun _ => none))))))] := hD
  refine lv_aload_n hx hb dX12_init_17 rfl (lv_at hl 0 rfl) ?_
  refine lv_bipush (v := 97) hx hb dX12_init_18 (by decide +kernel) ?_
  refine va_put (D := (dC, dI)) (ci := 14) (v := .int 97) (ty := .char) (C := RX12) (T := TX12) (N := 8) hx hb hts (fun _ h => List.mem_cons_of_mem _ (List.mem_append_right _ h)) tyX12 tyX12_ok nmX12 hown hK hP hD hS 0 rfl rfl 4 (by decide) (hts (.fieldLink RX12 17 "SeekwellModel$Node" "where" "C") (by decide +kernel)) (fun _ h9 => h9) rfl (by decide +kernel) rfl rfl (Nat.le_of_ble_eq_true rfl) dX12_init_20 (fun H locs hP hD hS => ?_)
  have hP : va_P (dC, dI) vwCl [(q0, .inr (14, [.int 0, .int 0, .int 1, .ref q1, .int 97, .null, .int 0, .int 0])), (q1, .inl (k1, 0, .inr (.inr (.inr (.inr (fun _ => none))))))] H := hP
  have hD : va_D A [(q0, .inr (14, [.int 0, .int 0, .int 1, .ref q1, .int 97, .null, .int 0, .int 0])), (q1, .inl (k1, 0, .inr (.inr (.inr (.inr (fun _ => none))))))] := hD
  refine lv_aload_n hx hb dX12_init_23 rfl (lv_at hl 0 rfl) ?_
  refine lv_iconst (v := 0) hx hb dX12_init_24 (by decide +kernel) ?_
  refine va_newa (D := (dC, dI)) (atype := .long) (ty := .long) (a0 := (0, .inr (.inl (fun _ => 0)))) (N' := 0) hx hb (hts (.arrayClass .long) (by decide +kernel)) rfl hK hP hD hS hA (fun _ => rfl) (by decide +kernel) (by decide +kernel) (Nat.le_of_ble_eq_true rfl) (Nat.le_of_ble_eq_true rfl) (Nat.le_of_ble_eq_true rfl) dX12_init_25 (fun q2 k0 H hK hP hD hS => ?_)
  have hP : va_P (dC, dI) vwCl [(q0, .inr (14, [.int 0, .int 0, .int 1, .ref q1, .int 97, .null, .int 0, .int 0])), (q1, .inl (k1, 0, .inr (.inr (.inr (.inr (fun _ => none)))))), (q2, .inl (k0, 0, .inr (.inl (fun _ => 0))))] H := hP
  have hD : va_D A [(q0, .inr (14, [.int 0, .int 0, .int 1, .ref q1, .int 97, .null, .int 0, .int 0])), (q1, .inl (k1, 0, .inr (.inr (.inr (.inr (fun _ => none)))))), (q2, .inl (k0, 0, .inr (.inl (fun _ => 0))))] := hD
  have hK : va_K (dC, dI) vwCl [(k1, (.object "SeekwellModel$Node")), (k0, .long)] s := hK
  refine W.widen (k := 2) (n := 0) (Nat.le_of_ble_eq_true rfl) (Nat.le_of_ble_eq_true rfl) ?_
  refine va_put (D := (dC, dI)) (ci := 14) (v := .ref q2) (ty := (.array .long)) (C := RX12) (T := TX12) (N := 8) hx hb hts (fun _ h => List.mem_cons_of_mem _ (List.mem_append_right _ h)) tyX12 tyX12_ok nmX12 hown hK hP hD hS 0 rfl rfl 5 (by decide) (hts (.fieldLink RX12 21 "SeekwellModel$Node" "words" "[J") (by decide +kernel)) (fun _ h9 => h9) rfl (by decide +kernel) rfl rfl (Nat.le_of_ble_eq_true rfl) dX12_init_27 (fun H locs hP hD hS => ?_)
  have hP : va_P (dC, dI) vwCl [(q0, .inr (14, [.int 0, .int 0, .int 1, .ref q1, .int 97, .ref q2, .int 0, .int 0])), (q1, .inl (k1, 0, .inr (.inr (.inr (.inr (fun _ => none)))))), (q2, .inl (k0, 0, .inr (.inl (fun _ => 0))))] H := hP
  have hD : va_D A [(q0, .inr (14, [.int 0, .int 0, .int 1, .ref q1, .int 97, .ref q2, .int 0, .int 0])), (q1, .inl (k1, 0, .inr (.inr (.inr (.inr (fun _ => none)))))), (q2, .inl (k0, 0, .inr (.inl (fun _ => 0))))] := hD
  refine lv_aload_n hx hb dX12_init_30 rfl (lv_at hl 0 rfl) ?_
  refine lv_iload_n hx hb dX12_init_31 rfl (lv_at hl 1 rfl) ?_
  refine va_putF (D := (dC, dI)) (ci := 14) (v := .int 119) (ty := .char) (C := RX12) (T := TX12) (N := 8) hx hb hts (fun _ h => List.mem_cons_of_mem _ (List.mem_append_right _ h)) tyX12 tyX12_ok nmX12 hown hK hP hD hS 0 rfl rfl 0 (by decide) (hts (.fieldLink RX12 25 "SeekwellModel$Node" "kind" "C") (by decide +kernel)) (fun _ h9 => h9) rfl hin rfl (by decide +kernel) rfl rfl (Nat.le_of_ble_eq_true rfl) dX12_init_32 (fun H locs hP hD hS => ?_)
  have hP : va_P (dC, dI) vwCl [(q0, .inr (14, [.int 119, .int 0, .int 1, .ref q1, .int 97, .ref q2, .int 0, .int 0])), (q1, .inl (k1, 0, .inr (.inr (.inr (.inr (fun _ => none)))))), (q2, .inl (k0, 0, .inr (.inl (fun _ => 0))))] H := hP
  have hD : va_D A [(q0, .inr (14, [.int 119, .int 0, .int 1, .ref q1, .int 97, .ref q2, .int 0, .int 0])), (q1, .inl (k1, 0, .inr (.inr (.inr (.inr (fun _ => none)))))), (q2, .inl (k0, 0, .inr (.inl (fun _ => 0))))] := hD
  have hP9 := hP.sub (ws' := [(q0, .inr (14, [.int 119, .int 0, .int 1, .ref q1, .int 97, .ref q2, .int 0, .int 0])), (q2, .inl (k0, 0, .inr (.inl (fun _ => 0))))]) [0, 2] rfl
  have hD9 := hD.sub (ws' := [(q0, .inr (14, [.int 119, .int 0, .int 1, .ref q1, .int 97, .ref q2, .int 0, .int 0])), (q2, .inl (k0, 0, .inr (.inl (fun _ => 0))))]) [0, 2] (by decide) rfl
  have hK9 := hK.sub (tys' := [(k0, .long)]) [1] rfl
  exact W.vret hx hb hr (fun t ht hW => ⟨⟨(), rfl, trivial, q1, q2, k0, ⟨by rw [ht]; exact hP9, va_K.moved hW.alike hK9, hD9⟩⟩, hS.F ht⟩) hS.2.2 dX12_init_35
set_option maxHeartbeats 4000000 in
set_option maxRecDepth 100000 in
theorem c_X12_hears (l : Launch) (dC : Nat → ClassId) (dI : Nat → Nat → Nat) (q0 q1 q2 : Nat) (k0 : ClassId) (sz : Nat) : Met l yX12_hears wsX12_hears ({ frames := 0, cells := 1, slots := 1, locals := 0 }) (va_Pc [.ref q0, .long 0] (zB (dC, dI) [(k0, .long)] [(q0, .inr (14, [.int 119, .int 0, .int 1, .ref q1, .int 97, .ref q2, .int 0, .int 0])), (q2, .inl (k0, 0, .inr (.inl (fun _ => 0))))] sz)) (va_Qv (fun (_ : Unit) => True) (fun _ t => ∃ q3 : Nat, zE (dC, dI) [] [(q0, .inr (14, [.int 119, .int 0, .int 1, .ref q1, .int 97, .ref q3, .int 0, .int 0]))] (va_A [(q0, .inr (14, [.int 119, .int 0, .int 1, .ref q1, .int 97, .ref q2, .int 0, .int 0])), (q2, .inl (k0, 0, .inr (.inl (fun _ => 0))))] sz) t) (va_A [(q0, .inr (14, [.int 119, .int 0, .int 1, .ref q1, .int 97, .ref q2, .int 0, .int 0])), (q2, .inl (k0, 0, .inr (.inl (fun _ => 0))))] sz)) 1 1 (va_A [(q0, .inr (14, [.int 119, .int 0, .int 1, .ref q1, .int 97, .ref q2, .int 0, .int 0])), (q2, .inl (k0, 0, .inr (.inl (fun _ => 0))))] sz) := by
  refine Met.ofW (cc := cX12_hears) (maxL := 5) (ret := none) (by decide) rfl ?_
  intro p e s m args below meth c s₁ B hml hv
  obtain ⟨rfl, hsz, hP, hK, hD0, hZ, hN⟩ := hv
  have hx := B.exec
  have hb := B.bytes
  have hr := B.returns
  have hts := atoms_spec (ws := wsX12_hears) B.pre
  have hown : s.vm.findClass RX12 = some m.cls := findClass_of_methodNamed B.named
  have hlocks := B.notSynchronized
  subst hsz
  have hD := hD0.self (sz := s.heap.size)
  generalize hAe : va_A [(q0, .inr (14, [.int 119, .int 0, .int 1, .ref q1, .int 97, .ref q2, .int 0, .int 0])), (q2, .inl (k0, 0, .inr (.inl (fun _ => 0))))] s.heap.size = A at hD hZ ⊢
  have hA : ∀ q : Nat, s.heap.size ≤ q → A q := fun q h => by rw [← hAe]; exact Or.inr h
  have hS : va_S A s.heap s.heap [] := va_S.rf
  have hP : va_P (dC, dI) vwCl [(q0, .inr (14, [.int 119, .int 0, .int 1, .ref q1, .int 97, .ref q2, .int 0, .int 0])), (q2, .inl (k0, 0, .inr (.inl (fun _ => 0))))] s.heap := hP
  have hl := lv_entry ([.ref q0, .long 0]) (n := 5) (Nat.le_of_ble_eq_true rfl)
  rw [lg_entry_eq]
  generalize (lg_sl ([.ref q0, .long 0]) ++ List.replicate (5 - (lg_sl ([.ref q0, .long 0])).length) Slot.unset).toArray = ls at hl ⊢
  have hl : lv_has ls 5 [(0, .ref q0), (1, .long 0)] := hl
  refine lv_aload_n hx hb dX12_hears_0 rfl (lv_at hl 0 rfl) ?_
  refine va_get (D := (dC, dI)) (ci := 14) (v := .ref q2) (C := RX12) (T := TX12) (N := 8) hx hb hts (fun _ h => List.mem_cons_of_mem _ (List.mem_append_left _ (List.mem_append_right _ h))) hown hK hP 0 rfl rfl 5 (by decide) (hts (.fieldLink RX12 21 "SeekwellModel$Node" "words" "[J") (by decide +kernel)) (fun _ h9 => h9) rfl dX12_hears_1 ?_
  refine va_alen (D := (dC, dI)) (v := 0) hx hb hK hP 1 0 rfl rfl (show Int32.ofNat 0 = 0 by decide +kernel) dX12_hears_4 ?_
  refine lv_iconst (v := 1) hx hb dX12_hears_5 (by decide +kernel) ?_
  refine lv_iadd hx hb dX12_hears_6 ?_
  refine zt_i (v := 1) (by decide +kernel) ?_
  refine va_newa (D := (dC, dI)) (atype := .long) (ty := .long) (a0 := (1, .inr (.inl (fun _ => 0)))) (N' := 1) hx hb (hts (.arrayClass .long) (by decide +kernel)) rfl hK hP hD hS hA (fun _ => rfl) (by decide +kernel) (by decide +kernel) (Nat.le_of_ble_eq_true rfl) (Nat.le_of_ble_eq_true rfl) (Nat.le_of_ble_eq_true rfl) dX12_hears_7 (fun q3 k1 H hK hP hD hS => ?_)
  have hP : va_P (dC, dI) vwCl [(q0, .inr (14, [.int 119, .int 0, .int 1, .ref q1, .int 97, .ref q2, .int 0, .int 0])), (q2, .inl (k0, 0, .inr (.inl (fun _ => 0)))), (q3, .inl (k1, 1, .inr (.inl (fun _ => 0))))] H := hP
  have hD : va_D A [(q0, .inr (14, [.int 119, .int 0, .int 1, .ref q1, .int 97, .ref q2, .int 0, .int 0])), (q2, .inl (k0, 0, .inr (.inl (fun _ => 0)))), (q3, .inl (k1, 1, .inr (.inl (fun _ => 0))))] := hD
  have hK : va_K (dC, dI) vwCl [(k0, .long), (k1, .long)] s := hK
  refine W.widen (k := 1) (n := 1) (Nat.le_of_ble_eq_true rfl) (Nat.le_of_ble_eq_true rfl) ?_
  refine lv_astore_n (lv' := [(3, .ref q3), (0, .ref q0), (1, .long 0)]) hx hb dX12_hears_9 rfl hl (by decide) rfl (fun ls hl => ?_)
  refine lv_iconst (v := 0) hx hb dX12_hears_10 (by decide +kernel) ?_
  refine lv_istore (lv' := [(4, .int 0), (3, .ref q3), (0, .ref q0), (1, .long 0)]) hx hb dX12_hears_11 hl (by decide) rfl (fun ls hl => ?_)
  refine lv_iload hx hb dX12_hears_13 (lv_at hl 0 rfl) ?_
  refine lv_aload_n hx hb dX12_hears_15 rfl (lv_at hl 2 rfl) ?_
  refine va_get (D := (dC, dI)) (ci := 14) (v := .ref q2) (C := RX12) (T := TX12) (N := 8) hx hb hts (fun _ h => List.mem_cons_of_mem _ (List.mem_append_left _ (List.mem_append_right _ h))) hown hK hP 0 rfl rfl 5 (by decide) (hts (.fieldLink RX12 21 "SeekwellModel$Node" "words" "[J") (by decide +kernel)) (fun _ h9 => h9) rfl dX12_hears_16 ?_
  refine va_alen (D := (dC, dI)) (v := 0) hx hb hK hP 1 0 rfl rfl (show Int32.ofNat 0 = 0 by decide +kernel) dX12_hears_19 ?_
  refine lv_icmp_ge (tgt := 40) hx hb dX12_hears_20 (by decide) (fun _ => ?_) (fun h9 => absurd (show (0 : Int32) ≤ (0 : Int32) by decide +kernel) h9)
  refine lv_aload_n hx hb dX12_hears_40 rfl (lv_at hl 1 rfl) ?_
  refine lv_aload_n hx hb dX12_hears_41 rfl (lv_at hl 2 rfl) ?_
  refine va_get (D := (dC, dI)) (ci := 14) (v := .ref q2) (C := RX12) (T := TX12) (N := 8) hx hb hts (fun _ h => List.mem_cons_of_mem _ (List.mem_append_left _ (List.mem_append_right _ h))) hown hK hP 0 rfl rfl 5 (by decide) (hts (.fieldLink RX12 21 "SeekwellModel$Node" "words" "[J") (by decide +kernel)) (fun _ h9 => h9) rfl dX12_hears_42 ?_
  refine va_alen (D := (dC, dI)) (v := 0) hx hb hK hP 1 0 rfl rfl (show Int32.ofNat 0 = 0 by decide +kernel) dX12_hears_45 ?_
  refine lv_lload_n hx hb dX12_hears_46 rfl (lv_at hl 3 rfl) ?_
  refine va_last (D := (dC, dI)) hx hb hK hP hD hS 2 1 rfl rfl (i := 0) (x := 0) (zin (by decide +kernel)) dX12_hears_47 (fun H locs hP hD hS => ?_)
  have hP : va_P (dC, dI) vwCl [(q0, .inr (14, [.int 119, .int 0, .int 1, .ref q1, .int 97, .ref q2, .int 0, .int 0])), (q2, .inl (k0, 0, .inr (.inl (fun _ => 0)))), (q3, .inl (k1, 1, .inr (.inl (vp_updL (fun _ => 0) (0 : Int32).toNatClampNeg 0))))] H := hP
  have hD : va_D A [(q0, .inr (14, [.int 119, .int 0, .int 1, .ref q1, .int 97, .ref q2, .int 0, .int 0])), (q2, .inl (k0, 0, .inr (.inl (fun _ => 0)))), (q3, .inl (k1, 1, .inr (.inl (vp_updL (fun _ => 0) (0 : Int32).toNatClampNeg 0))))] := hD
  refine lv_aload_n hx hb dX12_hears_48 rfl (lv_at hl 2 rfl) ?_
  refine lv_aload_n hx hb dX12_hears_49 rfl (lv_at hl 1 rfl) ?_
  refine va_put (D := (dC, dI)) (ci := 14) (v := .ref q3) (ty := (.array .long)) (C := RX12) (T := TX12) (N := 8) hx hb hts (fun _ h => List.mem_cons_of_mem _ (List.mem_append_left _ (List.mem_append_right _ h))) tyX12 tyX12_ok nmX12 hown hK hP hD hS 0 rfl rfl 5 (by decide) (hts (.fieldLink RX12 21 "SeekwellModel$Node" "words" "[J") (by decide +kernel)) (fun _ h9 => h9) rfl (by decide +kernel) rfl rfl (Nat.le_of_ble_eq_true rfl) dX12_hears_50 (fun H locs hP hD hS => ?_)
  have hP : va_P (dC, dI) vwCl [(q0, .inr (14, [.int 119, .int 0, .int 1, .ref q1, .int 97, .ref q3, .int 0, .int 0])), (q2, .inl (k0, 0, .inr (.inl (fun _ => 0)))), (q3, .inl (k1, 1, .inr (.inl (vp_updL (fun _ => 0) (0 : Int32).toNatClampNeg 0))))] H := hP
  have hD : va_D A [(q0, .inr (14, [.int 119, .int 0, .int 1, .ref q1, .int 97, .ref q3, .int 0, .int 0])), (q2, .inl (k0, 0, .inr (.inl (fun _ => 0)))), (q3, .inl (k1, 1, .inr (.inl (vp_updL (fun _ => 0) (0 : Int32).toNatClampNeg 0))))] := hD
  have hP9 := hP.sub (ws' := [(q0, .inr (14, [.int 119, .int 0, .int 1, .ref q1, .int 97, .ref q3, .int 0, .int 0]))]) [0] rfl
  have hD9 := hD.sub (ws' := [(q0, .inr (14, [.int 119, .int 0, .int 1, .ref q1, .int 97, .ref q3, .int 0, .int 0]))]) [0] (by decide) rfl
  have hK9 := hK.sub (tys' := []) [] rfl
  exact W.vret hx hb hr (fun t ht hW => ⟨⟨(), rfl, trivial, q3, ⟨by rw [ht]; exact hP9, va_K.moved hW.alike hK9, hD9⟩⟩, hS.F ht⟩) hS.2.2 dX12_hears_53
set_option maxHeartbeats 4000000 in
set_option maxRecDepth 100000 in
theorem c_X13_unit (l : Launch) (dC : Nat → ClassId) (dI : Nat → Nat → Nat) (q0 q1 q2 q3 q4 q5 q6 q7 q8 q9 q10 q11 q12 q13 q14 q15 q16 q17 q18 q19 : Nat) (sz : Nat) : Met l yX13_unit wsX13_unit ({ frames := 2, cells := 5, slots := 21, locals := 46 }) (va_Pc [.ref q0] (zB (dC, dI) [] [(q0, .inr (15, [.ref q1, .ref q2, .ref q3, .ref q4, .ref q5, .ref q6, .int 0, .int 1, .ref q7, .int 0, .ref q8, .null, .ref q9, .null, .ref q10, .ref q11, .ref q12, .ref q13, .ref q14, .int 0, .ref q15, .ref q16, .ref q17, .ref q18, .ref q19, .int 0, .int (-1)]))] sz)) (va_Qr (fun (_ : Unit) => True) (fun _ ra t => ∃ q20 : Nat, ∃ q21 : Nat, ∃ q22 : Nat, q20 = ra ∧ zE (dC, dI) [] [(q0, .inr (15, [.ref q1, .ref q2, .ref q3, .ref q4, .ref q5, .ref q6, .int 0, .int 1, .ref q7, .int 0, .ref q8, .null, .ref q9, .null, .ref q10, .ref q11, .ref q12, .ref q13, .ref q14, .int 0, .ref q15, .ref q16, .ref q17, .ref q18, .ref q19, .int 0, .int 0])), (q20, .inr (14, [.int 119, .int 0, .int 1, .ref q21, .int 97, .ref q22, .int 0, .int 0]))] (va_A [(q0, .inr (15, [.ref q1, .ref q2, .ref q3, .ref q4, .ref q5, .ref q6, .int 0, .int 1, .ref q7, .int 0, .ref q8, .null, .ref q9, .null, .ref q10, .ref q11, .ref q12, .ref q13, .ref q14, .int 0, .ref q15, .ref q16, .ref q17, .ref q18, .ref q19, .int 0, .int (-1)]))] sz) t) (va_A [(q0, .inr (15, [.ref q1, .ref q2, .ref q3, .ref q4, .ref q5, .ref q6, .int 0, .int 1, .ref q7, .int 0, .ref q8, .null, .ref q9, .null, .ref q10, .ref q11, .ref q12, .ref q13, .ref q14, .int 0, .ref q15, .ref q16, .ref q17, .ref q18, .ref q19, .int 0, .int (-1)]))] sz)) 5 21 (va_A [(q0, .inr (15, [.ref q1, .ref q2, .ref q3, .ref q4, .ref q5, .ref q6, .int 0, .int 1, .ref q7, .int 0, .ref q8, .null, .ref q9, .null, .ref q10, .ref q11, .ref q12, .ref q13, .ref q14, .int 0, .ref q15, .ref q16, .ref q17, .ref q18, .ref q19, .int 0, .int (-1)]))] sz) := by
  refine Met.ofW (cc := cX13_unit) (maxL := 6) (ret := (some (.object "SeekwellModel$Node"))) (by decide) rfl ?_
  intro p e s m args below meth c s₁ B hml hv
  obtain ⟨rfl, hsz, hP, hK, hD0, hZ, hN⟩ := hv
  have hx := B.exec
  have hb := B.bytes
  have hr := B.returns
  have hts := atoms_spec (ws := wsX13_unit) B.pre
  have hown : s.vm.findClass RX13 = some m.cls := findClass_of_methodNamed B.named
  have hlocks := B.notSynchronized
  subst hsz
  have hD := hD0.self (sz := s.heap.size)
  generalize hAe : va_A [(q0, .inr (15, [.ref q1, .ref q2, .ref q3, .ref q4, .ref q5, .ref q6, .int 0, .int 1, .ref q7, .int 0, .ref q8, .null, .ref q9, .null, .ref q10, .ref q11, .ref q12, .ref q13, .ref q14, .int 0, .ref q15, .ref q16, .ref q17, .ref q18, .ref q19, .int 0, .int (-1)]))] s.heap.size = A at hD hZ ⊢
  have hA : ∀ q : Nat, s.heap.size ≤ q → A q := fun q h => by rw [← hAe]; exact Or.inr h
  have hS : va_S A s.heap s.heap [] := va_S.rf
  have hP : va_P (dC, dI) vwCl [(q0, .inr (15, [.ref q1, .ref q2, .ref q3, .ref q4, .ref q5, .ref q6, .int 0, .int 1, .ref q7, .int 0, .ref q8, .null, .ref q9, .null, .ref q10, .ref q11, .ref q12, .ref q13, .ref q14, .int 0, .ref q15, .ref q16, .ref q17, .ref q18, .ref q19, .int 0, .int (-1)]))] s.heap := hP
  have hl := lv_entry ([.ref q0]) (n := 6) (Nat.le_of_ble_eq_true rfl)
  rw [lg_entry_eq]
  generalize (lg_sl ([.ref q0]) ++ List.replicate (6 - (lg_sl ([.ref q0])).length) Slot.unset).toArray = ls at hl ⊢
  have hl : lv_has ls 6 [(0, .ref q0)] := hl
  refine lv_aload_n hx hb dX13_unit_0 rfl (lv_at hl 0 rfl) ?_
  refine lv_bipush (v := 60) hx hb dX13_unit_1 (by decide +kernel) ?_
  have hPc := hP.sub (ws' := [(q0, .inr (15, [.ref q1, .ref q2, .ref q3, .ref q4, .ref q5, .ref q6, .int 0, .int 1, .ref q7, .int 0, .ref q8, .null, .ref q9, .null, .ref q10, .ref q11, .ref q12, .ref q13, .ref q14, .int 0, .ref q15, .ref q16, .ref q17, .ref q18, .ref q19, .int 0, .int (-1)]))]) [0] rfl
  have hDc := hD.sub (ws' := [(q0, .inr (15, [.ref q1, .ref q2, .ref q3, .ref q4, .ref q5, .ref q6, .int 0, .int 1, .ref q7, .int 0, .ref q8, .null, .ref q9, .null, .ref q10, .ref q11, .ref q12, .ref q13, .ref q14, .int 0, .ref q15, .ref q16, .ref q17, .ref q18, .ref q19, .int 0, .int (-1)]))]) [0] (by decide) rfl
  have hKc := hK.sub (tys' := []) [] rfl
  have hFc := va_free (wc := [(q0, .inr (15, [.ref q1, .ref q2, .ref q3, .ref q4, .ref q5, .ref q6, .int 0, .int 1, .ref q7, .int 0, .ref q8, .null, .ref q9, .null, .ref q10, .ref q11, .ref q12, .ref q13, .ref q14, .int 0, .ref q15, .ref q16, .ref q17, .ref q18, .ref q19, .int 0, .int (-1)]))]) hD hS hA [0] rfl
  refine va_calli (va_runV (As := [.int 60]) (rest := []) ⟨hx, hb, hml, hown, hts⟩ (c_X13_is_3 l dC dI q0 q1 q2 q3 q4 q5 q6 q7 q8 q9 q10 q11 q12 q13 q14 q15 q16 q17 q18 q19 s.heap.size  ) (cwV 1 hts gX13_unit_X13_is rfl rfl rfl (by decide +kernel) ⟨Nat.le_of_ble_eq_true rfl, Nat.le_of_ble_eq_true rfl⟩) ⟨zB_blind, va_recv hK hP (ci := 15) (q0 := 0) rfl rfl, (zPre hPc hDc hKc hS hFc hZ hN)⟩ rfl rfl hl.1 rfl (lv_room (Nat.le_of_ble_eq_true rfl)) dX13_unit_3 ⟨Nat.le_of_ble_eq_true rfl, Nat.le_of_ble_eq_true rfl⟩) hS (fun q _ h => hFc q h) hFc (fun r u t H1 locs ht hvm hw hB hz1 hk1 hS => ?_)
  subst hw
  obtain ⟨hP1, hK1, hD1⟩ := hB
  rw [ht] at hP1
  have hK1 := va_K.moved hvm.symm hK1
  obtain ⟨hP, hD⟩ := va_join (wr := []) (w1 := [(q0, .inr (15, [.ref q1, .ref q2, .ref q3, .ref q4, .ref q5, .ref q6, .int 0, .int 1, .ref q7, .int 0, .ref q8, .null, .ref q9, .null, .ref q10, .ref q11, .ref q12, .ref q13, .ref q14, .int 0, .ref q15, .ref q16, .ref q17, .ref q18, .ref q19, .int 0, .int (-1)]))]) hP hD [0] [] rfl rfl (by decide) (by decide) hk1 hFc hP1 hD1
  have hK := (hK.sub (tys' := []) [] rfl).app hK1
  generalize H1 = H at hP hS ⊢
  have hP : va_P (dC, dI) vwCl [(q0, .inr (15, [.ref q1, .ref q2, .ref q3, .ref q4, .ref q5, .ref q6, .int 0, .int 1, .ref q7, .int 0, .ref q8, .null, .ref q9, .null, .ref q10, .ref q11, .ref q12, .ref q13, .ref q14, .int 0, .ref q15, .ref q16, .ref q17, .ref q18, .ref q19, .int 0, .int (-1)]))] H := hP
  have hD : va_D A [(q0, .inr (15, [.ref q1, .ref q2, .ref q3, .ref q4, .ref q5, .ref q6, .int 0, .int 1, .ref q7, .int 0, .ref q8, .null, .ref q9, .null, .ref q10, .ref q11, .ref q12, .ref q13, .ref q14, .int 0, .ref q15, .ref q16, .ref q17, .ref q18, .ref q19, .int 0, .int (-1)]))] := hD
  have hK : va_K (dC, dI) vwCl [] s := hK
  refine W.widen (k := 0) (n := 0) (Nat.le_of_ble_eq_true rfl) (Nat.le_of_ble_eq_true rfl) ?_
  refine lv_if_eq (tgt := 14) hx hb dX13_unit_6 (by decide) (fun _ => ?_) (fun h9 => absurd (show (0 : Int32) = (0 : Int32) by decide +kernel) h9)
  refine lv_aload_n hx hb dX13_unit_14 rfl (lv_at hl 0 rfl) ?_
  refine lv_bipush (v := 62) hx hb dX13_unit_15 (by decide +kernel) ?_
  have hPc := hP.sub (ws' := [(q0, .inr (15, [.ref q1, .ref q2, .ref q3, .ref q4, .ref q5, .ref q6, .int 0, .int 1, .ref q7, .int 0, .ref q8, .null, .ref q9, .null, .ref q10, .ref q11, .ref q12, .ref q13, .ref q14, .int 0, .ref q15, .ref q16, .ref q17, .ref q18, .ref q19, .int 0, .int (-1)]))]) [0] rfl
  have hDc := hD.sub (ws' := [(q0, .inr (15, [.ref q1, .ref q2, .ref q3, .ref q4, .ref q5, .ref q6, .int 0, .int 1, .ref q7, .int 0, .ref q8, .null, .ref q9, .null, .ref q10, .ref q11, .ref q12, .ref q13, .ref q14, .int 0, .ref q15, .ref q16, .ref q17, .ref q18, .ref q19, .int 0, .int (-1)]))]) [0] (by decide) rfl
  have hKc := hK.sub (tys' := []) [] rfl
  have hFc := va_free (wc := [(q0, .inr (15, [.ref q1, .ref q2, .ref q3, .ref q4, .ref q5, .ref q6, .int 0, .int 1, .ref q7, .int 0, .ref q8, .null, .ref q9, .null, .ref q10, .ref q11, .ref q12, .ref q13, .ref q14, .int 0, .ref q15, .ref q16, .ref q17, .ref q18, .ref q19, .int 0, .int (-1)]))]) hD hS hA [0] rfl
  refine va_calli (va_runV (As := [.int 62]) (rest := []) ⟨hx, hb, hml, hown, hts⟩ (c_X13_is_4 l dC dI q0 q1 q2 q3 q4 q5 q6 q7 q8 q9 q10 q11 q12 q13 q14 q15 q16 q17 q18 q19 H.size  ) (cwV 1 hts gX13_unit_X13_is rfl rfl rfl (by decide +kernel) ⟨Nat.le_of_ble_eq_true rfl, Nat.le_of_ble_eq_true rfl⟩) ⟨zB_blind, va_recv hK hP (ci := 15) (q0 := 0) rfl rfl, (zPre hPc hDc hKc hS hFc hZ hN)⟩ rfl rfl hl.1 rfl (lv_room (Nat.le_of_ble_eq_true rfl)) dX13_unit_17 ⟨Nat.le_of_ble_eq_true rfl, Nat.le_of_ble_eq_true rfl⟩) hS (fun q _ h => hFc q h) hFc (fun r u t H1 locs ht hvm hw hB hz1 hk1 hS => ?_)
  subst hw
  obtain ⟨hP1, hK1, hD1⟩ := hB
  rw [ht] at hP1
  have hK1 := va_K.moved hvm.symm hK1
  obtain ⟨hP, hD⟩ := va_join (wr := []) (w1 := [(q0, .inr (15, [.ref q1, .ref q2, .ref q3, .ref q4, .ref q5, .ref q6, .int 0, .int 1, .ref q7, .int 0, .ref q8, .null, .ref q9, .null, .ref q10, .ref q11, .ref q12, .ref q13, .ref q14, .int 0, .ref q15, .ref q16, .ref q17, .ref q18, .ref q19, .int 0, .int (-1)]))]) hP hD [0] [] rfl rfl (by decide) (by decide) hk1 hFc hP1 hD1
  have hK := (hK.sub (tys' := []) [] rfl).app hK1
  generalize H1 = H at hP hS ⊢
  have hP : va_P (dC, dI) vwCl [(q0, .inr (15, [.ref q1, .ref q2, .ref q3, .ref q4, .ref q5, .ref q6, .int 0, .int 1, .ref q7, .int 0, .ref q8, .null, .ref q9, .null, .ref q10, .ref q11, .ref q12, .ref q13, .ref q14, .int 0, .ref q15, .ref q16, .ref q17, .ref q18, .ref q19, .int 0, .int (-1)]))] H := hP
  have hD : va_D A [(q0, .inr (15, [.ref q1, .ref q2, .ref q3, .ref q4, .ref q5, .ref q6, .int 0, .int 1, .ref q7, .int 0, .ref q8, .null, .ref q9, .null, .ref q10, .ref q11, .ref q12, .ref q13, .ref q14, .int 0, .ref q15, .ref q16, .ref q17, .ref q18, .ref q19, .int 0, .int (-1)]))] := hD
  have hK : va_K (dC, dI) vwCl [] s := hK
  refine W.widen (k := 0) (n := 0) (Nat.le_of_ble_eq_true rfl) (Nat.le_of_ble_eq_true rfl) ?_
  refine lv_if_eq (tgt := 28) hx hb dX13_unit_20 (by decide) (fun _ => ?_) (fun h9 => absurd (show (0 : Int32) = (0 : Int32) by decide +kernel) h9)
  refine lv_bipush (v := 97) hx hb dX13_unit_28 (by decide +kernel) ?_
  refine lv_istore_n (lv' := [(1, .int 97), (0, .ref q0)]) hx hb dX13_unit_30 rfl hl (by decide) rfl (fun ls hl => ?_)
  refine lv_aload_n hx hb dX13_unit_31 rfl (lv_at hl 1 rfl) ?_
  refine lv_dup hx hb dX13_unit_32 rfl ?_
  refine va_get (D := (dC, dI)) (ci := 15) (v := .int 0) (C := RX13) (T := TX13) (N := 27) hx hb hts (fun _ h => List.mem_cons_of_mem _ (List.mem_append_left _ (List.mem_append_left _ (List.mem_append_right _ h)))) hown hK hP 0 rfl rfl 25 (by decide) (hts (.fieldLink RX13 210 "SeekwellModel" "at" "I") (by decide +kernel)) (fun _ h9 => h9) rfl dX13_unit_33 ?_
  refine lv_iload_n hx hb dX13_unit_36 rfl (lv_at hl 0 rfl) ?_
  refine lv_bipush (v := 97) hx hb dX13_unit_37 (by decide +kernel) ?_
  refine lv_icmp_ne (tgt := 46) hx hb dX13_unit_39 (by decide) (fun h9 => absurd (show (97 : Int32) = (97 : Int32) by decide +kernel) h9) (fun _ => ?_)
  refine lv_iconst (v := 0) hx hb dX13_unit_42 (by decide +kernel) ?_
  refine lv_goto (tgt := 47) hx hb dX13_unit_43 (by decide) ?_
  refine lv_iadd hx hb dX13_unit_47 ?_
  refine zt_i (v := 0) (by decide +kernel) ?_
  refine va_put (D := (dC, dI)) (ci := 15) (v := .int 0) (ty := .int) (C := RX13) (T := TX13) (N := 27) hx hb hts (fun _ h => List.mem_cons_of_mem _ (List.mem_append_left _ (List.mem_append_left _ (List.mem_append_right _ h)))) tyX13 tyX13_ok nmX13 hown hK hP hD hS 0 rfl rfl 25 (by decide) (hts (.fieldLink RX13 210 "SeekwellModel" "at" "I") (by decide +kernel)) (fun _ h9 => h9) rfl (by decide +kernel) rfl rfl (Nat.le_of_ble_eq_true rfl) dX13_unit_48 (fun H locs hP hD hS => ?_)
  have hP : va_P (dC, dI) vwCl [(q0, .inr (15, [.ref q1, .ref q2, .ref q3, .ref q4, .ref q5, .ref q6, .int 0, .int 1, .ref q7, .int 0, .ref q8, .null, .ref q9, .null, .ref q10, .ref q11, .ref q12, .ref q13, .ref q14, .int 0, .ref q15, .ref q16, .ref q17, .ref q18, .ref q19, .int 0, .int (-1)]))] H := hP
  have hD : va_D A [(q0, .inr (15, [.ref q1, .ref q2, .ref q3, .ref q4, .ref q5, .ref q6, .int 0, .int 1, .ref q7, .int 0, .ref q8, .null, .ref q9, .null, .ref q10, .ref q11, .ref q12, .ref q13, .ref q14, .int 0, .ref q15, .ref q16, .ref q17, .ref q18, .ref q19, .int 0, .int (-1)]))] := hD
  refine lv_aload_n hx hb dX13_unit_51 rfl (lv_at hl 1 rfl) ?_
  refine lv_bipush (v := 34) hx hb dX13_unit_52 (by decide +kernel) ?_
  have hPc := hP.sub (ws' := [(q0, .inr (15, [.ref q1, .ref q2, .ref q3, .ref q4, .ref q5, .ref q6, .int 0, .int 1, .ref q7, .int 0, .ref q8, .null, .ref q9, .null, .ref q10, .ref q11, .ref q12, .ref q13, .ref q14, .int 0, .ref q15, .ref q16, .ref q17, .ref q18, .ref q19, .int 0, .int (-1)]))]) [0] rfl
  have hDc := hD.sub (ws' := [(q0, .inr (15, [.ref q1, .ref q2, .ref q3, .ref q4, .ref q5, .ref q6, .int 0, .int 1, .ref q7, .int 0, .ref q8, .null, .ref q9, .null, .ref q10, .ref q11, .ref q12, .ref q13, .ref q14, .int 0, .ref q15, .ref q16, .ref q17, .ref q18, .ref q19, .int 0, .int (-1)]))]) [0] (by decide) rfl
  have hKc := hK.sub (tys' := []) [] rfl
  have hFc := va_free (wc := [(q0, .inr (15, [.ref q1, .ref q2, .ref q3, .ref q4, .ref q5, .ref q6, .int 0, .int 1, .ref q7, .int 0, .ref q8, .null, .ref q9, .null, .ref q10, .ref q11, .ref q12, .ref q13, .ref q14, .int 0, .ref q15, .ref q16, .ref q17, .ref q18, .ref q19, .int 0, .int (-1)]))]) hD hS hA [0] rfl
  refine va_calli (va_runV (As := [.int 34]) (rest := []) ⟨hx, hb, hml, hown, hts⟩ (c_X13_is_5 l dC dI q0 q1 q2 q3 q4 q5 q6 q7 q8 q9 q10 q11 q12 q13 q14 q15 q16 q17 q18 q19 H.size  ) (cwV 1 hts gX13_unit_X13_is rfl rfl rfl (by decide +kernel) ⟨Nat.le_of_ble_eq_true rfl, Nat.le_of_ble_eq_true rfl⟩) ⟨zB_blind, va_recv hK hP (ci := 15) (q0 := 0) rfl rfl, (zPre hPc hDc hKc hS hFc hZ hN)⟩ rfl rfl hl.1 rfl (lv_room (Nat.le_of_ble_eq_true rfl)) dX13_unit_54 ⟨Nat.le_of_ble_eq_true rfl, Nat.le_of_ble_eq_true rfl⟩) hS (fun q _ h => hFc q h) hFc (fun r u t H1 locs ht hvm hw hB hz1 hk1 hS => ?_)
  subst hw
  obtain ⟨hP1, hK1, hD1⟩ := hB
  rw [ht] at hP1
  have hK1 := va_K.moved hvm.symm hK1
  obtain ⟨hP, hD⟩ := va_join (wr := []) (w1 := [(q0, .inr (15, [.ref q1, .ref q2, .ref q3, .ref q4, .ref q5, .ref q6, .int 0, .int 1, .ref q7, .int 0, .ref q8, .null, .ref q9, .null, .ref q10, .ref q11, .ref q12, .ref q13, .ref q14, .int 0, .ref q15, .ref q16, .ref q17, .ref q18, .ref q19, .int 0, .int (-1)]))]) hP hD [0] [] rfl rfl (by decide) (by decide) hk1 hFc hP1 hD1
  have hK := (hK.sub (tys' := []) [] rfl).app hK1
  generalize H1 = H at hP hS ⊢
  have hP : va_P (dC, dI) vwCl [(q0, .inr (15, [.ref q1, .ref q2, .ref q3, .ref q4, .ref q5, .ref q6, .int 0, .int 1, .ref q7, .int 0, .ref q8, .null, .ref q9, .null, .ref q10, .ref q11, .ref q12, .ref q13, .ref q14, .int 0, .ref q15, .ref q16, .ref q17, .ref q18, .ref q19, .int 0, .int (-1)]))] H := hP
  have hD : va_D A [(q0, .inr (15, [.ref q1, .ref q2, .ref q3, .ref q4, .ref q5, .ref q6, .int 0, .int 1, .ref q7, .int 0, .ref q8, .null, .ref q9, .null, .ref q10, .ref q11, .ref q12, .ref q13, .ref q14, .int 0, .ref q15, .ref q16, .ref q17, .ref q18, .ref q19, .int 0, .int (-1)]))] := hD
  have hK : va_K (dC, dI) vwCl [] s := hK
  refine W.widen (k := 0) (n := 0) (Nat.le_of_ble_eq_true rfl) (Nat.le_of_ble_eq_true rfl) ?_
  refine lv_if_eq (tgt := 156) hx hb dX13_unit_57 (by decide) (fun _ => ?_) (fun h9 => absurd (show (0 : Int32) = (0 : Int32) by decide +kernel) h9)
  refine lv_aload_n hx hb dX13_unit_156 rfl (lv_at hl 1 rfl) ?_
  refine lv_bipush (v := 123) hx hb dX13_unit_157 (by decide +kernel) ?_
  have hPc := hP.sub (ws' := [(q0, .inr (15, [.ref q1, .ref q2, .ref q3, .ref q4, .ref q5, .ref q6, .int 0, .int 1, .ref q7, .int 0, .ref q8, .null, .ref q9, .null, .ref q10, .ref q11, .ref q12, .ref q13, .ref q14, .int 0, .ref q15, .ref q16, .ref q17, .ref q18, .ref q19, .int 0, .int (-1)]))]) [0] rfl
  have hDc := hD.sub (ws' := [(q0, .inr (15, [.ref q1, .ref q2, .ref q3, .ref q4, .ref q5, .ref q6, .int 0, .int 1, .ref q7, .int 0, .ref q8, .null, .ref q9, .null, .ref q10, .ref q11, .ref q12, .ref q13, .ref q14, .int 0, .ref q15, .ref q16, .ref q17, .ref q18, .ref q19, .int 0, .int (-1)]))]) [0] (by decide) rfl
  have hKc := hK.sub (tys' := []) [] rfl
  have hFc := va_free (wc := [(q0, .inr (15, [.ref q1, .ref q2, .ref q3, .ref q4, .ref q5, .ref q6, .int 0, .int 1, .ref q7, .int 0, .ref q8, .null, .ref q9, .null, .ref q10, .ref q11, .ref q12, .ref q13, .ref q14, .int 0, .ref q15, .ref q16, .ref q17, .ref q18, .ref q19, .int 0, .int (-1)]))]) hD hS hA [0] rfl
  refine va_calli (va_runV (As := [.int 123]) (rest := []) ⟨hx, hb, hml, hown, hts⟩ (c_X13_is_6 l dC dI q0 q1 q2 q3 q4 q5 q6 q7 q8 q9 q10 q11 q12 q13 q14 q15 q16 q17 q18 q19 H.size  ) (cwV 1 hts gX13_unit_X13_is rfl rfl rfl (by decide +kernel) ⟨Nat.le_of_ble_eq_true rfl, Nat.le_of_ble_eq_true rfl⟩) ⟨zB_blind, va_recv hK hP (ci := 15) (q0 := 0) rfl rfl, (zPre hPc hDc hKc hS hFc hZ hN)⟩ rfl rfl hl.1 rfl (lv_room (Nat.le_of_ble_eq_true rfl)) dX13_unit_159 ⟨Nat.le_of_ble_eq_true rfl, Nat.le_of_ble_eq_true rfl⟩) hS (fun q _ h => hFc q h) hFc (fun r u t H1 locs ht hvm hw hB hz1 hk1 hS => ?_)
  subst hw
  obtain ⟨hP1, hK1, hD1⟩ := hB
  rw [ht] at hP1
  have hK1 := va_K.moved hvm.symm hK1
  obtain ⟨hP, hD⟩ := va_join (wr := []) (w1 := [(q0, .inr (15, [.ref q1, .ref q2, .ref q3, .ref q4, .ref q5, .ref q6, .int 0, .int 1, .ref q7, .int 0, .ref q8, .null, .ref q9, .null, .ref q10, .ref q11, .ref q12, .ref q13, .ref q14, .int 0, .ref q15, .ref q16, .ref q17, .ref q18, .ref q19, .int 0, .int (-1)]))]) hP hD [0] [] rfl rfl (by decide) (by decide) hk1 hFc hP1 hD1
  have hK := (hK.sub (tys' := []) [] rfl).app hK1
  generalize H1 = H at hP hS ⊢
  have hP : va_P (dC, dI) vwCl [(q0, .inr (15, [.ref q1, .ref q2, .ref q3, .ref q4, .ref q5, .ref q6, .int 0, .int 1, .ref q7, .int 0, .ref q8, .null, .ref q9, .null, .ref q10, .ref q11, .ref q12, .ref q13, .ref q14, .int 0, .ref q15, .ref q16, .ref q17, .ref q18, .ref q19, .int 0, .int (-1)]))] H := hP
  have hD : va_D A [(q0, .inr (15, [.ref q1, .ref q2, .ref q3, .ref q4, .ref q5, .ref q6, .int 0, .int 1, .ref q7, .int 0, .ref q8, .null, .ref q9, .null, .ref q10, .ref q11, .ref q12, .ref q13, .ref q14, .int 0, .ref q15, .ref q16, .ref q17, .ref q18, .ref q19, .int 0, .int (-1)]))] := hD
  have hK : va_K (dC, dI) vwCl [] s := hK
  refine W.widen (k := 0) (n := 0) (Nat.le_of_ble_eq_true rfl) (Nat.le_of_ble_eq_true rfl) ?_
  refine lv_if_eq (tgt := 334) hx hb dX13_unit_162 (by decide) (fun _ => ?_) (fun h9 => absurd (show (0 : Int32) = (0 : Int32) by decide +kernel) h9)
  refine lv_aload_n hx hb dX13_unit_334 rfl (lv_at hl 1 rfl) ?_
  refine lv_bipush (v := 91) hx hb dX13_unit_335 (by decide +kernel) ?_
  have hPc := hP.sub (ws' := [(q0, .inr (15, [.ref q1, .ref q2, .ref q3, .ref q4, .ref q5, .ref q6, .int 0, .int 1, .ref q7, .int 0, .ref q8, .null, .ref q9, .null, .ref q10, .ref q11, .ref q12, .ref q13, .ref q14, .int 0, .ref q15, .ref q16, .ref q17, .ref q18, .ref q19, .int 0, .int (-1)]))]) [0] rfl
  have hDc := hD.sub (ws' := [(q0, .inr (15, [.ref q1, .ref q2, .ref q3, .ref q4, .ref q5, .ref q6, .int 0, .int 1, .ref q7, .int 0, .ref q8, .null, .ref q9, .null, .ref q10, .ref q11, .ref q12, .ref q13, .ref q14, .int 0, .ref q15, .ref q16, .ref q17, .ref q18, .ref q19, .int 0, .int (-1)]))]) [0] (by decide) rfl
  have hKc := hK.sub (tys' := []) [] rfl
  have hFc := va_free (wc := [(q0, .inr (15, [.ref q1, .ref q2, .ref q3, .ref q4, .ref q5, .ref q6, .int 0, .int 1, .ref q7, .int 0, .ref q8, .null, .ref q9, .null, .ref q10, .ref q11, .ref q12, .ref q13, .ref q14, .int 0, .ref q15, .ref q16, .ref q17, .ref q18, .ref q19, .int 0, .int (-1)]))]) hD hS hA [0] rfl
  refine va_calli (va_runV (As := [.int 91]) (rest := []) ⟨hx, hb, hml, hown, hts⟩ (c_X13_is_7 l dC dI q0 q1 q2 q3 q4 q5 q6 q7 q8 q9 q10 q11 q12 q13 q14 q15 q16 q17 q18 q19 H.size  ) (cwV 1 hts gX13_unit_X13_is rfl rfl rfl (by decide +kernel) ⟨Nat.le_of_ble_eq_true rfl, Nat.le_of_ble_eq_true rfl⟩) ⟨zB_blind, va_recv hK hP (ci := 15) (q0 := 0) rfl rfl, (zPre hPc hDc hKc hS hFc hZ hN)⟩ rfl rfl hl.1 rfl (lv_room (Nat.le_of_ble_eq_true rfl)) dX13_unit_337 ⟨Nat.le_of_ble_eq_true rfl, Nat.le_of_ble_eq_true rfl⟩) hS (fun q _ h => hFc q h) hFc (fun r u t H1 locs ht hvm hw hB hz1 hk1 hS => ?_)
  subst hw
  obtain ⟨hP1, hK1, hD1⟩ := hB
  rw [ht] at hP1
  have hK1 := va_K.moved hvm.symm hK1
  obtain ⟨hP, hD⟩ := va_join (wr := []) (w1 := [(q0, .inr (15, [.ref q1, .ref q2, .ref q3, .ref q4, .ref q5, .ref q6, .int 0, .int 1, .ref q7, .int 0, .ref q8, .null, .ref q9, .null, .ref q10, .ref q11, .ref q12, .ref q13, .ref q14, .int 0, .ref q15, .ref q16, .ref q17, .ref q18, .ref q19, .int 0, .int (-1)]))]) hP hD [0] [] rfl rfl (by decide) (by decide) hk1 hFc hP1 hD1
  have hK := (hK.sub (tys' := []) [] rfl).app hK1
  generalize H1 = H at hP hS ⊢
  have hP : va_P (dC, dI) vwCl [(q0, .inr (15, [.ref q1, .ref q2, .ref q3, .ref q4, .ref q5, .ref q6, .int 0, .int 1, .ref q7, .int 0, .ref q8, .null, .ref q9, .null, .ref q10, .ref q11, .ref q12, .ref q13, .ref q14, .int 0, .ref q15, .ref q16, .ref q17, .ref q18, .ref q19, .int 0, .int (-1)]))] H := hP
  have hD : va_D A [(q0, .inr (15, [.ref q1, .ref q2, .ref q3, .ref q4, .ref q5, .ref q6, .int 0, .int 1, .ref q7, .int 0, .ref q8, .null, .ref q9, .null, .ref q10, .ref q11, .ref q12, .ref q13, .ref q14, .int 0, .ref q15, .ref q16, .ref q17, .ref q18, .ref q19, .int 0, .int (-1)]))] := hD
  have hK : va_K (dC, dI) vwCl [] s := hK
  refine W.widen (k := 0) (n := 0) (Nat.le_of_ble_eq_true rfl) (Nat.le_of_ble_eq_true rfl) ?_
  refine lv_if_eq (tgt := 443) hx hb dX13_unit_340 (by decide) (fun _ => ?_) (fun h9 => absurd (show (0 : Int32) = (0 : Int32) by decide +kernel) h9)
  refine lv_aload_n hx hb dX13_unit_443 rfl (lv_at hl 1 rfl) ?_
  have hPc := hP.sub (ws' := [(q0, .inr (15, [.ref q1, .ref q2, .ref q3, .ref q4, .ref q5, .ref q6, .int 0, .int 1, .ref q7, .int 0, .ref q8, .null, .ref q9, .null, .ref q10, .ref q11, .ref q12, .ref q13, .ref q14, .int 0, .ref q15, .ref q16, .ref q17, .ref q18, .ref q19, .int 0, .int (-1)]))]) [0] rfl
  have hDc := hD.sub (ws' := [(q0, .inr (15, [.ref q1, .ref q2, .ref q3, .ref q4, .ref q5, .ref q6, .int 0, .int 1, .ref q7, .int 0, .ref q8, .null, .ref q9, .null, .ref q10, .ref q11, .ref q12, .ref q13, .ref q14, .int 0, .ref q15, .ref q16, .ref q17, .ref q18, .ref q19, .int 0, .int (-1)]))]) [0] (by decide) rfl
  have hKc := hK.sub (tys' := []) [] rfl
  have hFc := va_free (wc := [(q0, .inr (15, [.ref q1, .ref q2, .ref q3, .ref q4, .ref q5, .ref q6, .int 0, .int 1, .ref q7, .int 0, .ref q8, .null, .ref q9, .null, .ref q10, .ref q11, .ref q12, .ref q13, .ref q14, .int 0, .ref q15, .ref q16, .ref q17, .ref q18, .ref q19, .int 0, .int (-1)]))]) hD hS hA [0] rfl
  refine va_calll (va_runV (As := []) (rest := []) ⟨hx, hb, hml, hown, hts⟩ (c_X13_wordAt l dC dI q0 q1 q2 q3 q4 q5 q6 q7 q8 q9 q10 q11 q12 q13 q14 q15 q16 q17 q18 q19 H.size  ) (cwV 0 hts gX13_unit_X13_wordAt rfl rfl rfl (by decide +kernel) ⟨Nat.le_of_ble_eq_true rfl, Nat.le_of_ble_eq_true rfl⟩) ⟨zB_blind, va_recv hK hP (ci := 15) (q0 := 0) rfl rfl, (zPre hPc hDc hKc hS hFc hZ hN)⟩ rfl rfl hl.1 rfl (lv_room (Nat.le_of_ble_eq_true rfl)) dX13_unit_444 ⟨Nat.le_of_ble_eq_true rfl, Nat.le_of_ble_eq_true rfl⟩) hS (fun q _ h => hFc q h) hFc (fun r u t H1 locs ht hvm hw hB hz1 hk1 hS => ?_)
  subst hw
  obtain ⟨hP1, hK1, hD1⟩ := hB
  rw [ht] at hP1
  have hK1 := va_K.moved hvm.symm hK1
  obtain ⟨hP, hD⟩ := va_join (wr := []) (w1 := [(q0, .inr (15, [.ref q1, .ref q2, .ref q3, .ref q4, .ref q5, .ref q6, .int 0, .int 1, .ref q7, .int 0, .ref q8, .null, .ref q9, .null, .ref q10, .ref q11, .ref q12, .ref q13, .ref q14, .int 0, .ref q15, .ref q16, .ref q17, .ref q18, .ref q19, .int 0, .int 0]))]) hP hD [0] [] rfl rfl (by decide) (by decide) hk1 hFc hP1 hD1
  have hK := (hK.sub (tys' := []) [] rfl).app hK1
  generalize H1 = H at hP hS ⊢
  have hP : va_P (dC, dI) vwCl [(q0, .inr (15, [.ref q1, .ref q2, .ref q3, .ref q4, .ref q5, .ref q6, .int 0, .int 1, .ref q7, .int 0, .ref q8, .null, .ref q9, .null, .ref q10, .ref q11, .ref q12, .ref q13, .ref q14, .int 0, .ref q15, .ref q16, .ref q17, .ref q18, .ref q19, .int 0, .int 0]))] H := hP
  have hD : va_D A [(q0, .inr (15, [.ref q1, .ref q2, .ref q3, .ref q4, .ref q5, .ref q6, .int 0, .int 1, .ref q7, .int 0, .ref q8, .null, .ref q9, .null, .ref q10, .ref q11, .ref q12, .ref q13, .ref q14, .int 0, .ref q15, .ref q16, .ref q17, .ref q18, .ref q19, .int 0, .int 0]))] := hD
  have hK : va_K (dC, dI) vwCl [] s := hK
  refine W.widen (k := 1) (n := 12) (Nat.le_of_ble_eq_true rfl) (Nat.le_of_ble_eq_true rfl) ?_
  refine lv_lstore_n (lv' := [(3, .long 0), (1, .int 97), (0, .ref q0)]) hx hb dX13_unit_447 rfl hl (by decide) rfl (fun ls hl => ?_)
  refine lv_aload_n hx hb dX13_unit_448 rfl (lv_at hl 2 rfl) ?_
  refine va_get (D := (dC, dI)) (ci := 15) (v := .int 0) (C := RX13) (T := TX13) (N := 27) hx hb hts (fun _ h => List.mem_cons_of_mem _ (List.mem_append_left _ (List.mem_append_left _ (List.mem_append_right _ h)))) hown hK hP 0 rfl rfl 26 (by decide) (hts (.fieldLink RX13 216 "SeekwellModel" "fault" "I") (by decide +kernel)) (fun _ h9 => h9) rfl dX13_unit_449 ?_
  refine lv_if_lt (tgt := 460) hx hb dX13_unit_452 (by decide) (fun h9 => absurd h9 (show ¬ (0 : Int32) < (0 : Int32) by decide +kernel)) (fun _ => ?_)
  refine lv_bipush (v := 119) hx hb dX13_unit_455 (by decide +kernel) ?_
  refine lv_goto (tgt := 490) hx hb dX13_unit_457 (by decide) ?_
  refine lv_istore (lv' := [(5, .int 119), (3, .long 0), (1, .int 97), (0, .ref q0)]) hx hb dX13_unit_490 hl (by decide) rfl (fun ls hl => ?_)
  refine lv_aload_n hx hb dX13_unit_492 rfl (lv_at hl 3 rfl) ?_
  refine lv_dup hx hb dX13_unit_493 rfl ?_
  refine va_get (D := (dC, dI)) (ci := 15) (v := .int 0) (C := RX13) (T := TX13) (N := 27) hx hb hts (fun _ h => List.mem_cons_of_mem _ (List.mem_append_left _ (List.mem_append_left _ (List.mem_append_right _ h)))) hown hK hP 0 rfl rfl 25 (by decide) (hts (.fieldLink RX13 210 "SeekwellModel" "at" "I") (by decide +kernel)) (fun _ h9 => h9) rfl dX13_unit_494 ?_
  refine lv_iload hx hb dX13_unit_497 (lv_at hl 0 rfl) ?_
  refine lv_bipush (v := 119) hx hb dX13_unit_499 (by decide +kernel) ?_
  refine lv_icmp_ne (tgt := 508) hx hb dX13_unit_501 (by decide) (fun h9 => absurd (show (119 : Int32) = (119 : Int32) by decide +kernel) h9) (fun _ => ?_)
  refine lv_iconst (v := 0) hx hb dX13_unit_504 (by decide +kernel) ?_
  refine lv_goto (tgt := 509) hx hb dX13_unit_505 (by decide) ?_
  refine lv_iadd hx hb dX13_unit_509 ?_
  refine zt_i (v := 0) (by decide +kernel) ?_
  refine va_put (D := (dC, dI)) (ci := 15) (v := .int 0) (ty := .int) (C := RX13) (T := TX13) (N := 27) hx hb hts (fun _ h => List.mem_cons_of_mem _ (List.mem_append_left _ (List.mem_append_left _ (List.mem_append_right _ h)))) tyX13 tyX13_ok nmX13 hown hK hP hD hS 0 rfl rfl 25 (by decide) (hts (.fieldLink RX13 210 "SeekwellModel" "at" "I") (by decide +kernel)) (fun _ h9 => h9) rfl (by decide +kernel) rfl rfl (Nat.le_of_ble_eq_true rfl) dX13_unit_510 (fun H locs hP hD hS => ?_)
  have hP : va_P (dC, dI) vwCl [(q0, .inr (15, [.ref q1, .ref q2, .ref q3, .ref q4, .ref q5, .ref q6, .int 0, .int 1, .ref q7, .int 0, .ref q8, .null, .ref q9, .null, .ref q10, .ref q11, .ref q12, .ref q13, .ref q14, .int 0, .ref q15, .ref q16, .ref q17, .ref q18, .ref q19, .int 0, .int 0]))] H := hP
  have hD : va_D A [(q0, .inr (15, [.ref q1, .ref q2, .ref q3, .ref q4, .ref q5, .ref q6, .int 0, .int 1, .ref q7, .int 0, .ref q8, .null, .ref q9, .null, .ref q10, .ref q11, .ref q12, .ref q13, .ref q14, .int 0, .ref q15, .ref q16, .ref q17, .ref q18, .ref q19, .int 0, .int 0]))] := hD
  refine va_new (D := (dC, dI)) (ci := 14) (fs := [.int 0, .int 0, .int 0, .null, .int 0, .null, .int 0, .int 0]) (C := RX12) (T := TX12) (N := 8) hx hb hts (fun _ h => List.mem_cons_of_mem _ (List.mem_append_left _ (List.mem_append_right _ h))) tyX12 tyX12_ok hown (hts (.classLink RX13 43 RX12) (by decide +kernel)) (hts (.instantiable RX12 8) (by decide +kernel)) (hts (.initialized RX12) (by decide +kernel)) hK hP hD hS hA rfl (zfs (by decide)) (Nat.le_of_ble_eq_true rfl) (Nat.le_of_ble_eq_true rfl) dX13_unit_513 (fun q20 H hP hD hS => ?_)
  have hP : va_P (dC, dI) vwCl [(q0, .inr (15, [.ref q1, .ref q2, .ref q3, .ref q4, .ref q5, .ref q6, .int 0, .int 1, .ref q7, .int 0, .ref q8, .null, .ref q9, .null, .ref q10, .ref q11, .ref q12, .ref q13, .ref q14, .int 0, .ref q15, .ref q16, .ref q17, .ref q18, .ref q19, .int 0, .int 0])), (q20, .inr (14, [.int 0, .int 0, .int 0, .null, .int 0, .null, .int 0, .int 0]))] H := hP
  have hD : va_D A [(q0, .inr (15, [.ref q1, .ref q2, .ref q3, .ref q4, .ref q5, .ref q6, .int 0, .int 1, .ref q7, .int 0, .ref q8, .null, .ref q9, .null, .ref q10, .ref q11, .ref q12, .ref q13, .ref q14, .int 0, .ref q15, .ref q16, .ref q17, .ref q18, .ref q19, .int 0, .int 0])), (q20, .inr (14, [.int 0, .int 0, .int 0, .null, .int 0, .null, .int 0, .int 0]))] := hD
  refine W.widen (k := 2) (n := 20) (Nat.le_of_ble_eq_true rfl) (Nat.le_of_ble_eq_true rfl) ?_
  refine lv_dup hx hb dX13_unit_516 rfl ?_
  refine lv_iload hx hb dX13_unit_517 (lv_at hl 0 rfl) ?_
  have hPc := hP.sub (ws' := [(q20, .inr (14, [.int 0, .int 0, .int 0, .null, .int 0, .null, .int 0, .int 0]))]) [1] rfl
  have hDc := hD.sub (ws' := [(q20, .inr (14, [.int 0, .int 0, .int 0, .null, .int 0, .null, .int 0, .int 0]))]) [1] (by decide) rfl
  have hKc := hK.sub (tys' := []) [] rfl
  have hFc := va_free (wc := [(q20, .inr (14, [.int 0, .int 0, .int 0, .null, .int 0, .null, .int 0, .int 0]))]) hD hS hA [1] rfl
  refine va_callv (va_runI (As := [.int 119]) (rest := [.ref q20]) ⟨hx, hb, hml, hown, hts⟩ (c_X12_init_3 l dC dI q20 H.size  ) (cwI 1 hts gX13_unit_X12_init rfl rfl rfl (hts (.initialized RX12) (by decide +kernel)) (hts (.methodLink RX13 219 yX12_init) (by decide +kernel)) (hts (.instanceMethod yX12_init) (by decide +kernel)) rfl (by decide +kernel) ⟨Nat.le_of_ble_eq_true rfl, Nat.le_of_ble_eq_true rfl⟩) ⟨zB_blind, (zPre hPc hDc hKc hS hFc hZ hN)⟩ rfl rfl hl.1 rfl (lv_room (Nat.le_of_ble_eq_true rfl)) dX13_unit_519 ⟨Nat.le_of_ble_eq_true rfl, Nat.le_of_ble_eq_true rfl⟩) hS (fun q _ h => hFc q h) hFc (fun u t H1 locs ht hvm hw hB hz1 hk1 hS => ?_)
  obtain ⟨q21, q23, k0, hP1, hK1, hD1⟩ := hB
  rw [ht] at hP1
  have hK1 := va_K.moved hvm.symm hK1
  obtain ⟨hP, hD⟩ := va_join (wr := [(q0, .inr (15, [.ref q1, .ref q2, .ref q3, .ref q4, .ref q5, .ref q6, .int 0, .int 1, .ref q7, .int 0, .ref q8, .null, .ref q9, .null, .ref q10, .ref q11, .ref q12, .ref q13, .ref q14, .int 0, .ref q15, .ref q16, .ref q17, .ref q18, .ref q19, .int 0, .int 0]))]) (w1 := [(q20, .inr (14, [.int 119, .int 0, .int 1, .ref q21, .int 97, .ref q23, .int 0, .int 0])), (q23, .inl (k0, 0, .inr (.inl (fun _ => 0))))]) hP hD [1] [0] rfl rfl (by decide) (by decide) hk1 hFc hP1 hD1
  have hK := (hK.sub (tys' := []) [] rfl).app hK1
  generalize H1 = H at hP hS ⊢
  have hP : va_P (dC, dI) vwCl [(q0, .inr (15, [.ref q1, .ref q2, .ref q3, .ref q4, .ref q5, .ref q6, .int 0, .int 1, .ref q7, .int 0, .ref q8, .null, .ref q9, .null, .ref q10, .ref q11, .ref q12, .ref q13, .ref q14, .int 0, .ref q15, .ref q16, .ref q17, .ref q18, .ref q19, .int 0, .int 0])), (q20, .inr (14, [.int 119, .int 0, .int 1, .ref q21, .int 97, .ref q23, .int 0, .int 0])), (q23, .inl (k0, 0, .inr (.inl (fun _ => 0))))] H := hP
  have hD : va_D A [(q0, .inr (15, [.ref q1, .ref q2, .ref q3, .ref q4, .ref q5, .ref q6, .int 0, .int 1, .ref q7, .int 0, .ref q8, .null, .ref q9, .null, .ref q10, .ref q11, .ref q12, .ref q13, .ref q14, .int 0, .ref q15, .ref q16, .ref q17, .ref q18, .ref q19, .int 0, .int 0])), (q20, .inr (14, [.int 119, .int 0, .int 1, .ref q21, .int 97, .ref q23, .int 0, .int 0])), (q23, .inl (k0, 0, .inr (.inl (fun _ => 0))))] := hD
  have hK : va_K (dC, dI) vwCl [(k0, .long)] s := hK
  refine W.widen (k := 4) (n := 20) (Nat.le_of_ble_eq_true rfl) (Nat.le_of_ble_eq_true rfl) ?_
  refine lv_astore_n (lv' := [(2, .ref q20), (5, .int 119), (3, .long 0), (1, .int 97), (0, .ref q0)]) hx hb dX13_unit_522 rfl hl (by decide) rfl (fun ls hl => ?_)
  refine lv_aload_n hx hb dX13_unit_523 rfl (lv_at hl 0 rfl) ?_
  refine lv_iload hx hb dX13_unit_524 (lv_at hl 1 rfl) ?_
  refine lv_bipush (v := 119) hx hb dX13_unit_526 (by decide +kernel) ?_
  refine lv_icmp_ne (tgt := 545) hx hb dX13_unit_528 (by decide) (fun h9 => absurd (show (119 : Int32) = (119 : Int32) by decide +kernel) h9) (fun _ => ?_)
  refine lv_aload_n hx hb dX13_unit_531 rfl (lv_at hl 4 rfl) ?_
  refine va_get (D := (dC, dI)) (ci := 15) (v := .int 0) (C := RX13) (T := TX13) (N := 27) hx hb hts (fun _ h => List.mem_cons_of_mem _ (List.mem_append_left _ (List.mem_append_left _ (List.mem_append_right _ h)))) hown hK hP 0 rfl rfl 26 (by decide) (hts (.fieldLink RX13 216 "SeekwellModel" "fault" "I") (by decide +kernel)) (fun _ h9 => h9) rfl dX13_unit_532 ?_
  refine lv_if_ge (tgt := 545) hx hb dX13_unit_535 (by decide) (fun _ => ?_) (fun h9 => absurd (show (0 : Int32) ≤ (0 : Int32) by decide +kernel) h9)
  refine lv_lload_n hx hb dX13_unit_545 rfl (lv_at hl 2 rfl) ?_
  have hPc := hP.sub (ws' := [(q20, .inr (14, [.int 119, .int 0, .int 1, .ref q21, .int 97, .ref q23, .int 0, .int 0])), (q23, .inl (k0, 0, .inr (.inl (fun _ => 0))))]) [1, 2] rfl
  have hDc := hD.sub (ws' := [(q20, .inr (14, [.int 119, .int 0, .int 1, .ref q21, .int 97, .ref q23, .int 0, .int 0])), (q23, .inl (k0, 0, .inr (.inl (fun _ => 0))))]) [1, 2] (by decide) rfl
  have hKc := hK.sub (tys' := [(k0, .long)]) [0] rfl
  have hFc := va_free (wc := [(q20, .inr (14, [.int 119, .int 0, .int 1, .ref q21, .int 97, .ref q23, .int 0, .int 0])), (q23, .inl (k0, 0, .inr (.inl (fun _ => 0))))]) hD hS hA [1, 2] rfl
  refine va_callv (va_runV (As := [.long 0]) (rest := []) ⟨hx, hb, hml, hown, hts⟩ (c_X12_hears l dC dI q20 q21 q23 k0 H.size  ) (cwV 1 hts gX13_unit_X12_hears rfl rfl rfl (by decide +kernel) ⟨Nat.le_of_ble_eq_true rfl, Nat.le_of_ble_eq_true rfl⟩) ⟨zB_blind, va_recv hK hP (ci := 14) (q0 := 1) rfl rfl, (zPre hPc hDc hKc hS hFc hZ hN)⟩ rfl rfl hl.1 rfl (lv_room (Nat.le_of_ble_eq_true rfl)) dX13_unit_546 ⟨Nat.le_of_ble_eq_true rfl, Nat.le_of_ble_eq_true rfl⟩) hS (fun q _ h => hFc q h) hFc (fun u t H1 locs ht hvm hw hB hz1 hk1 hS => ?_)
  obtain ⟨q22, hP1, hK1, hD1⟩ := hB
  rw [ht] at hP1
  have hK1 := va_K.moved hvm.symm hK1
  obtain ⟨hP, hD⟩ := va_join (wr := [(q0, .inr (15, [.ref q1, .ref q2, .ref q3, .ref q4, .ref q5, .ref q6, .int 0, .int 1, .ref q7, .int 0, .ref q8, .null, .ref q9, .null, .ref q10, .ref q11, .ref q12, .ref q13, .ref q14, .int 0, .ref q15, .ref q16, .ref q17, .ref q18, .ref q19, .int 0, .int 0]))]) (w1 := [(q20, .inr (14, [.int 119, .int 0, .int 1, .ref q21, .int 97, .ref q22, .int 0, .int 0]))]) hP hD [1, 2] [0] rfl rfl (by decide) (by decide) hk1 hFc hP1 hD1
  have hK := (hK.sub (tys' := []) [] rfl).app hK1
  generalize H1 = H at hP hS ⊢
  have hP : va_P (dC, dI) vwCl [(q0, .inr (15, [.ref q1, .ref q2, .ref q3, .ref q4, .ref q5, .ref q6, .int 0, .int 1, .ref q7, .int 0, .ref q8, .null, .ref q9, .null, .ref q10, .ref q11, .ref q12, .ref q13, .ref q14, .int 0, .ref q15, .ref q16, .ref q17, .ref q18, .ref q19, .int 0, .int 0])), (q20, .inr (14, [.int 119, .int 0, .int 1, .ref q21, .int 97, .ref q22, .int 0, .int 0]))] H := hP
  have hD : va_D A [(q0, .inr (15, [.ref q1, .ref q2, .ref q3, .ref q4, .ref q5, .ref q6, .int 0, .int 1, .ref q7, .int 0, .ref q8, .null, .ref q9, .null, .ref q10, .ref q11, .ref q12, .ref q13, .ref q14, .int 0, .ref q15, .ref q16, .ref q17, .ref q18, .ref q19, .int 0, .int 0])), (q20, .inr (14, [.int 119, .int 0, .int 1, .ref q21, .int 97, .ref q22, .int 0, .int 0]))] := hD
  have hK : va_K (dC, dI) vwCl [] s := hK
  refine W.widen (k := 5) (n := 21) (Nat.le_of_ble_eq_true rfl) (Nat.le_of_ble_eq_true rfl) ?_
  refine lv_aload_n hx hb dX13_unit_549 rfl (lv_at hl 0 rfl) ?_
  refine lv_iload_n hx hb dX13_unit_550 rfl (lv_at hl 3 rfl) ?_
  refine va_put (D := (dC, dI)) (ci := 14) (v := .int 97) (ty := .char) (C := RX12) (T := TX12) (N := 8) hx hb hts (fun _ h => List.mem_cons_of_mem _ (List.mem_append_left _ (List.mem_append_right _ h))) tyX12 tyX12_ok nmX12 hown hK hP hD hS 1 rfl rfl 4 (by decide) (hts (.fieldLink RX13 271 "SeekwellModel$Node" "where" "C") (by decide +kernel)) (fun _ h9 => h9) rfl (by decide +kernel) rfl rfl (Nat.le_of_ble_eq_true rfl) dX13_unit_551 (fun H locs hP hD hS => ?_)
  have hP : va_P (dC, dI) vwCl [(q0, .inr (15, [.ref q1, .ref q2, .ref q3, .ref q4, .ref q5, .ref q6, .int 0, .int 1, .ref q7, .int 0, .ref q8, .null, .ref q9, .null, .ref q10, .ref q11, .ref q12, .ref q13, .ref q14, .int 0, .ref q15, .ref q16, .ref q17, .ref q18, .ref q19, .int 0, .int 0])), (q20, .inr (14, [.int 119, .int 0, .int 1, .ref q21, .int 97, .ref q22, .int 0, .int 0]))] H := hP
  have hD : va_D A [(q0, .inr (15, [.ref q1, .ref q2, .ref q3, .ref q4, .ref q5, .ref q6, .int 0, .int 1, .ref q7, .int 0, .ref q8, .null, .ref q9, .null, .ref q10, .ref q11, .ref q12, .ref q13, .ref q14, .int 0, .ref q15, .ref q16, .ref q17, .ref q18, .ref q19, .int 0, .int 0])), (q20, .inr (14, [.int 119, .int 0, .int 1, .ref q21, .int 97, .ref q22, .int 0, .int 0]))] := hD
  refine lv_aload_n hx hb dX13_unit_554 rfl (lv_at hl 0 rfl) ?_
  have hP9 := hP.sub (ws' := [(q0, .inr (15, [.ref q1, .ref q2, .ref q3, .ref q4, .ref q5, .ref q6, .int 0, .int 1, .ref q7, .int 0, .ref q8, .null, .ref q9, .null, .ref q10, .ref q11, .ref q12, .ref q13, .ref q14, .int 0, .ref q15, .ref q16, .ref q17, .ref q18, .ref q19, .int 0, .int 0])), (q20, .inr (14, [.int 119, .int 0, .int 1, .ref q21, .int 97, .ref q22, .int 0, .int 0]))]) [0, 1] rfl
  have hD9 := hD.sub (ws' := [(q0, .inr (15, [.ref q1, .ref q2, .ref q3, .ref q4, .ref q5, .ref q6, .int 0, .int 1, .ref q7, .int 0, .ref q8, .null, .ref q9, .null, .ref q10, .ref q11, .ref q12, .ref q13, .ref q14, .int 0, .ref q15, .ref q16, .ref q17, .ref q18, .ref q19, .int 0, .int 0])), (q20, .inr (14, [.int 119, .int 0, .int 1, .ref q21, .int 97, .ref q22, .int 0, .int 0]))]) [0, 1] (by decide) rfl
  have hK9 := hK.sub (tys' := []) [] rfl
  exact W.aret (v := .ref q20) hx hb hr (Or.inl ⟨_, rfl⟩) (Or.inr ⟨_, rfl⟩) (fun t ht hW => ⟨⟨(), q20, rfl, trivial, q20, q21, q22, rfl, ⟨by rw [ht]; exact hP9, va_K.moved hW.alike hK9, hD9⟩⟩, hS.F ht⟩) hS.2.2 dX13_unit_555
set_option maxHeartbeats 4000000 in
set_option maxRecDepth 100000 in
theorem c_X13_term (l : Launch) (dC : Nat → ClassId) (dI : Nat → Nat → Nat) (q0 q1 q2 q3 q4 q5 q6 q7 q8 q9 q10 q11 q12 q13 q14 q15 q16 q17 q18 q19 : Nat) (sz : Nat) : Met l yX13_term wsX13_term ({ frames := 3, cells := 5, slots := 21, locals := 71 }) (va_Pc [.ref q0] (zB (dC, dI) [] [(q0, .inr (15, [.ref q1, .ref q2, .ref q3, .ref q4, .ref q5, .ref q6, .int 0, .int 1, .ref q7, .int 0, .ref q8, .null, .ref q9, .null, .ref q10, .ref q11, .ref q12, .ref q13, .ref q14, .int 0, .ref q15, .ref q16, .ref q17, .ref q18, .ref q19, .int 0, .int (-1)]))] sz)) (va_Qr (fun (_ : Unit) => True) (fun _ ra t => ∃ q20 : Nat, ∃ q21 : Nat, ∃ q22 : Nat, q20 = ra ∧ zE (dC, dI) [] [(q0, .inr (15, [.ref q1, .ref q2, .ref q3, .ref q4, .ref q5, .ref q6, .int 0, .int 1, .ref q7, .int 0, .ref q8, .null, .ref q9, .null, .ref q10, .ref q11, .ref q12, .ref q13, .ref q14, .int 0, .ref q15, .ref q16, .ref q17, .ref q18, .ref q19, .int 0, .int 0])), (q20, .inr (14, [.int 119, .int 0, .int 1, .ref q21, .int 97, .ref q22, .int 0, .int 0]))] (va_A [(q0, .inr (15, [.ref q1, .ref q2, .ref q3, .ref q4, .ref q5, .ref q6, .int 0, .int 1, .ref q7, .int 0, .ref q8, .null, .ref q9, .null, .ref q10, .ref q11, .ref q12, .ref q13, .ref q14, .int 0, .ref q15, .ref q16, .ref q17, .ref q18, .ref q19, .int 0, .int (-1)]))] sz) t) (va_A [(q0, .inr (15, [.ref q1, .ref q2, .ref q3, .ref q4, .ref q5, .ref q6, .int 0, .int 1, .ref q7, .int 0, .ref q8, .null, .ref q9, .null, .ref q10, .ref q11, .ref q12, .ref q13, .ref q14, .int 0, .ref q15, .ref q16, .ref q17, .ref q18, .ref q19, .int 0, .int (-1)]))] sz)) 5 21 (va_A [(q0, .inr (15, [.ref q1, .ref q2, .ref q3, .ref q4, .ref q5, .ref q6, .int 0, .int 1, .ref q7, .int 0, .ref q8, .null, .ref q9, .null, .ref q10, .ref q11, .ref q12, .ref q13, .ref q14, .int 0, .ref q15, .ref q16, .ref q17, .ref q18, .ref q19, .int 0, .int (-1)]))] sz) := by
  refine Met.ofW (cc := cX13_term) (maxL := 6) (ret := (some (.object "SeekwellModel$Node"))) (by decide) rfl ?_
  intro p e s m args below meth c s₁ B hml hv
  obtain ⟨rfl, hsz, hP, hK, hD0, hZ, hN⟩ := hv
  have hx := B.exec
  have hb := B.bytes
  have hr := B.returns
  have hts := atoms_spec (ws := wsX13_term) B.pre
  have hown : s.vm.findClass RX13 = some m.cls := findClass_of_methodNamed B.named
  have hlocks := B.notSynchronized
  subst hsz
  have hD := hD0.self (sz := s.heap.size)
  generalize hAe : va_A [(q0, .inr (15, [.ref q1, .ref q2, .ref q3, .ref q4, .ref q5, .ref q6, .int 0, .int 1, .ref q7, .int 0, .ref q8, .null, .ref q9, .null, .ref q10, .ref q11, .ref q12, .ref q13, .ref q14, .int 0, .ref q15, .ref q16, .ref q17, .ref q18, .ref q19, .int 0, .int (-1)]))] s.heap.size = A at hD hZ ⊢
  have hA : ∀ q : Nat, s.heap.size ≤ q → A q := fun q h => by rw [← hAe]; exact Or.inr h
  have hS : va_S A s.heap s.heap [] := va_S.rf
  have hP : va_P (dC, dI) vwCl [(q0, .inr (15, [.ref q1, .ref q2, .ref q3, .ref q4, .ref q5, .ref q6, .int 0, .int 1, .ref q7, .int 0, .ref q8, .null, .ref q9, .null, .ref q10, .ref q11, .ref q12, .ref q13, .ref q14, .int 0, .ref q15, .ref q16, .ref q17, .ref q18, .ref q19, .int 0, .int (-1)]))] s.heap := hP
  have hl := lv_entry ([.ref q0]) (n := 6) (Nat.le_of_ble_eq_true rfl)
  rw [lg_entry_eq]
  generalize (lg_sl ([.ref q0]) ++ List.replicate (6 - (lg_sl ([.ref q0])).length) Slot.unset).toArray = ls at hl ⊢
  have hl : lv_has ls 6 [(0, .ref q0)] := hl
  refine lv_aload_n hx hb dX13_term_0 rfl (lv_at hl 0 rfl) ?_
  refine lv_bipush (v := 33) hx hb dX13_term_1 (by decide +kernel) ?_
  have hPc := hP.sub (ws' := [(q0, .inr (15, [.ref q1, .ref q2, .ref q3, .ref q4, .ref q5, .ref q6, .int 0, .int 1, .ref q7, .int 0, .ref q8, .null, .ref q9, .null, .ref q10, .ref q11, .ref q12, .ref q13, .ref q14, .int 0, .ref q15, .ref q16, .ref q17, .ref q18, .ref q19, .int 0, .int (-1)]))]) [0] rfl
  have hDc := hD.sub (ws' := [(q0, .inr (15, [.ref q1, .ref q2, .ref q3, .ref q4, .ref q5, .ref q6, .int 0, .int 1, .ref q7, .int 0, .ref q8, .null, .ref q9, .null, .ref q10, .ref q11, .ref q12, .ref q13, .ref q14, .int 0, .ref q15, .ref q16, .ref q17, .ref q18, .ref q19, .int 0, .int (-1)]))]) [0] (by decide) rfl
  have hKc := hK.sub (tys' := []) [] rfl
  have hFc := va_free (wc := [(q0, .inr (15, [.ref q1, .ref q2, .ref q3, .ref q4, .ref q5, .ref q6, .int 0, .int 1, .ref q7, .int 0, .ref q8, .null, .ref q9, .null, .ref q10, .ref q11, .ref q12, .ref q13, .ref q14, .int 0, .ref q15, .ref q16, .ref q17, .ref q18, .ref q19, .int 0, .int (-1)]))]) hD hS hA [0] rfl
  refine va_calli (va_runV (As := [.int 33]) (rest := []) ⟨hx, hb, hml, hown, hts⟩ (c_X13_is l dC dI q0 q1 q2 q3 q4 q5 q6 q7 q8 q9 q10 q11 q12 q13 q14 q15 q16 q17 q18 q19 s.heap.size  ) (cwV 1 hts gX13_term_X13_is rfl rfl rfl (by decide +kernel) ⟨Nat.le_of_ble_eq_true rfl, Nat.le_of_ble_eq_true rfl⟩) ⟨zB_blind, va_recv hK hP (ci := 15) (q0 := 0) rfl rfl, (zPre hPc hDc hKc hS hFc hZ hN)⟩ rfl rfl hl.1 rfl (lv_room (Nat.le_of_ble_eq_true rfl)) dX13_term_3 ⟨Nat.le_of_ble_eq_true rfl, Nat.le_of_ble_eq_true rfl⟩) hS (fun q _ h => hFc q h) hFc (fun r u t H1 locs ht hvm hw hB hz1 hk1 hS => ?_)
  subst hw
  obtain ⟨hP1, hK1, hD1⟩ := hB
  rw [ht] at hP1
  have hK1 := va_K.moved hvm.symm hK1
  obtain ⟨hP, hD⟩ := va_join (wr := []) (w1 := [(q0, .inr (15, [.ref q1, .ref q2, .ref q3, .ref q4, .ref q5, .ref q6, .int 0, .int 1, .ref q7, .int 0, .ref q8, .null, .ref q9, .null, .ref q10, .ref q11, .ref q12, .ref q13, .ref q14, .int 0, .ref q15, .ref q16, .ref q17, .ref q18, .ref q19, .int 0, .int (-1)]))]) hP hD [0] [] rfl rfl (by decide) (by decide) hk1 hFc hP1 hD1
  have hK := (hK.sub (tys' := []) [] rfl).app hK1
  generalize H1 = H at hP hS ⊢
  have hP : va_P (dC, dI) vwCl [(q0, .inr (15, [.ref q1, .ref q2, .ref q3, .ref q4, .ref q5, .ref q6, .int 0, .int 1, .ref q7, .int 0, .ref q8, .null, .ref q9, .null, .ref q10, .ref q11, .ref q12, .ref q13, .ref q14, .int 0, .ref q15, .ref q16, .ref q17, .ref q18, .ref q19, .int 0, .int (-1)]))] H := hP
  have hD : va_D A [(q0, .inr (15, [.ref q1, .ref q2, .ref q3, .ref q4, .ref q5, .ref q6, .int 0, .int 1, .ref q7, .int 0, .ref q8, .null, .ref q9, .null, .ref q10, .ref q11, .ref q12, .ref q13, .ref q14, .int 0, .ref q15, .ref q16, .ref q17, .ref q18, .ref q19, .int 0, .int (-1)]))] := hD
  have hK : va_K (dC, dI) vwCl [] s := hK
  refine W.widen (k := 0) (n := 0) (Nat.le_of_ble_eq_true rfl) (Nat.le_of_ble_eq_true rfl) ?_
  refine lv_istore_n (lv' := [(1, .int 0), (0, .ref q0)]) hx hb dX13_term_6 rfl hl (by decide) rfl (fun ls hl => ?_)
  refine lv_aload_n hx hb dX13_term_7 rfl (lv_at hl 1 rfl) ?_
  refine lv_dup hx hb dX13_term_8 rfl ?_
  refine va_get (D := (dC, dI)) (ci := 15) (v := .int 0) (C := RX13) (T := TX13) (N := 27) hx hb hts (fun _ h => List.mem_cons_of_mem _ (List.mem_append_left _ (List.mem_append_left _ (List.mem_append_right _ h)))) hown hK hP 0 rfl rfl 25 (by decide) (hts (.fieldLink RX13 210 "SeekwellModel" "at" "I") (by decide +kernel)) (fun _ h9 => h9) rfl dX13_term_9 ?_
  refine lv_iload_n hx hb dX13_term_12 rfl (lv_at hl 0 rfl) ?_
  refine lv_if_eq (tgt := 20) hx hb dX13_term_13 (by decide) (fun _ => ?_) (fun h9 => absurd (show (0 : Int32) = (0 : Int32) by decide +kernel) h9)
  refine lv_iconst (v := 0) hx hb dX13_term_20 (by decide +kernel) ?_
  refine lv_iadd hx hb dX13_term_21 ?_
  refine zt_i (v := 0) (by decide +kernel) ?_
  refine va_put (D := (dC, dI)) (ci := 15) (v := .int 0) (ty := .int) (C := RX13) (T := TX13) (N := 27) hx hb hts (fun _ h => List.mem_cons_of_mem _ (List.mem_append_left _ (List.mem_append_left _ (List.mem_append_right _ h)))) tyX13 tyX13_ok nmX13 hown hK hP hD hS 0 rfl rfl 25 (by decide) (hts (.fieldLink RX13 210 "SeekwellModel" "at" "I") (by decide +kernel)) (fun _ h9 => h9) rfl (by decide +kernel) rfl rfl (Nat.le_of_ble_eq_true rfl) dX13_term_22 (fun H locs hP hD hS => ?_)
  have hP : va_P (dC, dI) vwCl [(q0, .inr (15, [.ref q1, .ref q2, .ref q3, .ref q4, .ref q5, .ref q6, .int 0, .int 1, .ref q7, .int 0, .ref q8, .null, .ref q9, .null, .ref q10, .ref q11, .ref q12, .ref q13, .ref q14, .int 0, .ref q15, .ref q16, .ref q17, .ref q18, .ref q19, .int 0, .int (-1)]))] H := hP
  have hD : va_D A [(q0, .inr (15, [.ref q1, .ref q2, .ref q3, .ref q4, .ref q5, .ref q6, .int 0, .int 1, .ref q7, .int 0, .ref q8, .null, .ref q9, .null, .ref q10, .ref q11, .ref q12, .ref q13, .ref q14, .int 0, .ref q15, .ref q16, .ref q17, .ref q18, .ref q19, .int 0, .int (-1)]))] := hD
  refine lv_aload_n hx hb dX13_term_25 rfl (lv_at hl 1 rfl) ?_
  refine lv_bipush (v := 40) hx hb dX13_term_26 (by decide +kernel) ?_
  have hPc := hP.sub (ws' := [(q0, .inr (15, [.ref q1, .ref q2, .ref q3, .ref q4, .ref q5, .ref q6, .int 0, .int 1, .ref q7, .int 0, .ref q8, .null, .ref q9, .null, .ref q10, .ref q11, .ref q12, .ref q13, .ref q14, .int 0, .ref q15, .ref q16, .ref q17, .ref q18, .ref q19, .int 0, .int (-1)]))]) [0] rfl
  have hDc := hD.sub (ws' := [(q0, .inr (15, [.ref q1, .ref q2, .ref q3, .ref q4, .ref q5, .ref q6, .int 0, .int 1, .ref q7, .int 0, .ref q8, .null, .ref q9, .null, .ref q10, .ref q11, .ref q12, .ref q13, .ref q14, .int 0, .ref q15, .ref q16, .ref q17, .ref q18, .ref q19, .int 0, .int (-1)]))]) [0] (by decide) rfl
  have hKc := hK.sub (tys' := []) [] rfl
  have hFc := va_free (wc := [(q0, .inr (15, [.ref q1, .ref q2, .ref q3, .ref q4, .ref q5, .ref q6, .int 0, .int 1, .ref q7, .int 0, .ref q8, .null, .ref q9, .null, .ref q10, .ref q11, .ref q12, .ref q13, .ref q14, .int 0, .ref q15, .ref q16, .ref q17, .ref q18, .ref q19, .int 0, .int (-1)]))]) hD hS hA [0] rfl
  refine va_calli (va_runV (As := [.int 40]) (rest := []) ⟨hx, hb, hml, hown, hts⟩ (c_X13_is_2 l dC dI q0 q1 q2 q3 q4 q5 q6 q7 q8 q9 q10 q11 q12 q13 q14 q15 q16 q17 q18 q19 H.size  ) (cwV 1 hts gX13_term_X13_is rfl rfl rfl (by decide +kernel) ⟨Nat.le_of_ble_eq_true rfl, Nat.le_of_ble_eq_true rfl⟩) ⟨zB_blind, va_recv hK hP (ci := 15) (q0 := 0) rfl rfl, (zPre hPc hDc hKc hS hFc hZ hN)⟩ rfl rfl hl.1 rfl (lv_room (Nat.le_of_ble_eq_true rfl)) dX13_term_28 ⟨Nat.le_of_ble_eq_true rfl, Nat.le_of_ble_eq_true rfl⟩) hS (fun q _ h => hFc q h) hFc (fun r u t H1 locs ht hvm hw hB hz1 hk1 hS => ?_)
  subst hw
  obtain ⟨hP1, hK1, hD1⟩ := hB
  rw [ht] at hP1
  have hK1 := va_K.moved hvm.symm hK1
  obtain ⟨hP, hD⟩ := va_join (wr := []) (w1 := [(q0, .inr (15, [.ref q1, .ref q2, .ref q3, .ref q4, .ref q5, .ref q6, .int 0, .int 1, .ref q7, .int 0, .ref q8, .null, .ref q9, .null, .ref q10, .ref q11, .ref q12, .ref q13, .ref q14, .int 0, .ref q15, .ref q16, .ref q17, .ref q18, .ref q19, .int 0, .int (-1)]))]) hP hD [0] [] rfl rfl (by decide) (by decide) hk1 hFc hP1 hD1
  have hK := (hK.sub (tys' := []) [] rfl).app hK1
  generalize H1 = H at hP hS ⊢
  have hP : va_P (dC, dI) vwCl [(q0, .inr (15, [.ref q1, .ref q2, .ref q3, .ref q4, .ref q5, .ref q6, .int 0, .int 1, .ref q7, .int 0, .ref q8, .null, .ref q9, .null, .ref q10, .ref q11, .ref q12, .ref q13, .ref q14, .int 0, .ref q15, .ref q16, .ref q17, .ref q18, .ref q19, .int 0, .int (-1)]))] H := hP
  have hD : va_D A [(q0, .inr (15, [.ref q1, .ref q2, .ref q3, .ref q4, .ref q5, .ref q6, .int 0, .int 1, .ref q7, .int 0, .ref q8, .null, .ref q9, .null, .ref q10, .ref q11, .ref q12, .ref q13, .ref q14, .int 0, .ref q15, .ref q16, .ref q17, .ref q18, .ref q19, .int 0, .int (-1)]))] := hD
  have hK : va_K (dC, dI) vwCl [] s := hK
  refine W.widen (k := 0) (n := 0) (Nat.le_of_ble_eq_true rfl) (Nat.le_of_ble_eq_true rfl) ?_
  refine lv_istore_n (lv' := [(2, .int 0), (1, .int 0), (0, .ref q0)]) hx hb dX13_term_31 rfl hl (by decide) rfl (fun ls hl => ?_)
  refine lv_iload_n hx hb dX13_term_32 rfl (lv_at hl 0 rfl) ?_
  refine lv_if_eq (tgt := 43) hx hb dX13_term_33 (by decide) (fun _ => ?_) (fun h9 => absurd (show (0 : Int32) = (0 : Int32) by decide +kernel) h9)
  refine lv_aload_n hx hb dX13_term_43 rfl (lv_at hl 2 rfl) ?_
  have hPc := hP.sub (ws' := [(q0, .inr (15, [.ref q1, .ref q2, .ref q3, .ref q4, .ref q5, .ref q6, .int 0, .int 1, .ref q7, .int 0, .ref q8, .null, .ref q9, .null, .ref q10, .ref q11, .ref q12, .ref q13, .ref q14, .int 0, .ref q15, .ref q16, .ref q17, .ref q18, .ref q19, .int 0, .int (-1)]))]) [0] rfl
  have hDc := hD.sub (ws' := [(q0, .inr (15, [.ref q1, .ref q2, .ref q3, .ref q4, .ref q5, .ref q6, .int 0, .int 1, .ref q7, .int 0, .ref q8, .null, .ref q9, .null, .ref q10, .ref q11, .ref q12, .ref q13, .ref q14, .int 0, .ref q15, .ref q16, .ref q17, .ref q18, .ref q19, .int 0, .int (-1)]))]) [0] (by decide) rfl
  have hKc := hK.sub (tys' := []) [] rfl
  have hFc := va_free (wc := [(q0, .inr (15, [.ref q1, .ref q2, .ref q3, .ref q4, .ref q5, .ref q6, .int 0, .int 1, .ref q7, .int 0, .ref q8, .null, .ref q9, .null, .ref q10, .ref q11, .ref q12, .ref q13, .ref q14, .int 0, .ref q15, .ref q16, .ref q17, .ref q18, .ref q19, .int 0, .int (-1)]))]) hD hS hA [0] rfl
  refine va_callr (va_runV (As := []) (rest := []) ⟨hx, hb, hml, hown, hts⟩ (c_X13_unit l dC dI q0 q1 q2 q3 q4 q5 q6 q7 q8 q9 q10 q11 q12 q13 q14 q15 q16 q17 q18 q19 H.size  ) (cwV 0 hts gX13_term_X13_unit rfl rfl rfl (by decide +kernel) ⟨Nat.le_of_ble_eq_true rfl, Nat.le_of_ble_eq_true rfl⟩) ⟨zB_blind, va_recv hK hP (ci := 15) (q0 := 0) rfl rfl, (zPre hPc hDc hKc hS hFc hZ hN)⟩ rfl rfl hl.1 rfl (lv_room (Nat.le_of_ble_eq_true rfl)) dX13_term_44 ⟨Nat.le_of_ble_eq_true rfl, Nat.le_of_ble_eq_true rfl⟩) hS (fun q _ h => hFc q h) hFc (fun u ra t H1 locs ht hvm hw hB hz1 hk1 hS => ?_)
  obtain ⟨q20, q21, q22, hra, hP1, hK1, hD1⟩ := hB
  subst hra
  rw [ht] at hP1
  have hK1 := va_K.moved hvm.symm hK1
  obtain ⟨hP, hD⟩ := va_join (wr := []) (w1 := [(q0, .inr (15, [.ref q1, .ref q2, .ref q3, .ref q4, .ref q5, .ref q6, .int 0, .int 1, .ref q7, .int 0, .ref q8, .null, .ref q9, .null, .ref q10, .ref q11, .ref q12, .ref q13, .ref q14, .int 0, .ref q15, .ref q16, .ref q17, .ref q18, .ref q19, .int 0, .int 0])), (q20, .inr (14, [.int 119, .int 0, .int 1, .ref q21, .int 97, .ref q22, .int 0, .int 0]))]) hP hD [0] [] rfl rfl (by decide) (by decide) hk1 hFc hP1 hD1
  have hK := (hK.sub (tys' := []) [] rfl).app hK1
  generalize H1 = H at hP hS ⊢
  have hP : va_P (dC, dI) vwCl [(q0, .inr (15, [.ref q1, .ref q2, .ref q3, .ref q4, .ref q5, .ref q6, .int 0, .int 1, .ref q7, .int 0, .ref q8, .null, .ref q9, .null, .ref q10, .ref q11, .ref q12, .ref q13, .ref q14, .int 0, .ref q15, .ref q16, .ref q17, .ref q18, .ref q19, .int 0, .int 0])), (q20, .inr (14, [.int 119, .int 0, .int 1, .ref q21, .int 97, .ref q22, .int 0, .int 0]))] H := hP
  have hD : va_D A [(q0, .inr (15, [.ref q1, .ref q2, .ref q3, .ref q4, .ref q5, .ref q6, .int 0, .int 1, .ref q7, .int 0, .ref q8, .null, .ref q9, .null, .ref q10, .ref q11, .ref q12, .ref q13, .ref q14, .int 0, .ref q15, .ref q16, .ref q17, .ref q18, .ref q19, .int 0, .int 0])), (q20, .inr (14, [.int 119, .int 0, .int 1, .ref q21, .int 97, .ref q22, .int 0, .int 0]))] := hD
  have hK : va_K (dC, dI) vwCl [] s := hK
  refine W.widen (k := 5) (n := 21) (Nat.le_of_ble_eq_true rfl) (Nat.le_of_ble_eq_true rfl) ?_
  refine lv_astore_n (lv' := [(3, .ref q20), (2, .int 0), (1, .int 0), (0, .ref q0)]) hx hb dX13_term_47 rfl hl (by decide) rfl (fun ls hl => ?_)
  refine lv_iconst (v := 1) hx hb dX13_term_48 (by decide +kernel) ?_
  refine lv_istore (lv' := [(4, .int 1), (3, .ref q20), (2, .int 0), (1, .int 0), (0, .ref q0)]) hx hb dX13_term_49 hl (by decide) rfl (fun ls hl => ?_)
  refine lv_aload_n hx hb dX13_term_51 rfl (lv_at hl 4 rfl) ?_
  refine va_get (D := (dC, dI)) (ci := 15) (v := .int 0) (C := RX13) (T := TX13) (N := 27) hx hb hts (fun _ h => List.mem_cons_of_mem _ (List.mem_append_left _ (List.mem_append_left _ (List.mem_append_right _ h)))) hown hK hP 0 rfl rfl 26 (by decide) (hts (.fieldLink RX13 216 "SeekwellModel" "fault" "I") (by decide +kernel)) (fun _ h9 => h9) rfl dX13_term_52 ?_
  refine lv_if_ge (tgt := 142) hx hb dX13_term_55 (by decide) (fun _ => ?_) (fun h9 => absurd (show (0 : Int32) ≤ (0 : Int32) by decide +kernel) h9)
  refine lv_iload_n hx hb dX13_term_142 rfl (lv_at hl 2 rfl) ?_
  refine lv_if_eq (tgt := 158) hx hb dX13_term_143 (by decide) (fun _ => ?_) (fun h9 => absurd (show (0 : Int32) = (0 : Int32) by decide +kernel) h9)
  refine lv_aload_n hx hb dX13_term_158 rfl (lv_at hl 1 rfl) ?_
  refine lv_astore (lv' := [(5, .ref q20), (4, .int 1), (3, .ref q20), (2, .int 0), (1, .int 0), (0, .ref q0)]) hx hb dX13_term_159 hl (by decide) rfl (fun ls hl => ?_)
  refine lv_iload_n hx hb dX13_term_161 rfl (lv_at hl 3 rfl) ?_
  refine lv_if_eq (tgt := 182) hx hb dX13_term_162 (by decide) (fun _ => ?_) (fun h9 => absurd (show (0 : Int32) = (0 : Int32) by decide +kernel) h9)
  refine lv_aload hx hb dX13_term_182 (lv_at hl 0 rfl) ?_
  refine lv_iload_n hx hb dX13_term_184 rfl (lv_at hl 4 rfl) ?_
  refine va_put (D := (dC, dI)) (ci := 14) (v := .int 0) (ty := .boolean) (C := RX12) (T := TX12) (N := 8) hx hb hts (fun _ h => List.mem_cons_of_mem _ (List.mem_append_left _ (List.mem_append_right _ h))) tyX12 tyX12_ok nmX12 hown hK hP hD hS 1 rfl rfl 1 (by decide) (hts (.fieldLink RX13 243 "SeekwellModel$Node" "isNot" "Z") (by decide +kernel)) (fun _ h9 => h9) rfl (by decide +kernel) rfl rfl (Nat.le_of_ble_eq_true rfl) dX13_term_185 (fun H locs hP hD hS => ?_)
  have hP : va_P (dC, dI) vwCl [(q0, .inr (15, [.ref q1, .ref q2, .ref q3, .ref q4, .ref q5, .ref q6, .int 0, .int 1, .ref q7, .int 0, .ref q8, .null, .ref q9, .null, .ref q10, .ref q11, .ref q12, .ref q13, .ref q14, .int 0, .ref q15, .ref q16, .ref q17, .ref q18, .ref q19, .int 0, .int 0])), (q20, .inr (14, [.int 119, .int 0, .int 1, .ref q21, .int 97, .ref q22, .int 0, .int 0]))] H := hP
  have hD : va_D A [(q0, .inr (15, [.ref q1, .ref q2, .ref q3, .ref q4, .ref q5, .ref q6, .int 0, .int 1, .ref q7, .int 0, .ref q8, .null, .ref q9, .null, .ref q10, .ref q11, .ref q12, .ref q13, .ref q14, .int 0, .ref q15, .ref q16, .ref q17, .ref q18, .ref q19, .int 0, .int 0])), (q20, .inr (14, [.int 119, .int 0, .int 1, .ref q21, .int 97, .ref q22, .int 0, .int 0]))] := hD
  refine lv_aload hx hb dX13_term_188 (lv_at hl 0 rfl) ?_
  refine lv_iload hx hb dX13_term_190 (lv_at hl 1 rfl) ?_
  refine va_put (D := (dC, dI)) (ci := 14) (v := .int 1) (ty := .int) (C := RX12) (T := TX12) (N := 8) hx hb hts (fun _ h => List.mem_cons_of_mem _ (List.mem_append_left _ (List.mem_append_right _ h))) tyX12 tyX12_ok nmX12 hown hK hP hD hS 1 rfl rfl 2 (by decide) (hts (.fieldLink RX13 247 "SeekwellModel$Node" "weight" "I") (by decide +kernel)) (fun _ h9 => h9) rfl (by decide +kernel) rfl rfl (Nat.le_of_ble_eq_true rfl) dX13_term_192 (fun H locs hP hD hS => ?_)
  have hP : va_P (dC, dI) vwCl [(q0, .inr (15, [.ref q1, .ref q2, .ref q3, .ref q4, .ref q5, .ref q6, .int 0, .int 1, .ref q7, .int 0, .ref q8, .null, .ref q9, .null, .ref q10, .ref q11, .ref q12, .ref q13, .ref q14, .int 0, .ref q15, .ref q16, .ref q17, .ref q18, .ref q19, .int 0, .int 0])), (q20, .inr (14, [.int 119, .int 0, .int 1, .ref q21, .int 97, .ref q22, .int 0, .int 0]))] H := hP
  have hD : va_D A [(q0, .inr (15, [.ref q1, .ref q2, .ref q3, .ref q4, .ref q5, .ref q6, .int 0, .int 1, .ref q7, .int 0, .ref q8, .null, .ref q9, .null, .ref q10, .ref q11, .ref q12, .ref q13, .ref q14, .int 0, .ref q15, .ref q16, .ref q17, .ref q18, .ref q19, .int 0, .int 0])), (q20, .inr (14, [.int 119, .int 0, .int 1, .ref q21, .int 97, .ref q22, .int 0, .int 0]))] := hD
  refine lv_aload hx hb dX13_term_195 (lv_at hl 0 rfl) ?_
  have hP9 := hP.sub (ws' := [(q0, .inr (15, [.ref q1, .ref q2, .ref q3, .ref q4, .ref q5, .ref q6, .int 0, .int 1, .ref q7, .int 0, .ref q8, .null, .ref q9, .null, .ref q10, .ref q11, .ref q12, .ref q13, .ref q14, .int 0, .ref q15, .ref q16, .ref q17, .ref q18, .ref q19, .int 0, .int 0])), (q20, .inr (14, [.int 119, .int 0, .int 1, .ref q21, .int 97, .ref q22, .int 0, .int 0]))]) [0, 1] rfl
  have hD9 := hD.sub (ws' := [(q0, .inr (15, [.ref q1, .ref q2, .ref q3, .ref q4, .ref q5, .ref q6, .int 0, .int 1, .ref q7, .int 0, .ref q8, .null, .ref q9, .null, .ref q10, .ref q11, .ref q12, .ref q13, .ref q14, .int 0, .ref q15, .ref q16, .ref q17, .ref q18, .ref q19, .int 0, .int 0])), (q20, .inr (14, [.int 119, .int 0, .int 1, .ref q21, .int 97, .ref q22, .int 0, .int 0]))]) [0, 1] (by decide) rfl
  have hK9 := hK.sub (tys' := []) [] rfl
  exact W.aret (v := .ref q20) hx hb hr (Or.inl ⟨_, rfl⟩) (Or.inr ⟨_, rfl⟩) (fun t ht hW => ⟨⟨(), q20, rfl, trivial, q20, q21, q22, rfl, ⟨by rw [ht]; exact hP9, va_K.moved hW.alike hK9, hD9⟩⟩, hS.F ht⟩) hS.2.2 dX13_term_197
set_option maxHeartbeats 4000000 in
set_option maxRecDepth 100000 in
theorem c_X12_gets (l : Launch) (dC : Nat → ClassId) (dI : Nat → Nat → Nat) (q0 q1 q2 q3 q4 q5 : Nat) (k0 : ClassId) (sz : Nat) : Met l yX12_gets wsX12_gets ({ frames := 0, cells := 1, slots := 1, locals := 0 }) (va_Pc [.ref q0, .ref q1] (zB (dC, dI) [(k0, (.object "SeekwellModel$Node"))] [(q0, .inr (14, [.int 38, .int 0, .int 1, .ref q2, .int 97, .ref q3, .int 0, .int 0])), (q2, .inl (k0, 0, .inr (.inr (.inr (.inr (fun _ => none)))))), (q1, .inr (14, [.int 119, .int 0, .int 1, .ref q4, .int 97, .ref q5, .int 0, .int 0]))] sz)) (va_Qv (fun (_ : Unit) => True) (fun _ t => ∃ q6 : Nat, ∃ k1 : ClassId, zE (dC, dI) [(k1, (.object "SeekwellModel$Node"))] [(q0, .inr (14, [.int 38, .int 0, .int 1, .ref q6, .int 97, .ref q3, .int 0, .int 0])), (q1, .inr (14, [.int 119, .int 0, .int 1, .ref q4, .int 97, .ref q5, .int 0, .int 0])), (q6, .inl (k1, 1, .inr (.inr (.inr (.inr (va_up (fun _ => none) (0 : Int32).toNatClampNeg (some q1)))))))] (va_A [(q0, .inr (14, [.int 38, .int 0, .int 1, .ref q2, .int 97, .ref q3, .int 0, .int 0])), (q2, .inl (k0, 0, .inr (.inr (.inr (.inr (fun _ => none)))))), (q1, .inr (14, [.int 119, .int 0, .int 1, .ref q4, .int 97, .ref q5, .int 0, .int 0]))] sz) t) (va_A [(q0, .inr (14, [.int 38, .int 0, .int 1, .ref q2, .int 97, .ref q3, .int 0, .int 0])), (q2, .inl (k0, 0, .inr (.inr (.inr (.inr (fun _ => none)))))), (q1, .inr (14, [.int 119, .int 0, .int 1, .ref q4, .int 97, .ref q5, .int 0, .int 0]))] sz)) 1 1 (va_A [(q0, .inr (14, [.int 38, .int 0, .int 1, .ref q2, .int 97, .ref q3, .int 0, .int 0])), (q2, .inl (k0, 0, .inr (.inr (.inr (.inr (fun _ => none)))))), (q1, .inr (14, [.int 119, .int 0, .int 1, .ref q4, .int 97, .ref q5, .int 0, .int 0]))] sz) := by
  refine Met.ofW (cc := cX12_gets) (maxL := 4) (ret := none) (by decide) rfl ?_
  intro p e s m args below meth c s₁ B hml hv
  obtain ⟨rfl, hsz, hP, hK, hD0, hZ, hN⟩ := hv
  have hx := B.exec
  have hb := B.bytes
  have hr := B.returns
  have hts := atoms_spec (ws := wsX12_gets) B.pre
  have hown : s.vm.findClass RX12 = some m.cls := findClass_of_methodNamed B.named
  have hlocks := B.notSynchronized
  subst hsz
  have hD := hD0.self (sz := s.heap.size)
  generalize hAe : va_A [(q0, .inr (14, [.int 38, .int 0, .int 1, .ref q2, .int 97, .ref q3, .int 0, .int 0])), (q2, .inl (k0, 0, .inr (.inr (.inr (.inr (fun _ => none)))))), (q1, .inr (14, [.int 119, .int 0, .int 1, .ref q4, .int 97, .ref q5, .int 0, .int 0]))] s.heap.size = A at hD hZ ⊢
  have hA : ∀ q : Nat, s.heap.size ≤ q → A q := fun q h => by rw [← hAe]; exact Or.inr h
  have hS : va_S A s.heap s.heap [] := va_S.rf
  have hP : va_P (dC, dI) vwCl [(q0, .inr (14, [.int 38, .int 0, .int 1, .ref q2, .int 97, .ref q3, .int 0, .int 0])), (q2, .inl (k0, 0, .inr (.inr (.inr (.inr (fun _ => none)))))), (q1, .inr (14, [.int 119, .int 0, .int 1, .ref q4, .int 97, .ref q5, .int 0, .int 0]))] s.heap := hP
  have hl := lv_entry ([.ref q0, .ref q1]) (n := 4) (Nat.le_of_ble_eq_true rfl)
  rw [lg_entry_eq]
  generalize (lg_sl ([.ref q0, .ref q1]) ++ List.replicate (4 - (lg_sl ([.ref q0, .ref q1])).length) Slot.unset).toArray = ls at hl ⊢
  have hl : lv_has ls 4 [(0, .ref q0), (1, .ref q1)] := hl
  refine lv_aload_n hx hb dX12_gets_0 rfl (lv_at hl 0 rfl) ?_
  refine va_get (D := (dC, dI)) (ci := 14) (v := .ref q2) (C := RX12) (T := TX12) (N := 8) hx hb hts (fun _ h => List.mem_cons_of_mem _ (List.mem_append_right _ h)) hown hK hP 0 rfl rfl 3 (by decide) (hts (.fieldLink RX12 13 "SeekwellModel$Node" "rows" "[LSeekwellModel$Node;") (by decide +kernel)) (fun _ h9 => h9) rfl dX12_gets_1 ?_
  refine va_alen (D := (dC, dI)) (v := 0) hx hb hK hP 1 0 rfl rfl (show Int32.ofNat 0 = 0 by decide +kernel) dX12_gets_4 ?_
  refine lv_iconst (v := 1) hx hb dX12_gets_5 (by decide +kernel) ?_
  refine lv_iadd hx hb dX12_gets_6 ?_
  refine zt_i (v := 1) (by decide +kernel) ?_
  refine va_newq (D := (dC, dI)) (C := "SeekwellModel$Node") (N' := 1) hx hb hown (hts (.classLink RX12 8 "SeekwellModel$Node") (by decide +kernel)) (hN.2.2.1 "SeekwellModel$Node" (by decide +kernel)) hK hP hD hS hA (by decide +kernel) (by decide +kernel) (Nat.le_of_ble_eq_true rfl) (Nat.le_of_ble_eq_true rfl) (Nat.le_of_ble_eq_true rfl) dX12_gets_7 (fun q6 k1 H hK hP hD hS => ?_)
  have hP : va_P (dC, dI) vwCl [(q0, .inr (14, [.int 38, .int 0, .int 1, .ref q2, .int 97, .ref q3, .int 0, .int 0])), (q2, .inl (k0, 0, .inr (.inr (.inr (.inr (fun _ => none)))))), (q1, .inr (14, [.int 119, .int 0, .int 1, .ref q4, .int 97, .ref q5, .int 0, .int 0])), (q6, .inl (k1, 1, .inr (.inr (.inr (.inr (fun _ => none))))))] H := hP
  have hD : va_D A [(q0, .inr (14, [.int 38, .int 0, .int 1, .ref q2, .int 97, .ref q3, .int 0, .int 0])), (q2, .inl (k0, 0, .inr (.inr (.inr (.inr (fun _ => none)))))), (q1, .inr (14, [.int 119, .int 0, .int 1, .ref q4, .int 97, .ref q5, .int 0, .int 0])), (q6, .inl (k1, 1, .inr (.inr (.inr (.inr (fun _ => none))))))] := hD
  have hK : va_K (dC, dI) vwCl [(k0, (.object "SeekwellModel$Node")), (k1, (.object "SeekwellModel$Node"))] s := hK
  refine W.widen (k := 1) (n := 1) (Nat.le_of_ble_eq_true rfl) (Nat.le_of_ble_eq_true rfl) ?_
  refine lv_astore_n (lv' := [(2, .ref q6), (0, .ref q0), (1, .ref q1)]) hx hb dX12_gets_10 rfl hl (by decide) rfl (fun ls hl => ?_)
  refine lv_iconst (v := 0) hx hb dX12_gets_11 (by decide +kernel) ?_
  refine lv_istore_n (lv' := [(3, .int 0), (2, .ref q6), (0, .ref q0), (1, .ref q1)]) hx hb dX12_gets_12 rfl hl (by decide) rfl (fun ls hl => ?_)
  refine lv_iload_n hx hb dX12_gets_13 rfl (lv_at hl 0 rfl) ?_
  refine lv_aload_n hx hb dX12_gets_14 rfl (lv_at hl 2 rfl) ?_
  refine va_get (D := (dC, dI)) (ci := 14) (v := .ref q2) (C := RX12) (T := TX12) (N := 8) hx hb hts (fun _ h => List.mem_cons_of_mem _ (List.mem_append_right _ h)) hown hK hP 0 rfl rfl 3 (by decide) (hts (.fieldLink RX12 13 "SeekwellModel$Node" "rows" "[LSeekwellModel$Node;") (by decide +kernel)) (fun _ h9 => h9) rfl dX12_gets_15 ?_
  refine va_alen (D := (dC, dI)) (v := 0) hx hb hK hP 1 0 rfl rfl (show Int32.ofNat 0 = 0 by decide +kernel) dX12_gets_18 ?_
  refine lv_icmp_ge (tgt := 37) hx hb dX12_gets_19 (by decide) (fun _ => ?_) (fun h9 => absurd (show (0 : Int32) ≤ (0 : Int32) by decide +kernel) h9)
  refine lv_aload_n hx hb dX12_gets_37 rfl (lv_at hl 1 rfl) ?_
  refine lv_aload_n hx hb dX12_gets_38 rfl (lv_at hl 2 rfl) ?_
  refine va_get (D := (dC, dI)) (ci := 14) (v := .ref q2) (C := RX12) (T := TX12) (N := 8) hx hb hts (fun _ h => List.mem_cons_of_mem _ (List.mem_append_right _ h)) hown hK hP 0 rfl rfl 3 (by decide) (hts (.fieldLink RX12 13 "SeekwellModel$Node" "rows" "[LSeekwellModel$Node;") (by decide +kernel)) (fun _ h9 => h9) rfl dX12_gets_39 ?_
  refine va_alen (D := (dC, dI)) (v := 0) hx hb hK hP 1 0 rfl rfl (show Int32.ofNat 0 = 0 by decide +kernel) dX12_gets_42 ?_
  refine lv_aload_n hx hb dX12_gets_43 rfl (lv_at hl 3 rfl) ?_
  refine va_astq (D := (dC, dI)) hx hb hK hP hD hS 3 1 2 14 rfl rfl rfl rfl (i := 0) (zin (by decide +kernel)) dX12_gets_44 (fun H locs hP hD hS => ?_)
  have hP : va_P (dC, dI) vwCl [(q0, .inr (14, [.int 38, .int 0, .int 1, .ref q2, .int 97, .ref q3, .int 0, .int 0])), (q2, .inl (k0, 0, .inr (.inr (.inr (.inr (fun _ => none)))))), (q1, .inr (14, [.int 119, .int 0, .int 1, .ref q4, .int 97, .ref q5, .int 0, .int 0])), (q6, .inl (k1, 1, .inr (.inr (.inr (.inr (va_up (fun _ => none) (0 : Int32).toNatClampNeg (some q1)))))))] H := hP
  have hD : va_D A [(q0, .inr (14, [.int 38, .int 0, .int 1, .ref q2, .int 97, .ref q3, .int 0, .int 0])), (q2, .inl (k0, 0, .inr (.inr (.inr (.inr (fun _ => none)))))), (q1, .inr (14, [.int 119, .int 0, .int 1, .ref q4, .int 97, .ref q5, .int 0, .int 0])), (q6, .inl (k1, 1, .inr (.inr (.inr (.inr (va_up (fun _ => none) (0 : Int32).toNatClampNeg (some q1)))))))] := hD
  refine lv_aload_n hx hb dX12_gets_45 rfl (lv_at hl 2 rfl) ?_
  refine lv_aload_n hx hb dX12_gets_46 rfl (lv_at hl 1 rfl) ?_
  refine va_put (D := (dC, dI)) (ci := 14) (v := .ref q6) (ty := (.array (.object "SeekwellModel$Node"))) (C := RX12) (T := TX12) (N := 8) hx hb hts (fun _ h => List.mem_cons_of_mem _ (List.mem_append_right _ h)) tyX12 tyX12_ok nmX12 hown hK hP hD hS 0 rfl rfl 3 (by decide) (hts (.fieldLink RX12 13 "SeekwellModel$Node" "rows" "[LSeekwellModel$Node;") (by decide +kernel)) (fun _ h9 => h9) rfl (by decide +kernel) rfl rfl (Nat.le_of_ble_eq_true rfl) dX12_gets_47 (fun H locs hP hD hS => ?_)
  have hP : va_P (dC, dI) vwCl [(q0, .inr (14, [.int 38, .int 0, .int 1, .ref q6, .int 97, .ref q3, .int 0, .int 0])), (q2, .inl (k0, 0, .inr (.inr (.inr (.inr (fun _ => none)))))), (q1, .inr (14, [.int 119, .int 0, .int 1, .ref q4, .int 97, .ref q5, .int 0, .int 0])), (q6, .inl (k1, 1, .inr (.inr (.inr (.inr (va_up (fun _ => none) (0 : Int32).toNatClampNeg (some q1)))))))] H := hP
  have hD : va_D A [(q0, .inr (14, [.int 38, .int 0, .int 1, .ref q6, .int 97, .ref q3, .int 0, .int 0])), (q2, .inl (k0, 0, .inr (.inr (.inr (.inr (fun _ => none)))))), (q1, .inr (14, [.int 119, .int 0, .int 1, .ref q4, .int 97, .ref q5, .int 0, .int 0])), (q6, .inl (k1, 1, .inr (.inr (.inr (.inr (va_up (fun _ => none) (0 : Int32).toNatClampNeg (some q1)))))))] := hD
  have hP9 := hP.sub (ws' := [(q0, .inr (14, [.int 38, .int 0, .int 1, .ref q6, .int 97, .ref q3, .int 0, .int 0])), (q1, .inr (14, [.int 119, .int 0, .int 1, .ref q4, .int 97, .ref q5, .int 0, .int 0])), (q6, .inl (k1, 1, .inr (.inr (.inr (.inr (va_up (fun _ => none) (0 : Int32).toNatClampNeg (some q1)))))))]) [0, 2, 3] rfl
  have hD9 := hD.sub (ws' := [(q0, .inr (14, [.int 38, .int 0, .int 1, .ref q6, .int 97, .ref q3, .int 0, .int 0])), (q1, .inr (14, [.int 119, .int 0, .int 1, .ref q4, .int 97, .ref q5, .int 0, .int 0])), (q6, .inl (k1, 1, .inr (.inr (.inr (.inr (va_up (fun _ => none) (0 : Int32).toNatClampNeg (some q1)))))))]) [0, 2, 3] (by decide) rfl
  have hK9 := hK.sub (tys' := [(k1, (.object "SeekwellModel$Node"))]) [1] rfl
  exact W.vret hx hb hr (fun t ht hW => ⟨⟨(), rfl, trivial, q6, k1, ⟨by rw [ht]; exact hP9, va_K.moved hW.alike hK9, hD9⟩⟩, hS.F ht⟩) hS.2.2 dX12_gets_50
set_option maxHeartbeats 4000000 in
set_option maxRecDepth 100000 in
theorem c_X13_rowOf (l : Launch) (dC : Nat → ClassId) (dI : Nat → Nat → Nat) (q0 q1 q2 q3 q4 q5 q6 q7 q8 q9 q10 q11 q12 q13 q14 q15 q16 q17 q18 q19 : Nat) (sz : Nat) : Met l yX13_rowOf wsX13_rowOf ({ frames := 4, cells := 9, slots := 30, locals := 96 }) (va_Pc [.ref q0, .int 38] (zB (dC, dI) [] [(q0, .inr (15, [.ref q1, .ref q2, .ref q3, .ref q4, .ref q5, .ref q6, .int 0, .int 1, .ref q7, .int 0, .ref q8, .null, .ref q9, .null, .ref q10, .ref q11, .ref q12, .ref q13, .ref q14, .int 0, .ref q15, .ref q16, .ref q17, .ref q18, .ref q19, .int 0, .int (-1)]))] sz)) (va_Qr (fun (_ : Unit) => True) (fun _ ra t => ∃ q20 : Nat, ∃ q21 : Nat, ∃ q22 : Nat, q20 = ra ∧ zE (dC, dI) [] [(q0, .inr (15, [.ref q1, .ref q2, .ref q3, .ref q4, .ref q5, .ref q6, .int 0, .int 1, .ref q7, .int 0, .ref q8, .null, .ref q9, .null, .ref q10, .ref q11, .ref q12, .ref q13, .ref q14, .int 0, .ref q15, .ref q16, .ref q17, .ref q18, .ref q19, .int 0, .int 0])), (q20, .inr (14, [.int 119, .int 0, .int 1, .ref q21, .int 97, .ref q22, .int 0, .int 0]))] (va_A [(q0, .inr (15, [.ref q1, .ref q2, .ref q3, .ref q4, .ref q5, .ref q6, .int 0, .int 1, .ref q7, .int 0, .ref q8, .null, .ref q9, .null, .ref q10, .ref q11, .ref q12, .ref q13, .ref q14, .int 0, .ref q15, .ref q16, .ref q17, .ref q18, .ref q19, .int 0, .int (-1)]))] sz) t) (va_A [(q0, .inr (15, [.ref q1, .ref q2, .ref q3, .ref q4, .ref q5, .ref q6, .int 0, .int 1, .ref q7, .int 0, .ref q8, .null, .ref q9, .null, .ref q10, .ref q11, .ref q12, .ref q13, .ref q14, .int 0, .ref q15, .ref q16, .ref q17, .ref q18, .ref q19, .int 0, .int (-1)]))] sz)) 9 30 (va_A [(q0, .inr (15, [.ref q1, .ref q2, .ref q3, .ref q4, .ref q5, .ref q6, .int 0, .int 1, .ref q7, .int 0, .ref q8, .null, .ref q9, .null, .ref q10, .ref q11, .ref q12, .ref q13, .ref q14, .int 0, .ref q15, .ref q16, .ref q17, .ref q18, .ref q19, .int 0, .int (-1)]))] sz) := by
  refine Met.ofW (cc := cX13_rowOf) (maxL := 3) (ret := (some (.object "SeekwellModel$Node"))) (by decide) rfl ?_
  intro p e s m args below meth c s₁ B hml hv
  obtain ⟨rfl, hsz, hP, hK, hD0, hZ, hN⟩ := hv
  have hx := B.exec
  have hb := B.bytes
  have hr := B.returns
  have hts := atoms_spec (ws := wsX13_rowOf) B.pre
  have hown : s.vm.findClass RX13 = some m.cls := findClass_of_methodNamed B.named
  have hlocks := B.notSynchronized
  subst hsz
  have hD := hD0.self (sz := s.heap.size)
  generalize hAe : va_A [(q0, .inr (15, [.ref q1, .ref q2, .ref q3, .ref q4, .ref q5, .ref q6, .int 0, .int 1, .ref q7, .int 0, .ref q8, .null, .ref q9, .null, .ref q10, .ref q11, .ref q12, .ref q13, .ref q14, .int 0, .ref q15, .ref q16, .ref q17, .ref q18, .ref q19, .int 0, .int (-1)]))] s.heap.size = A at hD hZ ⊢
  have hA : ∀ q : Nat, s.heap.size ≤ q → A q := fun q h => by rw [← hAe]; exact Or.inr h
  have hS : va_S A s.heap s.heap [] := va_S.rf
  have hP : va_P (dC, dI) vwCl [(q0, .inr (15, [.ref q1, .ref q2, .ref q3, .ref q4, .ref q5, .ref q6, .int 0, .int 1, .ref q7, .int 0, .ref q8, .null, .ref q9, .null, .ref q10, .ref q11, .ref q12, .ref q13, .ref q14, .int 0, .ref q15, .ref q16, .ref q17, .ref q18, .ref q19, .int 0, .int (-1)]))] s.heap := hP
  have hl := lv_entry ([.ref q0, .int 38]) (n := 3) (Nat.le_of_ble_eq_true rfl)
  rw [lg_entry_eq]
  generalize (lg_sl ([.ref q0, .int 38]) ++ List.replicate (3 - (lg_sl ([.ref q0, .int 38])).length) Slot.unset).toArray = ls at hl ⊢
  have hl : lv_has ls 3 [(0, .ref q0), (1, .int 38)] := hl
  refine va_new (D := (dC, dI)) (ci := 14) (fs := [.int 0, .int 0, .int 0, .null, .int 0, .null, .int 0, .int 0]) (C := RX12) (T := TX12) (N := 8) hx hb hts (fun _ h => List.mem_cons_of_mem _ (List.mem_append_left _ (List.mem_append_right _ h))) tyX12 tyX12_ok hown (hts (.classLink RX13 43 RX12) (by decide +kernel)) (hts (.instantiable RX12 8) (by decide +kernel)) (hts (.initialized RX12) (by decide +kernel)) hK hP hD hS hA rfl (zfs (by decide)) (Nat.le_of_ble_eq_true rfl) (Nat.le_of_ble_eq_true rfl) dX13_rowOf_0 (fun q23 H hP hD hS => ?_)
  have hP : va_P (dC, dI) vwCl [(q0, .inr (15, [.ref q1, .ref q2, .ref q3, .ref q4, .ref q5, .ref q6, .int 0, .int 1, .ref q7, .int 0, .ref q8, .null, .ref q9, .null, .ref q10, .ref q11, .ref q12, .ref q13, .ref q14, .int 0, .ref q15, .ref q16, .ref q17, .ref q18, .ref q19, .int 0, .int (-1)])), (q23, .inr (14, [.int 0, .int 0, .int 0, .null, .int 0, .null, .int 0, .int 0]))] H := hP
  have hD : va_D A [(q0, .inr (15, [.ref q1, .ref q2, .ref q3, .ref q4, .ref q5, .ref q6, .int 0, .int 1, .ref q7, .int 0, .ref q8, .null, .ref q9, .null, .ref q10, .ref q11, .ref q12, .ref q13, .ref q14, .int 0, .ref q15, .ref q16, .ref q17, .ref q18, .ref q19, .int 0, .int (-1)])), (q23, .inr (14, [.int 0, .int 0, .int 0, .null, .int 0, .null, .int 0, .int 0]))] := hD
  refine W.widen (k := 1) (n := 8) (Nat.le_of_ble_eq_true rfl) (Nat.le_of_ble_eq_true rfl) ?_
  refine lv_dup hx hb dX13_rowOf_3 rfl ?_
  refine lv_iload_n hx hb dX13_rowOf_4 rfl (lv_at hl 1 rfl) ?_
  have hPc := hP.sub (ws' := [(q23, .inr (14, [.int 0, .int 0, .int 0, .null, .int 0, .null, .int 0, .int 0]))]) [1] rfl
  have hDc := hD.sub (ws' := [(q23, .inr (14, [.int 0, .int 0, .int 0, .null, .int 0, .null, .int 0, .int 0]))]) [1] (by decide) rfl
  have hKc := hK.sub (tys' := []) [] rfl
  have hFc := va_free (wc := [(q23, .inr (14, [.int 0, .int 0, .int 0, .null, .int 0, .null, .int 0, .int 0]))]) hD hS hA [1] rfl
  refine va_callv (va_runI (As := [.int 38]) (rest := [.ref q23]) ⟨hx, hb, hml, hown, hts⟩ (c_X12_init_2 l dC dI q23 H.size  ) (cwI 1 hts gX13_rowOf_X12_init rfl rfl rfl (hts (.initialized RX12) (by decide +kernel)) (hts (.methodLink RX13 219 yX12_init) (by decide +kernel)) (hts (.instanceMethod yX12_init) (by decide +kernel)) rfl (by decide +kernel) ⟨Nat.le_of_ble_eq_true rfl, Nat.le_of_ble_eq_true rfl⟩) ⟨zB_blind, (zPre hPc hDc hKc hS hFc hZ hN)⟩ rfl rfl hl.1 rfl (lv_room (Nat.le_of_ble_eq_true rfl)) dX13_rowOf_5 ⟨Nat.le_of_ble_eq_true rfl, Nat.le_of_ble_eq_true rfl⟩) hS (fun q _ h => hFc q h) hFc (fun u t H1 locs ht hvm hw hB hz1 hk1 hS => ?_)
  obtain ⟨q24, q25, k0, hP1, hK1, hD1⟩ := hB
  rw [ht] at hP1
  have hK1 := va_K.moved hvm.symm hK1
  obtain ⟨hP, hD⟩ := va_join (wr := [(q0, .inr (15, [.ref q1, .ref q2, .ref q3, .ref q4, .ref q5, .ref q6, .int 0, .int 1, .ref q7, .int 0, .ref q8, .null, .ref q9, .null, .ref q10, .ref q11, .ref q12, .ref q13, .ref q14, .int 0, .ref q15, .ref q16, .ref q17, .ref q18, .ref q19, .int 0, .int (-1)]))]) (w1 := [(q23, .inr (14, [.int 38, .int 0, .int 1, .ref q24, .int 97, .ref q25, .int 0, .int 0])), (q24, .inl (k0, 0, .inr (.inr (.inr (.inr (fun _ => none))))))]) hP hD [1] [0] rfl rfl (by decide) (by decide) hk1 hFc hP1 hD1
  have hK := (hK.sub (tys' := []) [] rfl).app hK1
  generalize H1 = H at hP hS ⊢
  have hP : va_P (dC, dI) vwCl [(q0, .inr (15, [.ref q1, .ref q2, .ref q3, .ref q4, .ref q5, .ref q6, .int 0, .int 1, .ref q7, .int 0, .ref q8, .null, .ref q9, .null, .ref q10, .ref q11, .ref q12, .ref q13, .ref q14, .int 0, .ref q15, .ref q16, .ref q17, .ref q18, .ref q19, .int 0, .int (-1)])), (q23, .inr (14, [.int 38, .int 0, .int 1, .ref q24, .int 97, .ref q25, .int 0, .int 0])), (q24, .inl (k0, 0, .inr (.inr (.inr (.inr (fun _ => none))))))] H := hP
  have hD : va_D A [(q0, .inr (15, [.ref q1, .ref q2, .ref q3, .ref q4, .ref q5, .ref q6, .int 0, .int 1, .ref q7, .int 0, .ref q8, .null, .ref q9, .null, .ref q10, .ref q11, .ref q12, .ref q13, .ref q14, .int 0, .ref q15, .ref q16, .ref q17, .ref q18, .ref q19, .int 0, .int (-1)])), (q23, .inr (14, [.int 38, .int 0, .int 1, .ref q24, .int 97, .ref q25, .int 0, .int 0])), (q24, .inl (k0, 0, .inr (.inr (.inr (.inr (fun _ => none))))))] := hD
  have hK : va_K (dC, dI) vwCl [(k0, (.object "SeekwellModel$Node"))] s := hK
  refine W.widen (k := 3) (n := 8) (Nat.le_of_ble_eq_true rfl) (Nat.le_of_ble_eq_true rfl) ?_
  refine lv_astore_n (lv' := [(2, .ref q23), (0, .ref q0), (1, .int 38)]) hx hb dX13_rowOf_8 rfl hl (by decide) rfl (fun ls hl => ?_)
  refine lv_aload_n hx hb dX13_rowOf_9 rfl (lv_at hl 0 rfl) ?_
  refine lv_iload_n hx hb dX13_rowOf_10 rfl (lv_at hl 2 rfl) ?_
  refine lv_bipush (v := 124) hx hb dX13_rowOf_11 (by decide +kernel) ?_
  refine lv_icmp_ne (tgt := 25) hx hb dX13_rowOf_13 (by decide) (fun _ => ?_) (fun h9 => absurd h9 (show ¬ (38 : Int32) = (124 : Int32) by decide +kernel))
  refine lv_aload_n hx hb dX13_rowOf_25 rfl (lv_at hl 1 rfl) ?_
  have hPc := hP.sub (ws' := [(q0, .inr (15, [.ref q1, .ref q2, .ref q3, .ref q4, .ref q5, .ref q6, .int 0, .int 1, .ref q7, .int 0, .ref q8, .null, .ref q9, .null, .ref q10, .ref q11, .ref q12, .ref q13, .ref q14, .int 0, .ref q15, .ref q16, .ref q17, .ref q18, .ref q19, .int 0, .int (-1)]))]) [0] rfl
  have hDc := hD.sub (ws' := [(q0, .inr (15, [.ref q1, .ref q2, .ref q3, .ref q4, .ref q5, .ref q6, .int 0, .int 1, .ref q7, .int 0, .ref q8, .null, .ref q9, .null, .ref q10, .ref q11, .ref q12, .ref q13, .ref q14, .int 0, .ref q15, .ref q16, .ref q17, .ref q18, .ref q19, .int 0, .int (-1)]))]) [0] (by decide) rfl
  have hKc := hK.sub (tys' := []) [] rfl
  have hFc := va_free (wc := [(q0, .inr (15, [.ref q1, .ref q2, .ref q3, .ref q4, .ref q5, .ref q6, .int 0, .int 1, .ref q7, .int 0, .ref q8, .null, .ref q9, .null, .ref q10, .ref q11, .ref q12, .ref q13, .ref q14, .int 0, .ref q15, .ref q16, .ref q17, .ref q18, .ref q19, .int 0, .int (-1)]))]) hD hS hA [0] rfl
  refine va_callr (va_runV (As := []) (rest := [.ref q23]) ⟨hx, hb, hml, hown, hts⟩ (c_X13_term l dC dI q0 q1 q2 q3 q4 q5 q6 q7 q8 q9 q10 q11 q12 q13 q14 q15 q16 q17 q18 q19 H.size  ) (cwV 0 hts gX13_rowOf_X13_term rfl rfl rfl (by decide +kernel) ⟨Nat.le_of_ble_eq_true rfl, Nat.le_of_ble_eq_true rfl⟩) ⟨zB_blind, va_recv hK hP (ci := 15) (q0 := 0) rfl rfl, (zPre hPc hDc hKc hS hFc hZ hN)⟩ rfl rfl hl.1 rfl (lv_room (Nat.le_of_ble_eq_true rfl)) dX13_rowOf_26 ⟨Nat.le_of_ble_eq_true rfl, Nat.le_of_ble_eq_true rfl⟩) hS (fun q _ h => hFc q h) hFc (fun u ra t H1 locs ht hvm hw hB hz1 hk1 hS => ?_)
  obtain ⟨q20, q21, q22, hra, hP1, hK1, hD1⟩ := hB
  subst hra
  rw [ht] at hP1
  have hK1 := va_K.moved hvm.symm hK1
  obtain ⟨hP, hD⟩ := va_join (wr := [(q23, .inr (14, [.int 38, .int 0, .int 1, .ref q24, .int 97, .ref q25, .int 0, .int 0])), (q24, .inl (k0, 0, .inr (.inr (.inr (.inr (fun _ => none))))))]) (w1 := [(q0, .inr (15, [.ref q1, .ref q2, .ref q3, .ref q4, .ref q5, .ref q6, .int 0, .int 1, .ref q7, .int 0, .ref q8, .null, .ref q9, .null, .ref q10, .ref q11, .ref q12, .ref q13, .ref q14, .int 0, .ref q15, .ref q16, .ref q17, .ref q18, .ref q19, .int 0, .int 0])), (q20, .inr (14, [.int 119, .int 0, .int 1, .ref q21, .int 97, .ref q22, .int 0, .int 0]))]) hP hD [0] [1, 2] rfl rfl (by decide) (by decide) hk1 hFc hP1 hD1
  have hK := (hK.sub (tys' := [(k0, (.object "SeekwellModel$Node"))]) [0] rfl).app hK1
  generalize H1 = H at hP hS ⊢
  have hP : va_P (dC, dI) vwCl [(q23, .inr (14, [.int 38, .int 0, .int 1, .ref q24, .int 97, .ref q25, .int 0, .int 0])), (q24, .inl (k0, 0, .inr (.inr (.inr (.inr (fun _ => none)))))), (q0, .inr (15, [.ref q1, .ref q2, .ref q3, .ref q4, .ref q5, .ref q6, .int 0, .int 1, .ref q7, .int 0, .ref q8, .null, .ref q9, .null, .ref q10, .ref q11, .ref q12, .ref q13, .ref q14, .int 0, .ref q15, .ref q16, .ref q17, .ref q18, .ref q19, .int 0, .int 0])), (q20, .inr (14, [.int 119, .int 0, .int 1, .ref q21, .int 97, .ref q22, .int 0, .int 0]))] H := hP
  have hD : va_D A [(q23, .inr (14, [.int 38, .int 0, .int 1, .ref q24, .int 97, .ref q25, .int 0, .int 0])), (q24, .inl (k0, 0, .inr (.inr (.inr (.inr (fun _ => none)))))), (q0, .inr (15, [.ref q1, .ref q2, .ref q3, .ref q4, .ref q5, .ref q6, .int 0, .int 1, .ref q7, .int 0, .ref q8, .null, .ref q9, .null, .ref q10, .ref q11, .ref q12, .ref q13, .ref q14, .int 0, .ref q15, .ref q16, .ref q17, .ref q18, .ref q19, .int 0, .int 0])), (q20, .inr (14, [.int 119, .int 0, .int 1, .ref q21, .int 97, .ref q22, .int 0, .int 0]))] := hD
  have hK : va_K (dC, dI) vwCl [(k0, (.object "SeekwellModel$Node"))] s := hK
  refine W.widen (k := 8) (n := 29) (Nat.le_of_ble_eq_true rfl) (Nat.le_of_ble_eq_true rfl) ?_
  have hPc := hP.sub (ws' := [(q23, .inr (14, [.int 38, .int 0, .int 1, .ref q24, .int 97, .ref q25, .int 0, .int 0])), (q24, .inl (k0, 0, .inr (.inr (.inr (.inr (fun _ => none)))))), (q20, .inr (14, [.int 119, .int 0, .int 1, .ref q21, .int 97, .ref q22, .int 0, .int 0]))]) [0, 1, 3] rfl
  have hDc := hD.sub (ws' := [(q23, .inr (14, [.int 38, .int 0, .int 1, .ref q24, .int 97, .ref q25, .int 0, .int 0])), (q24, .inl (k0, 0, .inr (.inr (.inr (.inr (fun _ => none)))))), (q20, .inr (14, [.int 119, .int 0, .int 1, .ref q21, .int 97, .ref q22, .int 0, .int 0]))]) [0, 1, 3] (by decide) rfl
  have hKc := hK.sub (tys' := [(k0, (.object "SeekwellModel$Node"))]) [0] rfl
  have hFc := va_free (wc := [(q23, .inr (14, [.int 38, .int 0, .int 1, .ref q24, .int 97, .ref q25, .int 0, .int 0])), (q24, .inl (k0, 0, .inr (.inr (.inr (.inr (fun _ => none)))))), (q20, .inr (14, [.int 119, .int 0, .int 1, .ref q21, .int 97, .ref q22, .int 0, .int 0]))]) hD hS hA [0, 1, 3] rfl
  refine va_callv (va_runV (As := [.ref q20]) (rest := []) ⟨hx, hb, hml, hown, hts⟩ (c_X12_gets l dC dI q23 q20 q24 q25 q21 q22 k0 H.size  ) (cwV 1 hts gX13_rowOf_X12_gets rfl rfl rfl (by decide +kernel) ⟨Nat.le_of_ble_eq_true rfl, Nat.le_of_ble_eq_true rfl⟩) ⟨zB_blind, va_recv hK hP (ci := 14) (q0 := 0) rfl rfl, (zPre hPc hDc hKc hS hFc hZ hN)⟩ rfl rfl hl.1 rfl (lv_room (Nat.le_of_ble_eq_true rfl)) dX13_rowOf_29 ⟨Nat.le_of_ble_eq_true rfl, Nat.le_of_ble_eq_true rfl⟩) hS (fun q _ h => hFc q h) hFc (fun u t H1 locs ht hvm hw hB hz1 hk1 hS => ?_)
  obtain ⟨q26, k1, hP1, hK1, hD1⟩ := hB
  rw [ht] at hP1
  have hK1 := va_K.moved hvm.symm hK1
  obtain ⟨hP, hD⟩ := va_join (wr := [(q0, .inr (15, [.ref q1, .ref q2, .ref q3, .ref q4, .ref q5, .ref q6, .int 0, .int 1, .ref q7, .int 0, .ref q8, .null, .ref q9, .null, .ref q10, .ref q11, .ref q12, .ref q13, .ref q14, .int 0, .ref q15, .ref q16, .ref q17, .ref q18, .ref q19, .int 0, .int 0]))]) (w1 := [(q23, .inr (14, [.int 38, .int 0, .int 1, .ref q26, .int 97, .ref q25, .int 0, .int 0])), (q20, .inr (14, [.int 119, .int 0, .int 1, .ref q21, .int 97, .ref q22, .int 0, .int 0])), (q26, .inl (k1, 1, .inr (.inr (.inr (.inr (va_up (fun _ => none) (0 : Int32).toNatClampNeg (some q20)))))))]) hP hD [0, 1, 3] [2] rfl rfl (by decide) (by decide) hk1 hFc hP1 hD1
  have hK := (hK.sub (tys' := []) [] rfl).app hK1
  generalize H1 = H at hP hS ⊢
  have hP : va_P (dC, dI) vwCl [(q0, .inr (15, [.ref q1, .ref q2, .ref q3, .ref q4, .ref q5, .ref q6, .int 0, .int 1, .ref q7, .int 0, .ref q8, .null, .ref q9, .null, .ref q10, .ref q11, .ref q12, .ref q13, .ref q14, .int 0, .ref q15, .ref q16, .ref q17, .ref q18, .ref q19, .int 0, .int 0])), (q23, .inr (14, [.int 38, .int 0, .int 1, .ref q26, .int 97, .ref q25, .int 0, .int 0])), (q20, .inr (14, [.int 119, .int 0, .int 1, .ref q21, .int 97, .ref q22, .int 0, .int 0])), (q26, .inl (k1, 1, .inr (.inr (.inr (.inr (va_up (fun _ => none) (0 : Int32).toNatClampNeg (some q20)))))))] H := hP
  have hD : va_D A [(q0, .inr (15, [.ref q1, .ref q2, .ref q3, .ref q4, .ref q5, .ref q6, .int 0, .int 1, .ref q7, .int 0, .ref q8, .null, .ref q9, .null, .ref q10, .ref q11, .ref q12, .ref q13, .ref q14, .int 0, .ref q15, .ref q16, .ref q17, .ref q18, .ref q19, .int 0, .int 0])), (q23, .inr (14, [.int 38, .int 0, .int 1, .ref q26, .int 97, .ref q25, .int 0, .int 0])), (q20, .inr (14, [.int 119, .int 0, .int 1, .ref q21, .int 97, .ref q22, .int 0, .int 0])), (q26, .inl (k1, 1, .inr (.inr (.inr (.inr (va_up (fun _ => none) (0 : Int32).toNatClampNeg (some q20)))))))] := hD
  have hK : va_K (dC, dI) vwCl [(k1, (.object "SeekwellModel$Node"))] s := hK
  refine W.widen (k := 9) (n := 30) (Nat.le_of_ble_eq_true rfl) (Nat.le_of_ble_eq_true rfl) ?_
  refine lv_aload_n hx hb dX13_rowOf_32 rfl (lv_at hl 1 rfl) ?_
  refine va_get (D := (dC, dI)) (ci := 15) (v := .int 0) (C := RX13) (T := TX13) (N := 27) hx hb hts (fun _ h => List.mem_cons_of_mem _ (List.mem_append_left _ (List.mem_append_left _ (List.mem_append_right _ h)))) hown hK hP 0 rfl rfl 26 (by decide) (hts (.fieldLink RX13 216 "SeekwellModel" "fault" "I") (by decide +kernel)) (fun _ h9 => h9) rfl dX13_rowOf_33 ?_
  refine lv_if_ge (tgt := 83) hx hb dX13_rowOf_36 (by decide) (fun _ => ?_) (fun h9 => absurd (show (0 : Int32) ≤ (0 : Int32) by decide +kernel) h9)
  refine lv_aload_n hx hb dX13_rowOf_83 rfl (lv_at hl 0 rfl) ?_
  refine va_get (D := (dC, dI)) (ci := 14) (v := .ref q26) (C := RX12) (T := TX12) (N := 8) hx hb hts (fun _ h => List.mem_cons_of_mem _ (List.mem_append_left _ (List.mem_append_right _ h))) hown hK hP 1 rfl rfl 3 (by decide) (hts (.fieldLink RX13 234 "SeekwellModel$Node" "rows" "[LSeekwellModel$Node;") (by decide +kernel)) (fun _ h9 => h9) rfl dX13_rowOf_84 ?_
  refine va_alen (D := (dC, dI)) (v := 1) hx hb hK hP 3 0 rfl rfl (show Int32.ofNat 1 = 1 by decide +kernel) dX13_rowOf_87 ?_
  refine lv_iconst (v := 1) hx hb dX13_rowOf_88 (by decide +kernel) ?_
  refine lv_icmp_ne (tgt := 101) hx hb dX13_rowOf_89 (by decide) (fun h9 => absurd (show (1 : Int32) = (1 : Int32) by decide +kernel) h9) (fun _ => ?_)
  refine lv_aload_n hx hb dX13_rowOf_92 rfl (lv_at hl 0 rfl) ?_
  refine va_get (D := (dC, dI)) (ci := 14) (v := .ref q26) (C := RX12) (T := TX12) (N := 8) hx hb hts (fun _ h => List.mem_cons_of_mem _ (List.mem_append_left _ (List.mem_append_right _ h))) hown hK hP 1 rfl rfl 3 (by decide) (hts (.fieldLink RX13 234 "SeekwellModel$Node" "rows" "[LSeekwellModel$Node;") (by decide +kernel)) (fun _ h9 => h9) rfl dX13_rowOf_93 ?_
  refine lv_iconst (v := 0) hx hb dX13_rowOf_96 (by decide +kernel) ?_
  refine va_aldq (D := (dC, dI)) hx hb hK hP 3 0 rfl rfl (i := 0) (zin (by decide +kernel)) dX13_rowOf_97 ?_
  refine zt_v (w := .ref q20) rfl ?_
  refine lv_goto (tgt := 102) hx hb dX13_rowOf_98 (by decide) ?_
  have hP9 := hP.sub (ws' := [(q0, .inr (15, [.ref q1, .ref q2, .ref q3, .ref q4, .ref q5, .ref q6, .int 0, .int 1, .ref q7, .int 0, .ref q8, .null, .ref q9, .null, .ref q10, .ref q11, .ref q12, .ref q13, .ref q14, .int 0, .ref q15, .ref q16, .ref q17, .ref q18, .ref q19, .int 0, .int 0])), (q20, .inr (14, [.int 119, .int 0, .int 1, .ref q21, .int 97, .ref q22, .int 0, .int 0]))]) [0, 2] rfl
  have hD9 := hD.sub (ws' := [(q0, .inr (15, [.ref q1, .ref q2, .ref q3, .ref q4, .ref q5, .ref q6, .int 0, .int 1, .ref q7, .int 0, .ref q8, .null, .ref q9, .null, .ref q10, .ref q11, .ref q12, .ref q13, .ref q14, .int 0, .ref q15, .ref q16, .ref q17, .ref q18, .ref q19, .int 0, .int 0])), (q20, .inr (14, [.int 119, .int 0, .int 1, .ref q21, .int 97, .ref q22, .int 0, .int 0]))]) [0, 2] (by decide) rfl
  have hK9 := hK.sub (tys' := []) [] rfl
  exact W.aret (v := .ref q20) hx hb hr (Or.inl ⟨_, rfl⟩) (Or.inr ⟨_, rfl⟩) (fun t ht hW => ⟨⟨(), q20, rfl, trivial, q20, q21, q22, rfl, ⟨by rw [ht]; exact hP9, va_K.moved hW.alike hK9, hD9⟩⟩, hS.F ht⟩) hS.2.2 dX13_rowOf_102
set_option maxHeartbeats 4000000 in
set_option maxRecDepth 100000 in
theorem c_X12_gets_2 (l : Launch) (dC : Nat → ClassId) (dI : Nat → Nat → Nat) (q0 q1 q2 q3 q4 q5 : Nat) (k0 : ClassId) (sz : Nat) : Met l yX12_gets wsX12_gets ({ frames := 0, cells := 1, slots := 1, locals := 0 }) (va_Pc [.ref q0, .ref q1] (zB (dC, dI) [(k0, (.object "SeekwellModel$Node"))] [(q0, .inr (14, [.int 124, .int 0, .int 1, .ref q2, .int 97, .ref q3, .int 0, .int 0])), (q2, .inl (k0, 0, .inr (.inr (.inr (.inr (fun _ => none)))))), (q1, .inr (14, [.int 119, .int 0, .int 1, .ref q4, .int 97, .ref q5, .int 0, .int 0]))] sz)) (va_Qv (fun (_ : Unit) => True) (fun _ t => ∃ q6 : Nat, ∃ k1 : ClassId, zE (dC, dI) [(k1, (.object "SeekwellModel$Node"))] [(q0, .inr (14, [.int 124, .int 0, .int 1, .ref q6, .int 97, .ref q3, .int 0, .int 0])), (q6, .inl (k1, 1, .inr (.inr (.inr (.inr (va_up (fun _ => none) (0 : Int32).toNatClampNeg (some q1)))))))] (va_A [(q0, .inr (14, [.int 124, .int 0, .int 1, .ref q2, .int 97, .ref q3, .int 0, .int 0])), (q2, .inl (k0, 0, .inr (.inr (.inr (.inr (fun _ => none)))))), (q1, .inr (14, [.int 119, .int 0, .int 1, .ref q4, .int 97, .ref q5, .int 0, .int 0]))] sz) t) (va_A [(q0, .inr (14, [.int 124, .int 0, .int 1, .ref q2, .int 97, .ref q3, .int 0, .int 0])), (q2, .inl (k0, 0, .inr (.inr (.inr (.inr (fun _ => none)))))), (q1, .inr (14, [.int 119, .int 0, .int 1, .ref q4, .int 97, .ref q5, .int 0, .int 0]))] sz)) 1 1 (va_A [(q0, .inr (14, [.int 124, .int 0, .int 1, .ref q2, .int 97, .ref q3, .int 0, .int 0])), (q2, .inl (k0, 0, .inr (.inr (.inr (.inr (fun _ => none)))))), (q1, .inr (14, [.int 119, .int 0, .int 1, .ref q4, .int 97, .ref q5, .int 0, .int 0]))] sz) := by
  refine Met.ofW (cc := cX12_gets) (maxL := 4) (ret := none) (by decide) rfl ?_
  intro p e s m args below meth c s₁ B hml hv
  obtain ⟨rfl, hsz, hP, hK, hD0, hZ, hN⟩ := hv
  have hx := B.exec
  have hb := B.bytes
  have hr := B.returns
  have hts := atoms_spec (ws := wsX12_gets) B.pre
  have hown : s.vm.findClass RX12 = some m.cls := findClass_of_methodNamed B.named
  have hlocks := B.notSynchronized
  subst hsz
  have hD := hD0.self (sz := s.heap.size)
  generalize hAe : va_A [(q0, .inr (14, [.int 124, .int 0, .int 1, .ref q2, .int 97, .ref q3, .int 0, .int 0])), (q2, .inl (k0, 0, .inr (.inr (.inr (.inr (fun _ => none)))))), (q1, .inr (14, [.int 119, .int 0, .int 1, .ref q4, .int 97, .ref q5, .int 0, .int 0]))] s.heap.size = A at hD hZ ⊢
  have hA : ∀ q : Nat, s.heap.size ≤ q → A q := fun q h => by rw [← hAe]; exact Or.inr h
  have hS : va_S A s.heap s.heap [] := va_S.rf
  have hP : va_P (dC, dI) vwCl [(q0, .inr (14, [.int 124, .int 0, .int 1, .ref q2, .int 97, .ref q3, .int 0, .int 0])), (q2, .inl (k0, 0, .inr (.inr (.inr (.inr (fun _ => none)))))), (q1, .inr (14, [.int 119, .int 0, .int 1, .ref q4, .int 97, .ref q5, .int 0, .int 0]))] s.heap := hP
  have hl := lv_entry ([.ref q0, .ref q1]) (n := 4) (Nat.le_of_ble_eq_true rfl)
  rw [lg_entry_eq]
  generalize (lg_sl ([.ref q0, .ref q1]) ++ List.replicate (4 - (lg_sl ([.ref q0, .ref q1])).length) Slot.unset).toArray = ls at hl ⊢
  have hl : lv_has ls 4 [(0, .ref q0), (1, .ref q1)] := hl
  refine lv_aload_n hx hb dX12_gets_0 rfl (lv_at hl 0 rfl) ?_
  refine va_get (D := (dC, dI)) (ci := 14) (v := .ref q2) (C := RX12) (T := TX12) (N := 8) hx hb hts (fun _ h => List.mem_cons_of_mem _ (List.mem_append_right _ h)) hown hK hP 0 rfl rfl 3 (by decide) (hts (.fieldLink RX12 13 "SeekwellModel$Node" "rows" "[LSeekwellModel$Node;") (by decide +kernel)) (fun _ h9 => h9) rfl dX12_gets_1 ?_
  refine va_alen (D := (dC, dI)) (v := 0) hx hb hK hP 1 0 rfl rfl (show Int32.ofNat 0 = 0 by decide +kernel) dX12_gets_4 ?_
  refine lv_iconst (v := 1) hx hb dX12_gets_5 (by decide +kernel) ?_
  refine lv_iadd hx hb dX12_gets_6 ?_
  refine zt_i (v := 1) (by decide +kernel) ?_
  refine va_newq (D := (dC, dI)) (C := "SeekwellModel$Node") (N' := 1) hx hb hown (hts (.classLink RX12 8 "SeekwellModel$Node") (by decide +kernel)) (hN.2.2.1 "SeekwellModel$Node" (by decide +kernel)) hK hP hD hS hA (by decide +kernel) (by decide +kernel) (Nat.le_of_ble_eq_true rfl) (Nat.le_of_ble_eq_true rfl) (Nat.le_of_ble_eq_true rfl) dX12_gets_7 (fun q6 k1 H hK hP hD hS => ?_)
  have hP : va_P (dC, dI) vwCl [(q0, .inr (14, [.int 124, .int 0, .int 1, .ref q2, .int 97, .ref q3, .int 0, .int 0])), (q2, .inl (k0, 0, .inr (.inr (.inr (.inr (fun _ => none)))))), (q1, .inr (14, [.int 119, .int 0, .int 1, .ref q4, .int 97, .ref q5, .int 0, .int 0])), (q6, .inl (k1, 1, .inr (.inr (.inr (.inr (fun _ => none))))))] H := hP
  have hD : va_D A [(q0, .inr (14, [.int 124, .int 0, .int 1, .ref q2, .int 97, .ref q3, .int 0, .int 0])), (q2, .inl (k0, 0, .inr (.inr (.inr (.inr (fun _ => none)))))), (q1, .inr (14, [.int 119, .int 0, .int 1, .ref q4, .int 97, .ref q5, .int 0, .int 0])), (q6, .inl (k1, 1, .inr (.inr (.inr (.inr (fun _ => none))))))] := hD
  have hK : va_K (dC, dI) vwCl [(k0, (.object "SeekwellModel$Node")), (k1, (.object "SeekwellModel$Node"))] s := hK
  refine W.widen (k := 1) (n := 1) (Nat.le_of_ble_eq_true rfl) (Nat.le_of_ble_eq_true rfl) ?_
  refine lv_astore_n (lv' := [(2, .ref q6), (0, .ref q0), (1, .ref q1)]) hx hb dX12_gets_10 rfl hl (by decide) rfl (fun ls hl => ?_)
  refine lv_iconst (v := 0) hx hb dX12_gets_11 (by decide +kernel) ?_
  refine lv_istore_n (lv' := [(3, .int 0), (2, .ref q6), (0, .ref q0), (1, .ref q1)]) hx hb dX12_gets_12 rfl hl (by decide) rfl (fun ls hl => ?_)
  refine lv_iload_n hx hb dX12_gets_13 rfl (lv_at hl 0 rfl) ?_
  refine lv_aload_n hx hb dX12_gets_14 rfl (lv_at hl 2 rfl) ?_
  refine va_get (D := (dC, dI)) (ci := 14) (v := .ref q2) (C := RX12) (T := TX12) (N := 8) hx hb hts (fun _ h => List.mem_cons_of_mem _ (List.mem_append_right _ h)) hown hK hP 0 rfl rfl 3 (by decide) (hts (.fieldLink RX12 13 "SeekwellModel$Node" "rows" "[LSeekwellModel$Node;") (by decide +kernel)) (fun _ h9 => h9) rfl dX12_gets_15 ?_
  refine va_alen (D := (dC, dI)) (v := 0) hx hb hK hP 1 0 rfl rfl (show Int32.ofNat 0 = 0 by decide +kernel) dX12_gets_18 ?_
  refine lv_icmp_ge (tgt := 37) hx hb dX12_gets_19 (by decide) (fun _ => ?_) (fun h9 => absurd (show (0 : Int32) ≤ (0 : Int32) by decide +kernel) h9)
  refine lv_aload_n hx hb dX12_gets_37 rfl (lv_at hl 1 rfl) ?_
  refine lv_aload_n hx hb dX12_gets_38 rfl (lv_at hl 2 rfl) ?_
  refine va_get (D := (dC, dI)) (ci := 14) (v := .ref q2) (C := RX12) (T := TX12) (N := 8) hx hb hts (fun _ h => List.mem_cons_of_mem _ (List.mem_append_right _ h)) hown hK hP 0 rfl rfl 3 (by decide) (hts (.fieldLink RX12 13 "SeekwellModel$Node" "rows" "[LSeekwellModel$Node;") (by decide +kernel)) (fun _ h9 => h9) rfl dX12_gets_39 ?_
  refine va_alen (D := (dC, dI)) (v := 0) hx hb hK hP 1 0 rfl rfl (show Int32.ofNat 0 = 0 by decide +kernel) dX12_gets_42 ?_
  refine lv_aload_n hx hb dX12_gets_43 rfl (lv_at hl 3 rfl) ?_
  refine va_astq (D := (dC, dI)) hx hb hK hP hD hS 3 1 2 14 rfl rfl rfl rfl (i := 0) (zin (by decide +kernel)) dX12_gets_44 (fun H locs hP hD hS => ?_)
  have hP : va_P (dC, dI) vwCl [(q0, .inr (14, [.int 124, .int 0, .int 1, .ref q2, .int 97, .ref q3, .int 0, .int 0])), (q2, .inl (k0, 0, .inr (.inr (.inr (.inr (fun _ => none)))))), (q1, .inr (14, [.int 119, .int 0, .int 1, .ref q4, .int 97, .ref q5, .int 0, .int 0])), (q6, .inl (k1, 1, .inr (.inr (.inr (.inr (va_up (fun _ => none) (0 : Int32).toNatClampNeg (some q1)))))))] H := hP
  have hD : va_D A [(q0, .inr (14, [.int 124, .int 0, .int 1, .ref q2, .int 97, .ref q3, .int 0, .int 0])), (q2, .inl (k0, 0, .inr (.inr (.inr (.inr (fun _ => none)))))), (q1, .inr (14, [.int 119, .int 0, .int 1, .ref q4, .int 97, .ref q5, .int 0, .int 0])), (q6, .inl (k1, 1, .inr (.inr (.inr (.inr (va_up (fun _ => none) (0 : Int32).toNatClampNeg (some q1)))))))] := hD
  refine lv_aload_n hx hb dX12_gets_45 rfl (lv_at hl 2 rfl) ?_
  refine lv_aload_n hx hb dX12_gets_46 rfl (lv_at hl 1 rfl) ?_
  refine va_put (D := (dC, dI)) (ci := 14) (v := .ref q6) (ty := (.array (.object "SeekwellModel$Node"))) (C := RX12) (T := TX12) (N := 8) hx hb hts (fun _ h => List.mem_cons_of_mem _ (List.mem_append_right _ h)) tyX12 tyX12_ok nmX12 hown hK hP hD hS 0 rfl rfl 3 (by decide) (hts (.fieldLink RX12 13 "SeekwellModel$Node" "rows" "[LSeekwellModel$Node;") (by decide +kernel)) (fun _ h9 => h9) rfl (by decide +kernel) rfl rfl (Nat.le_of_ble_eq_true rfl) dX12_gets_47 (fun H locs hP hD hS => ?_)
  have hP : va_P (dC, dI) vwCl [(q0, .inr (14, [.int 124, .int 0, .int 1, .ref q6, .int 97, .ref q3, .int 0, .int 0])), (q2, .inl (k0, 0, .inr (.inr (.inr (.inr (fun _ => none)))))), (q1, .inr (14, [.int 119, .int 0, .int 1, .ref q4, .int 97, .ref q5, .int 0, .int 0])), (q6, .inl (k1, 1, .inr (.inr (.inr (.inr (va_up (fun _ => none) (0 : Int32).toNatClampNeg (some q1)))))))] H := hP
  have hD : va_D A [(q0, .inr (14, [.int 124, .int 0, .int 1, .ref q6, .int 97, .ref q3, .int 0, .int 0])), (q2, .inl (k0, 0, .inr (.inr (.inr (.inr (fun _ => none)))))), (q1, .inr (14, [.int 119, .int 0, .int 1, .ref q4, .int 97, .ref q5, .int 0, .int 0])), (q6, .inl (k1, 1, .inr (.inr (.inr (.inr (va_up (fun _ => none) (0 : Int32).toNatClampNeg (some q1)))))))] := hD
  have hP9 := hP.sub (ws' := [(q0, .inr (14, [.int 124, .int 0, .int 1, .ref q6, .int 97, .ref q3, .int 0, .int 0])), (q6, .inl (k1, 1, .inr (.inr (.inr (.inr (va_up (fun _ => none) (0 : Int32).toNatClampNeg (some q1)))))))]) [0, 3] rfl
  have hD9 := hD.sub (ws' := [(q0, .inr (14, [.int 124, .int 0, .int 1, .ref q6, .int 97, .ref q3, .int 0, .int 0])), (q6, .inl (k1, 1, .inr (.inr (.inr (.inr (va_up (fun _ => none) (0 : Int32).toNatClampNeg (some q1)))))))]) [0, 3] (by decide) rfl
  have hK9 := hK.sub (tys' := [(k1, (.object "SeekwellModel$Node"))]) [1] rfl
  exact W.vret hx hb hr (fun t ht hW => ⟨⟨(), rfl, trivial, q6, k1, ⟨by rw [ht]; exact hP9, va_K.moved hW.alike hK9, hD9⟩⟩, hS.F ht⟩) hS.2.2 dX12_gets_50
set_option maxHeartbeats 4000000 in
set_option maxRecDepth 100000 in
theorem c_X13_rowOf_2 (l : Launch) (dC : Nat → ClassId) (dI : Nat → Nat → Nat) (q0 q1 q2 q3 q4 q5 q6 q7 q8 q9 q10 q11 q12 q13 q14 q15 q16 q17 q18 q19 : Nat) (sz : Nat) : Met l yX13_rowOf wsX13_rowOf ({ frames := 5, cells := 13, slots := 39, locals := 118 }) (va_Pc [.ref q0, .int 124] (zB (dC, dI) [] [(q0, .inr (15, [.ref q1, .ref q2, .ref q3, .ref q4, .ref q5, .ref q6, .int 0, .int 1, .ref q7, .int 0, .ref q8, .null, .ref q9, .null, .ref q10, .ref q11, .ref q12, .ref q13, .ref q14, .int 0, .ref q15, .ref q16, .ref q17, .ref q18, .ref q19, .int 0, .int (-1)]))] sz)) (va_Qr (fun (_ : Unit) => True) (fun _ ra t => ∃ q20 : Nat, q20 = ra ∧ zE (dC, dI) [] [(q0, .inr (15, [.ref q1, .ref q2, .ref q3, .ref q4, .ref q5, .ref q6, .int 0, .int 1, .ref q7, .int 0, .ref q8, .null, .ref q9, .null, .ref q10, .ref q11, .ref q12, .ref q13, .ref q14, .int 0, .ref q15, .ref q16, .ref q17, .ref q18, .ref q19, .int 0, .int 0]))] (va_A [(q0, .inr (15, [.ref q1, .ref q2, .ref q3, .ref q4, .ref q5, .ref q6, .int 0, .int 1, .ref q7, .int 0, .ref q8, .null, .ref q9, .null, .ref q10, .ref q11, .ref q12, .ref q13, .ref q14, .int 0, .ref q15, .ref q16, .ref q17, .ref q18, .ref q19, .int 0, .int (-1)]))] sz) t) (va_A [(q0, .inr (15, [.ref q1, .ref q2, .ref q3, .ref q4, .ref q5, .ref q6, .int 0, .int 1, .ref q7, .int 0, .ref q8, .null, .ref q9, .null, .ref q10, .ref q11, .ref q12, .ref q13, .ref q14, .int 0, .ref q15, .ref q16, .ref q17, .ref q18, .ref q19, .int 0, .int (-1)]))] sz)) 13 39 (va_A [(q0, .inr (15, [.ref q1, .ref q2, .ref q3, .ref q4, .ref q5, .ref q6, .int 0, .int 1, .ref q7, .int 0, .ref q8, .null, .ref q9, .null, .ref q10, .ref q11, .ref q12, .ref q13, .ref q14, .int 0, .ref q15, .ref q16, .ref q17, .ref q18, .ref q19, .int 0, .int (-1)]))] sz) := by
  refine Met.ofW (cc := cX13_rowOf) (maxL := 3) (ret := (some (.object "SeekwellModel$Node"))) (by decide) rfl ?_
  intro p e s m args below meth c s₁ B hml hv
  obtain ⟨rfl, hsz, hP, hK, hD0, hZ, hN⟩ := hv
  have hx := B.exec
  have hb := B.bytes
  have hr := B.returns
  have hts := atoms_spec (ws := wsX13_rowOf) B.pre
  have hown : s.vm.findClass RX13 = some m.cls := findClass_of_methodNamed B.named
  have hlocks := B.notSynchronized
  subst hsz
  have hD := hD0.self (sz := s.heap.size)
  generalize hAe : va_A [(q0, .inr (15, [.ref q1, .ref q2, .ref q3, .ref q4, .ref q5, .ref q6, .int 0, .int 1, .ref q7, .int 0, .ref q8, .null, .ref q9, .null, .ref q10, .ref q11, .ref q12, .ref q13, .ref q14, .int 0, .ref q15, .ref q16, .ref q17, .ref q18, .ref q19, .int 0, .int (-1)]))] s.heap.size = A at hD hZ ⊢
  have hA : ∀ q : Nat, s.heap.size ≤ q → A q := fun q h => by rw [← hAe]; exact Or.inr h
  have hS : va_S A s.heap s.heap [] := va_S.rf
  have hP : va_P (dC, dI) vwCl [(q0, .inr (15, [.ref q1, .ref q2, .ref q3, .ref q4, .ref q5, .ref q6, .int 0, .int 1, .ref q7, .int 0, .ref q8, .null, .ref q9, .null, .ref q10, .ref q11, .ref q12, .ref q13, .ref q14, .int 0, .ref q15, .ref q16, .ref q17, .ref q18, .ref q19, .int 0, .int (-1)]))] s.heap := hP
  have hl := lv_entry ([.ref q0, .int 124]) (n := 3) (Nat.le_of_ble_eq_true rfl)
  rw [lg_entry_eq]
  generalize (lg_sl ([.ref q0, .int 124]) ++ List.replicate (3 - (lg_sl ([.ref q0, .int 124])).length) Slot.unset).toArray = ls at hl ⊢
  have hl : lv_has ls 3 [(0, .ref q0), (1, .int 124)] := hl
  refine va_new (D := (dC, dI)) (ci := 14) (fs := [.int 0, .int 0, .int 0, .null, .int 0, .null, .int 0, .int 0]) (C := RX12) (T := TX12) (N := 8) hx hb hts (fun _ h => List.mem_cons_of_mem _ (List.mem_append_left _ (List.mem_append_right _ h))) tyX12 tyX12_ok hown (hts (.classLink RX13 43 RX12) (by decide +kernel)) (hts (.instantiable RX12 8) (by decide +kernel)) (hts (.initialized RX12) (by decide +kernel)) hK hP hD hS hA rfl (zfs (by decide)) (Nat.le_of_ble_eq_true rfl) (Nat.le_of_ble_eq_true rfl) dX13_rowOf_0 (fun q21 H hP hD hS => ?_)
  have hP : va_P (dC, dI) vwCl [(q0, .inr (15, [.ref q1, .ref q2, .ref q3, .ref q4, .ref q5, .ref q6, .int 0, .int 1, .ref q7, .int 0, .ref q8, .null, .ref q9, .null, .ref q10, .ref q11, .ref q12, .ref q13, .ref q14, .int 0, .ref q15, .ref q16, .ref q17, .ref q18, .ref q19, .int 0, .int (-1)])), (q21, .inr (14, [.int 0, .int 0, .int 0, .null, .int 0, .null, .int 0, .int 0]))] H := hP
  have hD : va_D A [(q0, .inr (15, [.ref q1, .ref q2, .ref q3, .ref q4, .ref q5, .ref q6, .int 0, .int 1, .ref q7, .int 0, .ref q8, .null, .ref q9, .null, .ref q10, .ref q11, .ref q12, .ref q13, .ref q14, .int 0, .ref q15, .ref q16, .ref q17, .ref q18, .ref q19, .int 0, .int (-1)])), (q21, .inr (14, [.int 0, .int 0, .int 0, .null, .int 0, .null, .int 0, .int 0]))] := hD
  refine W.widen (k := 1) (n := 8) (Nat.le_of_ble_eq_true rfl) (Nat.le_of_ble_eq_true rfl) ?_
  refine lv_dup hx hb dX13_rowOf_3 rfl ?_
  refine lv_iload_n hx hb dX13_rowOf_4 rfl (lv_at hl 1 rfl) ?_
  have hPc := hP.sub (ws' := [(q21, .inr (14, [.int 0, .int 0, .int 0, .null, .int 0, .null, .int 0, .int 0]))]) [1] rfl
  have hDc := hD.sub (ws' := [(q21, .inr (14, [.int 0, .int 0, .int 0, .null, .int 0, .null, .int 0, .int 0]))]) [1] (by decide) rfl
  have hKc := hK.sub (tys' := []) [] rfl
  have hFc := va_free (wc := [(q21, .inr (14, [.int 0, .int 0, .int 0, .null, .int 0, .null, .int 0, .int 0]))]) hD hS hA [1] rfl
  refine va_callv (va_runI (As := [.int 124]) (rest := [.ref q21]) ⟨hx, hb, hml, hown, hts⟩ (c_X12_init l dC dI q21 H.size  ) (cwI 1 hts gX13_rowOf_X12_init rfl rfl rfl (hts (.initialized RX12) (by decide +kernel)) (hts (.methodLink RX13 219 yX12_init) (by decide +kernel)) (hts (.instanceMethod yX12_init) (by decide +kernel)) rfl (by decide +kernel) ⟨Nat.le_of_ble_eq_true rfl, Nat.le_of_ble_eq_true rfl⟩) ⟨zB_blind, (zPre hPc hDc hKc hS hFc hZ hN)⟩ rfl rfl hl.1 rfl (lv_room (Nat.le_of_ble_eq_true rfl)) dX13_rowOf_5 ⟨Nat.le_of_ble_eq_true rfl, Nat.le_of_ble_eq_true rfl⟩) hS (fun q _ h => hFc q h) hFc (fun u t H1 locs ht hvm hw hB hz1 hk1 hS => ?_)
  obtain ⟨q22, q23, k0, hP1, hK1, hD1⟩ := hB
  rw [ht] at hP1
  have hK1 := va_K.moved hvm.symm hK1
  obtain ⟨hP, hD⟩ := va_join (wr := [(q0, .inr (15, [.ref q1, .ref q2, .ref q3, .ref q4, .ref q5, .ref q6, .int 0, .int 1, .ref q7, .int 0, .ref q8, .null, .ref q9, .null, .ref q10, .ref q11, .ref q12, .ref q13, .ref q14, .int 0, .ref q15, .ref q16, .ref q17, .ref q18, .ref q19, .int 0, .int (-1)]))]) (w1 := [(q21, .inr (14, [.int 124, .int 0, .int 1, .ref q22, .int 97, .ref q23, .int 0, .int 0])), (q22, .inl (k0, 0, .inr (.inr (.inr (.inr (fun _ => none))))))]) hP hD [1] [0] rfl rfl (by decide) (by decide) hk1 hFc hP1 hD1
  have hK := (hK.sub (tys' := []) [] rfl).app hK1
  generalize H1 = H at hP hS ⊢
  have hP : va_P (dC, dI) vwCl [(q0, .inr (15, [.ref q1, .ref q2, .ref q3, .ref q4, .ref q5, .ref q6, .int 0, .int 1, .ref q7, .int 0, .ref q8, .null, .ref q9, .null, .ref q10, .ref q11, .ref q12, .ref q13, .ref q14, .int 0, .ref q15, .ref q16, .ref q17, .ref q18, .ref q19, .int 0, .int (-1)])), (q21, .inr (14, [.int 124, .int 0, .int 1, .ref q22, .int 97, .ref q23, .int 0, .int 0])), (q22, .inl (k0, 0, .inr (.inr (.inr (.inr (fun _ => none))))))] H := hP
  have hD : va_D A [(q0, .inr (15, [.ref q1, .ref q2, .ref q3, .ref q4, .ref q5, .ref q6, .int 0, .int 1, .ref q7, .int 0, .ref q8, .null, .ref q9, .null, .ref q10, .ref q11, .ref q12, .ref q13, .ref q14, .int 0, .ref q15, .ref q16, .ref q17, .ref q18, .ref q19, .int 0, .int (-1)])), (q21, .inr (14, [.int 124, .int 0, .int 1, .ref q22, .int 97, .ref q23, .int 0, .int 0])), (q22, .inl (k0, 0, .inr (.inr (.inr (.inr (fun _ => none))))))] := hD
  have hK : va_K (dC, dI) vwCl [(k0, (.object "SeekwellModel$Node"))] s := hK
  refine W.widen (k := 3) (n := 8) (Nat.le_of_ble_eq_true rfl) (Nat.le_of_ble_eq_true rfl) ?_
  refine lv_astore_n (lv' := [(2, .ref q21), (0, .ref q0), (1, .int 124)]) hx hb dX13_rowOf_8 rfl hl (by decide) rfl (fun ls hl => ?_)
  refine lv_aload_n hx hb dX13_rowOf_9 rfl (lv_at hl 0 rfl) ?_
  refine lv_iload_n hx hb dX13_rowOf_10 rfl (lv_at hl 2 rfl) ?_
  refine lv_bipush (v := 124) hx hb dX13_rowOf_11 (by decide +kernel) ?_
  refine lv_icmp_ne (tgt := 25) hx hb dX13_rowOf_13 (by decide) (fun h9 => absurd (show (124 : Int32) = (124 : Int32) by decide +kernel) h9) (fun _ => ?_)
  refine lv_aload_n hx hb dX13_rowOf_16 rfl (lv_at hl 1 rfl) ?_
  refine lv_bipush (v := 38) hx hb dX13_rowOf_17 (by decide +kernel) ?_
  have hPc := hP.sub (ws' := [(q0, .inr (15, [.ref q1, .ref q2, .ref q3, .ref q4, .ref q5, .ref q6, .int 0, .int 1, .ref q7, .int 0, .ref q8, .null, .ref q9, .null, .ref q10, .ref q11, .ref q12, .ref q13, .ref q14, .int 0, .ref q15, .ref q16, .ref q17, .ref q18, .ref q19, .int 0, .int (-1)]))]) [0] rfl
  have hDc := hD.sub (ws' := [(q0, .inr (15, [.ref q1, .ref q2, .ref q3, .ref q4, .ref q5, .ref q6, .int 0, .int 1, .ref q7, .int 0, .ref q8, .null, .ref q9, .null, .ref q10, .ref q11, .ref q12, .ref q13, .ref q14, .int 0, .ref q15, .ref q16, .ref q17, .ref q18, .ref q19, .int 0, .int (-1)]))]) [0] (by decide) rfl
  have hKc := hK.sub (tys' := []) [] rfl
  have hFc := va_free (wc := [(q0, .inr (15, [.ref q1, .ref q2, .ref q3, .ref q4, .ref q5, .ref q6, .int 0, .int 1, .ref q7, .int 0, .ref q8, .null, .ref q9, .null, .ref q10, .ref q11, .ref q12, .ref q13, .ref q14, .int 0, .ref q15, .ref q16, .ref q17, .ref q18, .ref q19, .int 0, .int (-1)]))]) hD hS hA [0] rfl
  refine va_callr (va_runV (As := [.int 38]) (rest := [.ref q21]) ⟨hx, hb, hml, hown, hts⟩ (c_X13_rowOf l dC dI q0 q1 q2 q3 q4 q5 q6 q7 q8 q9 q10 q11 q12 q13 q14 q15 q16 q17 q18 q19 H.size  ) (cwV 1 hts gX13_rowOf_X13_rowOf rfl rfl rfl (by decide +kernel) ⟨Nat.le_of_ble_eq_true rfl, Nat.le_of_ble_eq_true rfl⟩) ⟨zB_blind, va_recv hK hP (ci := 15) (q0 := 0) rfl rfl, (zPre hPc hDc hKc hS hFc hZ hN)⟩ rfl rfl hl.1 rfl (lv_room (Nat.le_of_ble_eq_true rfl)) dX13_rowOf_19 ⟨Nat.le_of_ble_eq_true rfl, Nat.le_of_ble_eq_true rfl⟩) hS (fun q _ h => hFc q h) hFc (fun u ra t H1 locs ht hvm hw hB hz1 hk1 hS => ?_)
  obtain ⟨q20, q24, q25, hra, hP1, hK1, hD1⟩ := hB
  subst hra
  rw [ht] at hP1
  have hK1 := va_K.moved hvm.symm hK1
  obtain ⟨hP, hD⟩ := va_join (wr := [(q21, .inr (14, [.int 124, .int 0, .int 1, .ref q22, .int 97, .ref q23, .int 0, .int 0])), (q22, .inl (k0, 0, .inr (.inr (.inr (.inr (fun _ => none))))))]) (w1 := [(q0, .inr (15, [.ref q1, .ref q2, .ref q3, .ref q4, .ref q5, .ref q6, .int 0, .int 1, .ref q7, .int 0, .ref q8, .null, .ref q9, .null, .ref q10, .ref q11, .ref q12, .ref q13, .ref q14, .int 0, .ref q15, .ref q16, .ref q17, .ref q18, .ref q19, .int 0, .int 0])), (q20, .inr (14, [.int 119, .int 0, .int 1, .ref q24, .int 97, .ref q25, .int 0, .int 0]))]) hP hD [0] [1, 2] rfl rfl (by decide) (by decide) hk1 hFc hP1 hD1
  have hK := (hK.sub (tys' := [(k0, (.object "SeekwellModel$Node"))]) [0] rfl).app hK1
  generalize H1 = H at hP hS ⊢
  have hP : va_P (dC, dI) vwCl [(q21, .inr (14, [.int 124, .int 0, .int 1, .ref q22, .int 97, .ref q23, .int 0, .int 0])), (q22, .inl (k0, 0, .inr (.inr (.inr (.inr (fun _ => none)))))), (q0, .inr (15, [.ref q1, .ref q2, .ref q3, .ref q4, .ref q5, .ref q6, .int 0, .int 1, .ref q7, .int 0, .ref q8, .null, .ref q9, .null, .ref q10, .ref q11, .ref q12, .ref q13, .ref q14, .int 0, .ref q15, .ref q16, .ref q17, .ref q18, .ref q19, .int 0, .int 0])), (q20, .inr (14, [.int 119, .int 0, .int 1, .ref q24, .int 97, .ref q25, .int 0, .int 0]))] H := hP
  have hD : va_D A [(q21, .inr (14, [.int 124, .int 0, .int 1, .ref q22, .int 97, .ref q23, .int 0, .int 0])), (q22, .inl (k0, 0, .inr (.inr (.inr (.inr (fun _ => none)))))), (q0, .inr (15, [.ref q1, .ref q2, .ref q3, .ref q4, .ref q5, .ref q6, .int 0, .int 1, .ref q7, .int 0, .ref q8, .null, .ref q9, .null, .ref q10, .ref q11, .ref q12, .ref q13, .ref q14, .int 0, .ref q15, .ref q16, .ref q17, .ref q18, .ref q19, .int 0, .int 0])), (q20, .inr (14, [.int 119, .int 0, .int 1, .ref q24, .int 97, .ref q25, .int 0, .int 0]))] := hD
  have hK : va_K (dC, dI) vwCl [(k0, (.object "SeekwellModel$Node"))] s := hK
  refine W.widen (k := 12) (n := 38) (Nat.le_of_ble_eq_true rfl) (Nat.le_of_ble_eq_true rfl) ?_
  refine lv_goto (tgt := 29) hx hb dX13_rowOf_22 (by decide) ?_
  have hPc := hP.sub (ws' := [(q21, .inr (14, [.int 124, .int 0, .int 1, .ref q22, .int 97, .ref q23, .int 0, .int 0])), (q22, .inl (k0, 0, .inr (.inr (.inr (.inr (fun _ => none)))))), (q20, .inr (14, [.int 119, .int 0, .int 1, .ref q24, .int 97, .ref q25, .int 0, .int 0]))]) [0, 1, 3] rfl
  have hDc := hD.sub (ws' := [(q21, .inr (14, [.int 124, .int 0, .int 1, .ref q22, .int 97, .ref q23, .int 0, .int 0])), (q22, .inl (k0, 0, .inr (.inr (.inr (.inr (fun _ => none)))))), (q20, .inr (14, [.int 119, .int 0, .int 1, .ref q24, .int 97, .ref q25, .int 0, .int 0]))]) [0, 1, 3] (by decide) rfl
  have hKc := hK.sub (tys' := [(k0, (.object "SeekwellModel$Node"))]) [0] rfl
  have hFc := va_free (wc := [(q21, .inr (14, [.int 124, .int 0, .int 1, .ref q22, .int 97, .ref q23, .int 0, .int 0])), (q22, .inl (k0, 0, .inr (.inr (.inr (.inr (fun _ => none)))))), (q20, .inr (14, [.int 119, .int 0, .int 1, .ref q24, .int 97, .ref q25, .int 0, .int 0]))]) hD hS hA [0, 1, 3] rfl
  refine va_callv (va_runV (As := [.ref q20]) (rest := []) ⟨hx, hb, hml, hown, hts⟩ (c_X12_gets_2 l dC dI q21 q20 q22 q23 q24 q25 k0 H.size  ) (cwV 1 hts gX13_rowOf_X12_gets rfl rfl rfl (by decide +kernel) ⟨Nat.le_of_ble_eq_true rfl, Nat.le_of_ble_eq_true rfl⟩) ⟨zB_blind, va_recv hK hP (ci := 14) (q0 := 0) rfl rfl, (zPre hPc hDc hKc hS hFc hZ hN)⟩ rfl rfl hl.1 rfl (lv_room (Nat.le_of_ble_eq_true rfl)) dX13_rowOf_29 ⟨Nat.le_of_ble_eq_true rfl, Nat.le_of_ble_eq_true rfl⟩) hS (fun q _ h => hFc q h) hFc (fun u t H1 locs ht hvm hw hB hz1 hk1 hS => ?_)
  obtain ⟨q26, k1, hP1, hK1, hD1⟩ := hB
  rw [ht] at hP1
  have hK1 := va_K.moved hvm.symm hK1
  obtain ⟨hP, hD⟩ := va_join (wr := [(q0, .inr (15, [.ref q1, .ref q2, .ref q3, .ref q4, .ref q5, .ref q6, .int 0, .int 1, .ref q7, .int 0, .ref q8, .null, .ref q9, .null, .ref q10, .ref q11, .ref q12, .ref q13, .ref q14, .int 0, .ref q15, .ref q16, .ref q17, .ref q18, .ref q19, .int 0, .int 0]))]) (w1 := [(q21, .inr (14, [.int 124, .int 0, .int 1, .ref q26, .int 97, .ref q23, .int 0, .int 0])), (q26, .inl (k1, 1, .inr (.inr (.inr (.inr (va_up (fun _ => none) (0 : Int32).toNatClampNeg (some q20)))))))]) hP hD [0, 1, 3] [2] rfl rfl (by decide) (by decide) hk1 hFc hP1 hD1
  have hK := (hK.sub (tys' := []) [] rfl).app hK1
  generalize H1 = H at hP hS ⊢
  have hP : va_P (dC, dI) vwCl [(q0, .inr (15, [.ref q1, .ref q2, .ref q3, .ref q4, .ref q5, .ref q6, .int 0, .int 1, .ref q7, .int 0, .ref q8, .null, .ref q9, .null, .ref q10, .ref q11, .ref q12, .ref q13, .ref q14, .int 0, .ref q15, .ref q16, .ref q17, .ref q18, .ref q19, .int 0, .int 0])), (q21, .inr (14, [.int 124, .int 0, .int 1, .ref q26, .int 97, .ref q23, .int 0, .int 0])), (q26, .inl (k1, 1, .inr (.inr (.inr (.inr (va_up (fun _ => none) (0 : Int32).toNatClampNeg (some q20)))))))] H := hP
  have hD : va_D A [(q0, .inr (15, [.ref q1, .ref q2, .ref q3, .ref q4, .ref q5, .ref q6, .int 0, .int 1, .ref q7, .int 0, .ref q8, .null, .ref q9, .null, .ref q10, .ref q11, .ref q12, .ref q13, .ref q14, .int 0, .ref q15, .ref q16, .ref q17, .ref q18, .ref q19, .int 0, .int 0])), (q21, .inr (14, [.int 124, .int 0, .int 1, .ref q26, .int 97, .ref q23, .int 0, .int 0])), (q26, .inl (k1, 1, .inr (.inr (.inr (.inr (va_up (fun _ => none) (0 : Int32).toNatClampNeg (some q20)))))))] := hD
  have hK : va_K (dC, dI) vwCl [(k1, (.object "SeekwellModel$Node"))] s := hK
  refine W.widen (k := 13) (n := 39) (Nat.le_of_ble_eq_true rfl) (Nat.le_of_ble_eq_true rfl) ?_
  refine lv_aload_n hx hb dX13_rowOf_32 rfl (lv_at hl 1 rfl) ?_
  refine va_get (D := (dC, dI)) (ci := 15) (v := .int 0) (C := RX13) (T := TX13) (N := 27) hx hb hts (fun _ h => List.mem_cons_of_mem _ (List.mem_append_left _ (List.mem_append_left _ (List.mem_append_right _ h)))) hown hK hP 0 rfl rfl 26 (by decide) (hts (.fieldLink RX13 216 "SeekwellModel" "fault" "I") (by decide +kernel)) (fun _ h9 => h9) rfl dX13_rowOf_33 ?_
  refine lv_if_ge (tgt := 83) hx hb dX13_rowOf_36 (by decide) (fun _ => ?_) (fun h9 => absurd (show (0 : Int32) ≤ (0 : Int32) by decide +kernel) h9)
  refine lv_aload_n hx hb dX13_rowOf_83 rfl (lv_at hl 0 rfl) ?_
  refine va_get (D := (dC, dI)) (ci := 14) (v := .ref q26) (C := RX12) (T := TX12) (N := 8) hx hb hts (fun _ h => List.mem_cons_of_mem _ (List.mem_append_left _ (List.mem_append_right _ h))) hown hK hP 1 rfl rfl 3 (by decide) (hts (.fieldLink RX13 234 "SeekwellModel$Node" "rows" "[LSeekwellModel$Node;") (by decide +kernel)) (fun _ h9 => h9) rfl dX13_rowOf_84 ?_
  refine va_alen (D := (dC, dI)) (v := 1) hx hb hK hP 2 0 rfl rfl (show Int32.ofNat 1 = 1 by decide +kernel) dX13_rowOf_87 ?_
  refine lv_iconst (v := 1) hx hb dX13_rowOf_88 (by decide +kernel) ?_
  refine lv_icmp_ne (tgt := 101) hx hb dX13_rowOf_89 (by decide) (fun h9 => absurd (show (1 : Int32) = (1 : Int32) by decide +kernel) h9) (fun _ => ?_)
  refine lv_aload_n hx hb dX13_rowOf_92 rfl (lv_at hl 0 rfl) ?_
  refine va_get (D := (dC, dI)) (ci := 14) (v := .ref q26) (C := RX12) (T := TX12) (N := 8) hx hb hts (fun _ h => List.mem_cons_of_mem _ (List.mem_append_left _ (List.mem_append_right _ h))) hown hK hP 1 rfl rfl 3 (by decide) (hts (.fieldLink RX13 234 "SeekwellModel$Node" "rows" "[LSeekwellModel$Node;") (by decide +kernel)) (fun _ h9 => h9) rfl dX13_rowOf_93 ?_
  refine lv_iconst (v := 0) hx hb dX13_rowOf_96 (by decide +kernel) ?_
  refine va_aldq (D := (dC, dI)) hx hb hK hP 2 0 rfl rfl (i := 0) (zin (by decide +kernel)) dX13_rowOf_97 ?_
  refine zt_v (w := .ref q20) rfl ?_
  refine lv_goto (tgt := 102) hx hb dX13_rowOf_98 (by decide) ?_
  have hP9 := hP.sub (ws' := [(q0, .inr (15, [.ref q1, .ref q2, .ref q3, .ref q4, .ref q5, .ref q6, .int 0, .int 1, .ref q7, .int 0, .ref q8, .null, .ref q9, .null, .ref q10, .ref q11, .ref q12, .ref q13, .ref q14, .int 0, .ref q15, .ref q16, .ref q17, .ref q18, .ref q19, .int 0, .int 0]))]) [0] rfl
  have hD9 := hD.sub (ws' := [(q0, .inr (15, [.ref q1, .ref q2, .ref q3, .ref q4, .ref q5, .ref q6, .int 0, .int 1, .ref q7, .int 0, .ref q8, .null, .ref q9, .null, .ref q10, .ref q11, .ref q12, .ref q13, .ref q14, .int 0, .ref q15, .ref q16, .ref q17, .ref q18, .ref q19, .int 0, .int 0]))]) [0] (by decide) rfl
  have hK9 := hK.sub (tys' := []) [] rfl
  exact W.aret (v := .ref q20) hx hb hr (Or.inl ⟨_, rfl⟩) (Or.inr ⟨_, rfl⟩) (fun t ht hW => ⟨⟨(), q20, rfl, trivial, q20, rfl, ⟨by rw [ht]; exact hP9, va_K.moved hW.alike hK9, hD9⟩⟩, hS.F ht⟩) hS.2.2 dX13_rowOf_102
set_option maxHeartbeats 4000000 in
set_option maxRecDepth 100000 in
theorem c_X13_ask (l : Launch) (dC : Nat → ClassId) (dI : Nat → Nat → Nat) (q0 q1 q2 q3 q4 q5 q6 q7 q8 q9 q10 q11 q12 q13 q14 q15 q16 q17 q18 q19 : Nat) (sz : Nat) : Met l yX13_ask wsX13_ask ({ frames := 6, cells := 13, slots := 39, locals := 140 }) (va_Pc [.ref q0] (zB (dC, dI) [] [(q0, .inr (15, [.ref q1, .ref q2, .ref q3, .ref q4, .ref q5, .ref q6, .int 0, .int 1, .ref q7, .int 0, .ref q8, .null, .ref q9, .null, .ref q10, .ref q11, .ref q12, .ref q13, .ref q14, .int 0, .ref q15, .ref q16, .ref q17, .ref q18, .ref q19, .int 0, .int 0]))] sz)) (va_Qi (fun (r : Int32) (_ : Unit) => (-1) = r) (fun _ t => zE (dC, dI) [] [] (va_A [(q0, .inr (15, [.ref q1, .ref q2, .ref q3, .ref q4, .ref q5, .ref q6, .int 0, .int 1, .ref q7, .int 0, .ref q8, .null, .ref q9, .null, .ref q10, .ref q11, .ref q12, .ref q13, .ref q14, .int 0, .ref q15, .ref q16, .ref q17, .ref q18, .ref q19, .int 0, .int 0]))] sz) t) (va_A [(q0, .inr (15, [.ref q1, .ref q2, .ref q3, .ref q4, .ref q5, .ref q6, .int 0, .int 1, .ref q7, .int 0, .ref q8, .null, .ref q9, .null, .ref q10, .ref q11, .ref q12, .ref q13, .ref q14, .int 0, .ref q15, .ref q16, .ref q17, .ref q18, .ref q19, .int 0, .int 0]))] sz)) 13 39 (va_A [(q0, .inr (15, [.ref q1, .ref q2, .ref q3, .ref q4, .ref q5, .ref q6, .int 0, .int 1, .ref q7, .int 0, .ref q8, .null, .ref q9, .null, .ref q10, .ref q11, .ref q12, .ref q13, .ref q14, .int 0, .ref q15, .ref q16, .ref q17, .ref q18, .ref q19, .int 0, .int 0]))] sz) := by
  refine Met.ofW (cc := cX13_ask) (maxL := 2) (ret := (some .int)) (by decide) rfl ?_
  intro p e s m args below meth c s₁ B hml hv
  obtain ⟨rfl, hsz, hP, hK, hD0, hZ, hN⟩ := hv
  have hx := B.exec
  have hb := B.bytes
  have hr := B.returns
  have hts := atoms_spec (ws := wsX13_ask) B.pre
  have hown : s.vm.findClass RX13 = some m.cls := findClass_of_methodNamed B.named
  have hlocks := B.notSynchronized
  subst hsz
  have hD := hD0.self (sz := s.heap.size)
  generalize hAe : va_A [(q0, .inr (15, [.ref q1, .ref q2, .ref q3, .ref q4, .ref q5, .ref q6, .int 0, .int 1, .ref q7, .int 0, .ref q8, .null, .ref q9, .null, .ref q10, .ref q11, .ref q12, .ref q13, .ref q14, .int 0, .ref q15, .ref q16, .ref q17, .ref q18, .ref q19, .int 0, .int 0]))] s.heap.size = A at hD hZ ⊢
  have hA : ∀ q : Nat, s.heap.size ≤ q → A q := fun q h => by rw [← hAe]; exact Or.inr h
  have hS : va_S A s.heap s.heap [] := va_S.rf
  have hP : va_P (dC, dI) vwCl [(q0, .inr (15, [.ref q1, .ref q2, .ref q3, .ref q4, .ref q5, .ref q6, .int 0, .int 1, .ref q7, .int 0, .ref q8, .null, .ref q9, .null, .ref q10, .ref q11, .ref q12, .ref q13, .ref q14, .int 0, .ref q15, .ref q16, .ref q17, .ref q18, .ref q19, .int 0, .int 0]))] s.heap := hP
  have hl := lv_entry ([.ref q0]) (n := 2) (Nat.le_of_ble_eq_true rfl)
  rw [lg_entry_eq]
  generalize (lg_sl ([.ref q0]) ++ List.replicate (2 - (lg_sl ([.ref q0])).length) Slot.unset).toArray = ls at hl ⊢
  have hl : lv_has ls 2 [(0, .ref q0)] := hl
  refine lv_aload_n hx hb dX13_ask_0 rfl (lv_at hl 0 rfl) ?_
  refine lv_iconst (v := 0) hx hb dX13_ask_1 (by decide +kernel) ?_
  refine va_put (D := (dC, dI)) (ci := 15) (v := .int 0) (ty := .int) (C := RX13) (T := TX13) (N := 27) hx hb hts (fun _ h => List.mem_cons_of_mem _ (List.mem_append_left _ (List.mem_append_left _ (List.mem_append_right _ h)))) tyX13 tyX13_ok nmX13 hown hK hP hD hS 0 rfl rfl 19 (by decide) (hts (.fieldLink RX13 82 "SeekwellModel" "thrown" "I") (by decide +kernel)) (fun _ h9 => h9) rfl (by decide +kernel) rfl rfl (Nat.le_of_ble_eq_true rfl) dX13_ask_2 (fun H locs hP hD hS => ?_)
  have hP : va_P (dC, dI) vwCl [(q0, .inr (15, [.ref q1, .ref q2, .ref q3, .ref q4, .ref q5, .ref q6, .int 0, .int 1, .ref q7, .int 0, .ref q8, .null, .ref q9, .null, .ref q10, .ref q11, .ref q12, .ref q13, .ref q14, .int 0, .ref q15, .ref q16, .ref q17, .ref q18, .ref q19, .int 0, .int 0]))] H := hP
  have hD : va_D A [(q0, .inr (15, [.ref q1, .ref q2, .ref q3, .ref q4, .ref q5, .ref q6, .int 0, .int 1, .ref q7, .int 0, .ref q8, .null, .ref q9, .null, .ref q10, .ref q11, .ref q12, .ref q13, .ref q14, .int 0, .ref q15, .ref q16, .ref q17, .ref q18, .ref q19, .int 0, .int 0]))] := hD
  refine lv_aload_n hx hb dX13_ask_5 rfl (lv_at hl 0 rfl) ?_
  refine lv_iconst (v := 0) hx hb dX13_ask_6 (by decide +kernel) ?_
  refine va_put (D := (dC, dI)) (ci := 15) (v := .int 0) (ty := .int) (C := RX13) (T := TX13) (N := 27) hx hb hts (fun _ h => List.mem_cons_of_mem _ (List.mem_append_left _ (List.mem_append_left _ (List.mem_append_right _ h)))) tyX13 tyX13_ok nmX13 hown hK hP hD hS 0 rfl rfl 25 (by decide) (hts (.fieldLink RX13 210 "SeekwellModel" "at" "I") (by decide +kernel)) (fun _ h9 => h9) rfl (by decide +kernel) rfl rfl (Nat.le_of_ble_eq_true rfl) dX13_ask_7 (fun H locs hP hD hS => ?_)
  have hP : va_P (dC, dI) vwCl [(q0, .inr (15, [.ref q1, .ref q2, .ref q3, .ref q4, .ref q5, .ref q6, .int 0, .int 1, .ref q7, .int 0, .ref q8, .null, .ref q9, .null, .ref q10, .ref q11, .ref q12, .ref q13, .ref q14, .int 0, .ref q15, .ref q16, .ref q17, .ref q18, .ref q19, .int 0, .int 0]))] H := hP
  have hD : va_D A [(q0, .inr (15, [.ref q1, .ref q2, .ref q3, .ref q4, .ref q5, .ref q6, .int 0, .int 1, .ref q7, .int 0, .ref q8, .null, .ref q9, .null, .ref q10, .ref q11, .ref q12, .ref q13, .ref q14, .int 0, .ref q15, .ref q16, .ref q17, .ref q18, .ref q19, .int 0, .int 0]))] := hD
  refine lv_aload_n hx hb dX13_ask_10 rfl (lv_at hl 0 rfl) ?_
  refine lv_iconst (v := (-1)) hx hb dX13_ask_11 (by decide +kernel) ?_
  refine va_put (D := (dC, dI)) (ci := 15) (v := .int (-1)) (ty := .int) (C := RX13) (T := TX13) (N := 27) hx hb hts (fun _ h => List.mem_cons_of_mem _ (List.mem_append_left _ (List.mem_append_left _ (List.mem_append_right _ h)))) tyX13 tyX13_ok nmX13 hown hK hP hD hS 0 rfl rfl 26 (by decide) (hts (.fieldLink RX13 216 "SeekwellModel" "fault" "I") (by decide +kernel)) (fun _ h9 => h9) rfl (by decide +kernel) rfl rfl (Nat.le_of_ble_eq_true rfl) dX13_ask_12 (fun H locs hP hD hS => ?_)
  have hP : va_P (dC, dI) vwCl [(q0, .inr (15, [.ref q1, .ref q2, .ref q3, .ref q4, .ref q5, .ref q6, .int 0, .int 1, .ref q7, .int 0, .ref q8, .null, .ref q9, .null, .ref q10, .ref q11, .ref q12, .ref q13, .ref q14, .int 0, .ref q15, .ref q16, .ref q17, .ref q18, .ref q19, .int 0, .int (-1)]))] H := hP
  have hD : va_D A [(q0, .inr (15, [.ref q1, .ref q2, .ref q3, .ref q4, .ref q5, .ref q6, .int 0, .int 1, .ref q7, .int 0, .ref q8, .null, .ref q9, .null, .ref q10, .ref q11, .ref q12, .ref q13, .ref q14, .int 0, .ref q15, .ref q16, .ref q17, .ref q18, .ref q19, .int 0, .int (-1)]))] := hD
  refine lv_aload_n hx hb dX13_ask_15 rfl (lv_at hl 0 rfl) ?_
  refine lv_bipush (v := 124) hx hb dX13_ask_16 (by decide +kernel) ?_
  have hPc := hP.sub (ws' := [(q0, .inr (15, [.ref q1, .ref q2, .ref q3, .ref q4, .ref q5, .ref q6, .int 0, .int 1, .ref q7, .int 0, .ref q8, .null, .ref q9, .null, .ref q10, .ref q11, .ref q12, .ref q13, .ref q14, .int 0, .ref q15, .ref q16, .ref q17, .ref q18, .ref q19, .int 0, .int (-1)]))]) [0] rfl
  have hDc := hD.sub (ws' := [(q0, .inr (15, [.ref q1, .ref q2, .ref q3, .ref q4, .ref q5, .ref q6, .int 0, .int 1, .ref q7, .int 0, .ref q8, .null, .ref q9, .null, .ref q10, .ref q11, .ref q12, .ref q13, .ref q14, .int 0, .ref q15, .ref q16, .ref q17, .ref q18, .ref q19, .int 0, .int (-1)]))]) [0] (by decide) rfl
  have hKc := hK.sub (tys' := []) [] rfl
  have hFc := va_free (wc := [(q0, .inr (15, [.ref q1, .ref q2, .ref q3, .ref q4, .ref q5, .ref q6, .int 0, .int 1, .ref q7, .int 0, .ref q8, .null, .ref q9, .null, .ref q10, .ref q11, .ref q12, .ref q13, .ref q14, .int 0, .ref q15, .ref q16, .ref q17, .ref q18, .ref q19, .int 0, .int (-1)]))]) hD hS hA [0] rfl
  refine va_callr (va_runV (As := [.int 124]) (rest := []) ⟨hx, hb, hml, hown, hts⟩ (c_X13_rowOf_2 l dC dI q0 q1 q2 q3 q4 q5 q6 q7 q8 q9 q10 q11 q12 q13 q14 q15 q16 q17 q18 q19 H.size  ) (cwV 1 hts gX13_ask_X13_rowOf rfl rfl rfl (by decide +kernel) ⟨Nat.le_of_ble_eq_true rfl, Nat.le_of_ble_eq_true rfl⟩) ⟨zB_blind, va_recv hK hP (ci := 15) (q0 := 0) rfl rfl, (zPre hPc hDc hKc hS hFc hZ hN)⟩ rfl rfl hl.1 rfl (lv_room (Nat.le_of_ble_eq_true rfl)) dX13_ask_18 ⟨Nat.le_of_ble_eq_true rfl, Nat.le_of_ble_eq_true rfl⟩) hS (fun q _ h => hFc q h) hFc (fun u ra t H1 locs ht hvm hw hB hz1 hk1 hS => ?_)
  obtain ⟨q20, hra, hP1, hK1, hD1⟩ := hB
  subst hra
  rw [ht] at hP1
  have hK1 := va_K.moved hvm.symm hK1
  obtain ⟨hP, hD⟩ := va_join (wr := []) (w1 := [(q0, .inr (15, [.ref q1, .ref q2, .ref q3, .ref q4, .ref q5, .ref q6, .int 0, .int 1, .ref q7, .int 0, .ref q8, .null, .ref q9, .null, .ref q10, .ref q11, .ref q12, .ref q13, .ref q14, .int 0, .ref q15, .ref q16, .ref q17, .ref q18, .ref q19, .int 0, .int 0]))]) hP hD [0] [] rfl rfl (by decide) (by decide) hk1 hFc hP1 hD1
  have hK := (hK.sub (tys' := []) [] rfl).app hK1
  generalize H1 = H at hP hS ⊢
  have hP : va_P (dC, dI) vwCl [(q0, .inr (15, [.ref q1, .ref q2, .ref q3, .ref q4, .ref q5, .ref q6, .int 0, .int 1, .ref q7, .int 0, .ref q8, .null, .ref q9, .null, .ref q10, .ref q11, .ref q12, .ref q13, .ref q14, .int 0, .ref q15, .ref q16, .ref q17, .ref q18, .ref q19, .int 0, .int 0]))] H := hP
  have hD : va_D A [(q0, .inr (15, [.ref q1, .ref q2, .ref q3, .ref q4, .ref q5, .ref q6, .int 0, .int 1, .ref q7, .int 0, .ref q8, .null, .ref q9, .null, .ref q10, .ref q11, .ref q12, .ref q13, .ref q14, .int 0, .ref q15, .ref q16, .ref q17, .ref q18, .ref q19, .int 0, .int 0]))] := hD
  have hK : va_K (dC, dI) vwCl [] s := hK
  refine W.widen (k := 13) (n := 39) (Nat.le_of_ble_eq_true rfl) (Nat.le_of_ble_eq_true rfl) ?_
  refine lv_astore_n (lv' := [(1, .ref q20), (0, .ref q0)]) hx hb dX13_ask_21 rfl hl (by decide) rfl (fun ls hl => ?_)
  refine lv_aload_n hx hb dX13_ask_22 rfl (lv_at hl 1 rfl) ?_
  refine va_get (D := (dC, dI)) (ci := 15) (v := .int 0) (C := RX13) (T := TX13) (N := 27) hx hb hts (fun _ h => List.mem_cons_of_mem _ (List.mem_append_left _ (List.mem_append_left _ (List.mem_append_right _ h)))) hown hK hP 0 rfl rfl 26 (by decide) (hts (.fieldLink RX13 216 "SeekwellModel" "fault" "I") (by decide +kernel)) (fun _ h9 => h9) rfl dX13_ask_23 ?_
  refine lv_if_ge (tgt := 48) hx hb dX13_ask_26 (by decide) (fun _ => ?_) (fun h9 => absurd (show (0 : Int32) ≤ (0 : Int32) by decide +kernel) h9)
  refine lv_aload_n hx hb dX13_ask_48 rfl (lv_at hl 1 rfl) ?_
  refine lv_iconst (v := 0) hx hb dX13_ask_49 (by decide +kernel) ?_
  refine va_put (D := (dC, dI)) (ci := 15) (v := .int 0) (ty := .int) (C := RX13) (T := TX13) (N := 27) hx hb hts (fun _ h => List.mem_cons_of_mem _ (List.mem_append_left _ (List.mem_append_left _ (List.mem_append_right _ h)))) tyX13 tyX13_ok nmX13 hown hK hP hD hS 0 rfl rfl 9 (by decide) (hts (.fieldLink RX13 132 "SeekwellModel" "typed" "I") (by decide +kernel)) (fun _ h9 => h9) rfl (by decide +kernel) rfl rfl (Nat.le_of_ble_eq_true rfl) dX13_ask_50 (fun H locs hP hD hS => ?_)
  have hP : va_P (dC, dI) vwCl [(q0, .inr (15, [.ref q1, .ref q2, .ref q3, .ref q4, .ref q5, .ref q6, .int 0, .int 1, .ref q7, .int 0, .ref q8, .null, .ref q9, .null, .ref q10, .ref q11, .ref q12, .ref q13, .ref q14, .int 0, .ref q15, .ref q16, .ref q17, .ref q18, .ref q19, .int 0, .int 0]))] H := hP
  have hD : va_D A [(q0, .inr (15, [.ref q1, .ref q2, .ref q3, .ref q4, .ref q5, .ref q6, .int 0, .int 1, .ref q7, .int 0, .ref q8, .null, .ref q9, .null, .ref q10, .ref q11, .ref q12, .ref q13, .ref q14, .int 0, .ref q15, .ref q16, .ref q17, .ref q18, .ref q19, .int 0, .int 0]))] := hD
  refine lv_aload_n hx hb dX13_ask_53 rfl (lv_at hl 1 rfl) ?_
  refine va_get (D := (dC, dI)) (ci := 15) (v := .int 0) (C := RX13) (T := TX13) (N := 27) hx hb hts (fun _ h => List.mem_cons_of_mem _ (List.mem_append_left _ (List.mem_append_left _ (List.mem_append_right _ h)))) hown hK hP 0 rfl rfl 26 (by decide) (hts (.fieldLink RX13 216 "SeekwellModel" "fault" "I") (by decide +kernel)) (fun _ h9 => h9) rfl dX13_ask_54 ?_
  refine lv_if_lt (tgt := 67) hx hb dX13_ask_57 (by decide) (fun h9 => absurd h9 (show ¬ (0 : Int32) < (0 : Int32) by decide +kernel)) (fun _ => ?_)
  refine lv_iconst (v := (-1)) hx hb dX13_ask_60 (by decide +kernel) ?_
  refine lv_aload_n hx hb dX13_ask_61 rfl (lv_at hl 1 rfl) ?_
  refine va_get (D := (dC, dI)) (ci := 15) (v := .int 0) (C := RX13) (T := TX13) (N := 27) hx hb hts (fun _ h => List.mem_cons_of_mem _ (List.mem_append_left _ (List.mem_append_left _ (List.mem_append_right _ h)))) hown hK hP 0 rfl rfl 26 (by decide) (hts (.fieldLink RX13 216 "SeekwellModel" "fault" "I") (by decide +kernel)) (fun _ h9 => h9) rfl dX13_ask_62 ?_
  refine lv_isub hx hb dX13_ask_65 ?_
  refine zt_i (v := (-1)) (by decide +kernel) ?_
  have hP9 := hP.sub (ws' := []) [] rfl
  have hD9 := hD.sub (ws' := []) [] (by decide) rfl
  have hK9 := hK.sub (tys' := []) [] rfl
  exact W.iret (v := (-1)) hx hb hr (fun t ht hW => ⟨⟨(-1), (), rfl, rfl, ⟨by rw [ht]; exact hP9, va_K.moved hW.alike hK9, hD9⟩⟩, hS.F ht⟩) hS.2.2 dX13_ask_66
