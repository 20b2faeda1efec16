/-! contracts, written by program -/
set_option maxHeartbeats 4000000 in
set_option maxRecDepth 100000 in
theorem c_X4_init (l : Launch) (dC : Nat → ClassId) (dI : Nat → Nat → Nat) (q0 : Nat) (sz : Nat) : Met l yX4_init wsX4_init ({ frames := 1, cells := 1, slots := 512, locals := 20 }) (va_Pc [.ref q0] (zB (dC, dI) [] [(q0, .inr (7, [.null, .int 0]))] sz)) (va_Qv (fun (_ : Unit) => True) (fun _ t => ∃ q1 : Nat, ∃ k0 : ClassId, zE (dC, dI) [(k0, .char)] [(q0, .inr (7, [.ref q1, .int 0])), (q1, .inl (k0, 512, .inl (fun _ => 0)))] (va_A [(q0, .inr (7, [.null, .int 0]))] sz) t) (va_A [(q0, .inr (7, [.null, .int 0]))] sz)) 1 512 (va_A [(q0, .inr (7, [.null, .int 0]))] sz) := by
  refine Met.ofW (cc := cX4_init) (maxL := 1) (ret := none) (by decide) rfl ?_
  intro p e s m args below meth c s₁ B hml hv
  obtain ⟨rfl, hsz, hP, hK, hD0, hZ, hN⟩ := hv
  have hx := B.exec
  have hb := B.bytes
  have hr := B.returns
  have hts := atoms_spec (ws := wsX4_init) B.pre
  have hown : s.vm.findClass RX4 = some m.cls := findClass_of_methodNamed B.named
  have hlocks := B.notSynchronized
  have hin : meth.name = "<init>" := (name_of_methodNamed B.named B.method).1
  subst hsz
  have hD := hD0.self (sz := s.heap.size)
  generalize hAe : va_A [(q0, .inr (7, [.null, .int 0]))] s.heap.size = A at hD hZ ⊢
  have hA : ∀ q : Nat, s.heap.size ≤ q → A q := fun q h => by rw [← hAe]; exact Or.inr h
  have hS : va_S A s.heap s.heap [] := va_S.rf
  have hP : va_P (dC, dI) vwCl [(q0, .inr (7, [.null, .int 0]))] s.heap := hP
  have hl := lv_entry ([.ref q0]) (n := 1) (Nat.le_of_ble_eq_true rfl)
  rw [lg_entry_eq]
  generalize (lg_sl ([.ref q0]) ++ List.replicate (1 - (lg_sl ([.ref q0])).length) Slot.unset).toArray = ls at hl ⊢
  have hl : lv_has ls 1 [(0, .ref q0)] := hl
  refine lv_aload_n hx hb dX4_init_0 rfl (lv_at hl 0 rfl) ?_
  refine z_objInit hx hb hown (hts (.methodLink RX4 3 objectInit) (by decide +kernel)) (hts (.instanceMethod objectInit) (by decide +kernel)) (hts (.code objectInit ⟨#[0xb1]⟩ 1 none) (by decide +kernel)) (hl.1.trans hml.symm) dX4_init_1 (Nat.le_of_ble_eq_true rfl) (Nat.le_of_ble_eq_true rfl) ?_
  refine lv_aload_n hx hb dX4_init_4 rfl (lv_at hl 0 rfl) ?_
  refine lv_sipush (v := 512) hx hb dX4_init_5 (by decide +kernel) ?_
  refine va_newa (D := (dC, dI)) (atype := .char) (ty := .char) (a0 := (512, .inl (fun _ => 0))) (N' := 512) hx hb (hts (.arrayClass .char) (by decide +kernel)) rfl hK hP hD hS hA (fun _ => rfl) (by decide +kernel) (by decide +kernel) (Nat.le_of_ble_eq_true rfl) (Nat.le_of_ble_eq_true rfl) (Nat.le_of_ble_eq_true rfl) dX4_init_8 (fun q1 k0 H hK hP hD hS => ?_)
  have hP : va_P (dC, dI) vwCl [(q0, .inr (7, [.null, .int 0])), (q1, .inl (k0, 512, .inl (fun _ => 0)))] H := hP
  have hD : va_D A [(q0, .inr (7, [.null, .int 0])), (q1, .inl (k0, 512, .inl (fun _ => 0)))] := hD
  have hK : va_K (dC, dI) vwCl [(k0, .char)] s := hK
  refine W.widen (k := 1) (n := 512) (Nat.le_of_ble_eq_true rfl) (Nat.le_of_ble_eq_true rfl) ?_
  refine va_putF (D := (dC, dI)) (ci := 7) (v := .ref q1) (ty := (.array .char)) (C := RX4) (T := TX4) (N := 2) hx hb hts (fun _ h => List.mem_cons_of_mem _ (List.mem_append_right _ h)) tyX4 tyX4_ok nmX4 hown hK hP hD hS 0 rfl rfl 0 (by decide) (hts (.fieldLink RX4 9 "Seekwell$Line" "signs" "[C") (by decide +kernel)) (fun _ h9 => h9) rfl hin rfl (by decide +kernel) rfl rfl (Nat.le_of_ble_eq_true rfl) dX4_init_10 (fun H locs hP hD hS => ?_)
  have hP : va_P (dC, dI) vwCl [(q0, .inr (7, [.ref q1, .int 0])), (q1, .inl (k0, 512, .inl (fun _ => 0)))] H := hP
  have hD : va_D A [(q0, .inr (7, [.ref q1, .int 0])), (q1, .inl (k0, 512, .inl (fun _ => 0)))] := hD
  refine lv_aload_n hx hb dX4_init_13 rfl (lv_at hl 0 rfl) ?_
  refine lv_iconst (v := 0) hx hb dX4_init_14 (by decide +kernel) ?_
  refine va_put (D := (dC, dI)) (ci := 7) (v := .int 0) (ty := .int) (C := RX4) (T := TX4) (N := 2) hx hb hts (fun _ h => List.mem_cons_of_mem _ (List.mem_append_right _ h)) tyX4 tyX4_ok nmX4 hown hK hP hD hS 0 rfl rfl 1 (by decide) (hts (.fieldLink RX4 15 "Seekwell$Line" "size" "I") (by decide +kernel)) (fun _ h9 => h9) rfl (by decide +kernel) rfl rfl (Nat.le_of_ble_eq_true rfl) dX4_init_15 (fun H locs hP hD hS => ?_)
  have hP : va_P (dC, dI) vwCl [(q0, .inr (7, [.ref q1, .int 0])), (q1, .inl (k0, 512, .inl (fun _ => 0)))] H := hP
  have hD : va_D A [(q0, .inr (7, [.ref q1, .int 0])), (q1, .inl (k0, 512, .inl (fun _ => 0)))] := hD
  have hP9 := hP.sub (ws' := [(q0, .inr (7, [.ref q1, .int 0])), (q1, .inl (k0, 512, .inl (fun _ => 0)))]) [0, 1] rfl
  have hD9 := hD.sub (ws' := [(q0, .inr (7, [.ref q1, .int 0])), (q1, .inl (k0, 512, .inl (fun _ => 0)))]) [0, 1] (by decide) rfl
  have hK9 := hK.sub (tys' := [(k0, .char)]) [0] rfl
  exact W.vret hx hb hr (fun t ht hW => ⟨⟨(), rfl, trivial, q1, k0, ⟨by rw [ht]; exact hP9, va_K.moved hW.alike hK9, hD9⟩⟩, hS.F ht⟩) hS.2.2 dX4_init_18
set_option maxHeartbeats 4000000 in
set_option maxRecDepth 100000 in
theorem c_X8_init (l : Launch) (dC : Nat → ClassId) (dI : Nat → Nat → Nat) (q0 : Nat) (sz : Nat) : Met l yX8_init wsX8_init ({ frames := 1, cells := 1, slots := 24, locals := 20 }) (va_Pc [.ref q0] (zB (dC, dI) [] [(q0, .inr (11, [.null, .int 0, .int 0]))] sz)) (va_Qv (fun (_ : Unit) => True) (fun _ t => ∃ q1 : Nat, ∃ k0 : ClassId, zE (dC, dI) [(k0, (.object "Seekwell$Text"))] [(q0, .inr (11, [.ref q1, .int 0, .int 1])), (q1, .inl (k0, 24, .inr (.inr (.inr (.inr (fun _ => none))))))] (va_A [(q0, .inr (11, [.null, .int 0, .int 0]))] sz) t) (va_A [(q0, .inr (11, [.null, .int 0, .int 0]))] sz)) 1 24 (va_A [(q0, .inr (11, [.null, .int 0, .int 0]))] sz) := by
  refine Met.ofW (cc := cX8_init) (maxL := 1) (ret := none) (by decide) rfl ?_
  intro p e s m args below meth c s₁ B hml hv
  obtain ⟨rfl, hsz, hP, hK, hD0, hZ, hN⟩ := hv
  have hx := B.exec
  have hb := B.bytes
  have hr := B.returns
  have hts := atoms_spec (ws := wsX8_init) B.pre
  have hown : s.vm.findClass RX8 = some m.cls := findClass_of_methodNamed B.named
  have hlocks := B.notSynchronized
  have hin : meth.name = "<init>" := (name_of_methodNamed B.named B.method).1
  subst hsz
  have hD := hD0.self (sz := s.heap.size)
  generalize hAe : va_A [(q0, .inr (11, [.null, .int 0, .int 0]))] s.heap.size = A at hD hZ ⊢
  have hA : ∀ q : Nat, s.heap.size ≤ q → A q := fun q h => by rw [← hAe]; exact Or.inr h
  have hS : va_S A s.heap s.heap [] := va_S.rf
  have hP : va_P (dC, dI) vwCl [(q0, .inr (11, [.null, .int 0, .int 0]))] s.heap := hP
  have hl := lv_entry ([.ref q0]) (n := 1) (Nat.le_of_ble_eq_true rfl)
  rw [lg_entry_eq]
  generalize (lg_sl ([.ref q0]) ++ List.replicate (1 - (lg_sl ([.ref q0])).length) Slot.unset).toArray = ls at hl ⊢
  have hl : lv_has ls 1 [(0, .ref q0)] := hl
  refine lv_aload_n hx hb dX8_init_0 rfl (lv_at hl 0 rfl) ?_
  refine z_objInit hx hb hown (hts (.methodLink RX8 3 objectInit) (by decide +kernel)) (hts (.instanceMethod objectInit) (by decide +kernel)) (hts (.code objectInit ⟨#[0xb1]⟩ 1 none) (by decide +kernel)) (hl.1.trans hml.symm) dX8_init_1 (Nat.le_of_ble_eq_true rfl) (Nat.le_of_ble_eq_true rfl) ?_
  refine lv_aload_n hx hb dX8_init_4 rfl (lv_at hl 0 rfl) ?_
  refine lv_bipush (v := 24) hx hb dX8_init_5 (by decide +kernel) ?_
  refine va_newq (D := (dC, dI)) (C := "Seekwell$Text") (N' := 24) hx hb hown (hts (.classLink RX8 9 "Seekwell$Text") (by decide +kernel)) (hN.2.2.1 "Seekwell$Text" (by decide +kernel)) hK hP hD hS hA (by decide +kernel) (by decide +kernel) (Nat.le_of_ble_eq_true rfl) (Nat.le_of_ble_eq_true rfl) (Nat.le_of_ble_eq_true rfl) dX8_init_7 (fun q1 k0 H hK hP hD hS => ?_)
  have hP : va_P (dC, dI) vwCl [(q0, .inr (11, [.null, .int 0, .int 0])), (q1, .inl (k0, 24, .inr (.inr (.inr (.inr (fun _ => none))))))] H := hP
  have hD : va_D A [(q0, .inr (11, [.null, .int 0, .int 0])), (q1, .inl (k0, 24, .inr (.inr (.inr (.inr (fun _ => none))))))] := hD
  have hK : va_K (dC, dI) vwCl [(k0, (.object "Seekwell$Text"))] s := hK
  refine W.widen (k := 1) (n := 24) (Nat.le_of_ble_eq_true rfl) (Nat.le_of_ble_eq_true rfl) ?_
  refine va_putF (D := (dC, dI)) (ci := 11) (v := .ref q1) (ty := (.array (.object "Seekwell$Text"))) (C := RX8) (T := TX8) (N := 3) hx hb hts (fun _ h => List.mem_cons_of_mem _ (List.mem_append_right _ h)) tyX8 tyX8_ok nmX8 hown hK hP hD hS 0 rfl rfl 0 (by decide) (hts (.fieldLink RX8 11 "Seekwell$Shelf" "all" "[LSeekwell$Text;") (by decide +kernel)) (fun _ h9 => h9) rfl hin rfl (by decide +kernel) rfl rfl (Nat.le_of_ble_eq_true rfl) dX8_init_10 (fun H locs hP hD hS => ?_)
  have hP : va_P (dC, dI) vwCl [(q0, .inr (11, [.ref q1, .int 0, .int 0])), (q1, .inl (k0, 24, .inr (.inr (.inr (.inr (fun _ => none))))))] H := hP
  have hD : va_D A [(q0, .inr (11, [.ref q1, .int 0, .int 0])), (q1, .inl (k0, 24, .inr (.inr (.inr (.inr (fun _ => none))))))] := hD
  refine lv_aload_n hx hb dX8_init_13 rfl (lv_at hl 0 rfl) ?_
  refine lv_iconst (v := 0) hx hb dX8_init_14 (by decide +kernel) ?_
  refine va_put (D := (dC, dI)) (ci := 11) (v := .int 0) (ty := .int) (C := RX8) (T := TX8) (N := 3) hx hb hts (fun _ h => List.mem_cons_of_mem _ (List.mem_append_right _ h)) tyX8 tyX8_ok nmX8 hown hK hP hD hS 0 rfl rfl 1 (by decide) (hts (.fieldLink RX8 17 "Seekwell$Shelf" "came" "I") (by decide +kernel)) (fun _ h9 => h9) rfl (by decide +kernel) rfl rfl (Nat.le_of_ble_eq_true rfl) dX8_init_15 (fun H locs hP hD hS => ?_)
  have hP : va_P (dC, dI) vwCl [(q0, .inr (11, [.ref q1, .int 0, .int 0])), (q1, .inl (k0, 24, .inr (.inr (.inr (.inr (fun _ => none))))))] H := hP
  have hD : va_D A [(q0, .inr (11, [.ref q1, .int 0, .int 0])), (q1, .inl (k0, 24, .inr (.inr (.inr (.inr (fun _ => none))))))] := hD
  refine lv_aload_n hx hb dX8_init_18 rfl (lv_at hl 0 rfl) ?_
  refine lv_iconst (v := 1) hx hb dX8_init_19 (by decide +kernel) ?_
  refine va_put (D := (dC, dI)) (ci := 11) (v := .int 1) (ty := .int) (C := RX8) (T := TX8) (N := 3) hx hb hts (fun _ h => List.mem_cons_of_mem _ (List.mem_append_right _ h)) tyX8 tyX8_ok nmX8 hown hK hP hD hS 0 rfl rfl 2 (by decide) (hts (.fieldLink RX8 21 "Seekwell$Shelf" "partCount" "I") (by decide +kernel)) (fun _ h9 => h9) rfl (by decide +kernel) rfl rfl (Nat.le_of_ble_eq_true rfl) dX8_init_20 (fun H locs hP hD hS => ?_)
  have hP : va_P (dC, dI) vwCl [(q0, .inr (11, [.ref q1, .int 0, .int 1])), (q1, .inl (k0, 24, .inr (.inr (.inr (.inr (fun _ => none))))))] H := hP
  have hD : va_D A [(q0, .inr (11, [.ref q1, .int 0, .int 1])), (q1, .inl (k0, 24, .inr (.inr (.inr (.inr (fun _ => none))))))] := hD
  have hP9 := hP.sub (ws' := [(q0, .inr (11, [.ref q1, .int 0, .int 1])), (q1, .inl (k0, 24, .inr (.inr (.inr (.inr (fun _ => none))))))]) [0, 1] rfl
  have hD9 := hD.sub (ws' := [(q0, .inr (11, [.ref q1, .int 0, .int 1])), (q1, .inl (k0, 24, .inr (.inr (.inr (.inr (fun _ => none))))))]) [0, 1] (by decide) rfl
  have hK9 := hK.sub (tys' := [(k0, (.object "Seekwell$Text"))]) [0] rfl
  exact W.vret hx hb hr (fun t ht hW => ⟨⟨(), rfl, trivial, q1, k0, ⟨by rw [ht]; exact hP9, va_K.moved hW.alike hK9, hD9⟩⟩, hS.F ht⟩) hS.2.2 dX8_init_23
set_option maxHeartbeats 4000000 in
set_option maxRecDepth 100000 in
theorem c_X8_init_2 (l : Launch) (dC : Nat → ClassId) (dI : Nat → Nat → Nat) (q0 : Nat) (sz : Nat) : Met l yX8_init wsX8_init ({ frames := 1, cells := 1, slots := 24, locals := 20 }) (va_Pc [.ref q0] (zB (dC, dI) [] [(q0, .inr (11, [.null, .int 0, .int 0]))] sz)) (va_Qv (fun (_ : Unit) => True) (fun _ t => ∃ q1 : Nat, zE (dC, dI) [] [(q0, .inr (11, [.ref q1, .int 0, .int 1]))] (va_A [(q0, .inr (11, [.null, .int 0, .int 0]))] sz) t) (va_A [(q0, .inr (11, [.null, .int 0, .int 0]))] sz)) 1 24 (va_A [(q0, .inr (11, [.null, .int 0, .int 0]))] sz) := by
  refine Met.ofW (cc := cX8_init) (maxL := 1) (ret := none) (by decide) rfl ?_
  intro p e s m args below meth c s₁ B hml hv
  obtain ⟨rfl, hsz, hP, hK, hD0, hZ, hN⟩ := hv
  have hx := B.exec
  have hb := B.bytes
  have hr := B.returns
  have hts := atoms_spec (ws := wsX8_init) B.pre
  have hown : s.vm.findClass RX8 = some m.cls := findClass_of_methodNamed B.named
  have hlocks := B.notSynchronized
  have hin : meth.name = "<init>" := (name_of_methodNamed B.named B.method).1
  subst hsz
  have hD := hD0.self (sz := s.heap.size)
  generalize hAe : va_A [(q0, .inr (11, [.null, .int 0, .int 0]))] s.heap.size = A at hD hZ ⊢
  have hA : ∀ q : Nat, s.heap.size ≤ q → A q := fun q h => by rw [← hAe]; exact Or.inr h
  have hS : va_S A s.heap s.heap [] := va_S.rf
  have hP : va_P (dC, dI) vwCl [(q0, .inr (11, [.null, .int 0, .int 0]))] s.heap := hP
  have hl := lv_entry ([.ref q0]) (n := 1) (Nat.le_of_ble_eq_true rfl)
  rw [lg_entry_eq]
  generalize (lg_sl ([.ref q0]) ++ List.replicate (1 - (lg_sl ([.ref q0])).length) Slot.unset).toArray = ls at hl ⊢
  have hl : lv_has ls 1 [(0, .ref q0)] := hl
  refine lv_aload_n hx hb dX8_init_0 rfl (lv_at hl 0 rfl) ?_
  refine z_objInit hx hb hown (hts (.methodLink RX8 3 objectInit) (by decide +kernel)) (hts (.instanceMethod objectInit) (by decide +kernel)) (hts (.code objectInit ⟨#[0xb1]⟩ 1 none) (by decide +kernel)) (hl.1.trans hml.symm) dX8_init_1 (Nat.le_of_ble_eq_true rfl) (Nat.le_of_ble_eq_true rfl) ?_
  refine lv_aload_n hx hb dX8_init_4 rfl (lv_at hl 0 rfl) ?_
  refine lv_bipush (v := 24) hx hb dX8_init_5 (by decide +kernel) ?_
  refine va_newq (D := (dC, dI)) (C := "Seekwell$Text") (N' := 24) hx hb hown (hts (.classLink RX8 9 "Seekwell$Text") (by decide +kernel)) (hN.2.2.1 "Seekwell$Text" (by decide +kernel)) hK hP hD hS hA (by decide +kernel) (by decide +kernel) (Nat.le_of_ble_eq_true rfl) (Nat.le_of_ble_eq_true rfl) (Nat.le_of_ble_eq_true rfl) dX8_init_7 (fun q1 k0 H hK hP hD hS => ?_)
  have hP : va_P (dC, dI) vwCl [(q0, .inr (11, [.null, .int 0, .int 0])), (q1, .inl (k0, 24, .inr (.inr (.inr (.inr (fun _ => none))))))] H := hP
  have hD : va_D A [(q0, .inr (11, [.null, .int 0, .int 0])), (q1, .inl (k0, 24, .inr (.inr (.inr (.inr (fun _ => none))))))] := hD
  have hK : va_K (dC, dI) vwCl [(k0, (.object "Seekwell$Text"))] s := hK
  refine W.widen (k := 1) (n := 24) (Nat.le_of_ble_eq_true rfl) (Nat.le_of_ble_eq_true rfl) ?_
  refine va_putF (D := (dC, dI)) (ci := 11) (v := .ref q1) (ty := (.array (.object "Seekwell$Text"))) (C := RX8) (T := TX8) (N := 3) hx hb hts (fun _ h => List.mem_cons_of_mem _ (List.mem_append_right _ h)) tyX8 tyX8_ok nmX8 hown hK hP hD hS 0 rfl rfl 0 (by decide) (hts (.fieldLink RX8 11 "Seekwell$Shelf" "all" "[LSeekwell$Text;") (by decide +kernel)) (fun _ h9 => h9) rfl hin rfl (by decide +kernel) rfl rfl (Nat.le_of_ble_eq_true rfl) dX8_init_10 (fun H locs hP hD hS => ?_)
  have hP : va_P (dC, dI) vwCl [(q0, .inr (11, [.ref q1, .int 0, .int 0])), (q1, .inl (k0, 24, .inr (.inr (.inr (.inr (fun _ => none))))))] H := hP
  have hD : va_D A [(q0, .inr (11, [.ref q1, .int 0, .int 0])), (q1, .inl (k0, 24, .inr (.inr (.inr (.inr (fun _ => none))))))] := hD
  refine lv_aload_n hx hb dX8_init_13 rfl (lv_at hl 0 rfl) ?_
  refine lv_iconst (v := 0) hx hb dX8_init_14 (by decide +kernel) ?_
  refine va_put (D := (dC, dI)) (ci := 11) (v := .int 0) (ty := .int) (C := RX8) (T := TX8) (N := 3) hx hb hts (fun _ h => List.mem_cons_of_mem _ (List.mem_append_right _ h)) tyX8 tyX8_ok nmX8 hown hK hP hD hS 0 rfl rfl 1 (by decide) (hts (.fieldLink RX8 17 "Seekwell$Shelf" "came" "I") (by decide +kernel)) (fun _ h9 => h9) rfl (by decide +kernel) rfl rfl (Nat.le_of_ble_eq_true rfl) dX8_init_15 (fun H locs hP hD hS => ?_)
  have hP : va_P (dC, dI) vwCl [(q0, .inr (11, [.ref q1, .int 0, .int 0])), (q1, .inl (k0, 24, .inr (.inr (.inr (.inr (fun _ => none))))))] H := hP
  have hD : va_D A [(q0, .inr (11, [.ref q1, .int 0, .int 0])), (q1, .inl (k0, 24, .inr (.inr (.inr (.inr (fun _ => none))))))] := hD
  refine lv_aload_n hx hb dX8_init_18 rfl (lv_at hl 0 rfl) ?_
  refine lv_iconst (v := 1) hx hb dX8_init_19 (by decide +kernel) ?_
  refine va_put (D := (dC, dI)) (ci := 11) (v := .int 1) (ty := .int) (C := RX8) (T := TX8) (N := 3) hx hb hts (fun _ h => List.mem_cons_of_mem _ (List.mem_append_right _ h)) tyX8 tyX8_ok nmX8 hown hK hP hD hS 0 rfl rfl 2 (by decide) (hts (.fieldLink RX8 21 "Seekwell$Shelf" "partCount" "I") (by decide +kernel)) (fun _ h9 => h9) rfl (by decide +kernel) rfl rfl (Nat.le_of_ble_eq_true rfl) dX8_init_20 (fun H locs hP hD hS => ?_)
  have hP : va_P (dC, dI) vwCl [(q0, .inr (11, [.ref q1, .int 0, .int 1])), (q1, .inl (k0, 24, .inr (.inr (.inr (.inr (fun _ => none))))))] H := hP
  have hD : va_D A [(q0, .inr (11, [.ref q1, .int 0, .int 1])), (q1, .inl (k0, 24, .inr (.inr (.inr (.inr (fun _ => none))))))] := hD
  have hP9 := hP.sub (ws' := [(q0, .inr (11, [.ref q1, .int 0, .int 1]))]) [0] rfl
  have hD9 := hD.sub (ws' := [(q0, .inr (11, [.ref q1, .int 0, .int 1]))]) [0] (by decide) rfl
  have hK9 := hK.sub (tys' := []) [] rfl
  exact W.vret hx hb hr (fun t ht hW => ⟨⟨(), rfl, trivial, q1, ⟨by rw [ht]; exact hP9, va_K.moved hW.alike hK9, hD9⟩⟩, hS.F ht⟩) hS.2.2 dX8_init_23
set_option maxHeartbeats 4000000 in
set_option maxRecDepth 100000 in
theorem c_X7_init (l : Launch) (dC : Nat → ClassId) (dI : Nat → Nat → Nat) (q0 : Nat) (sz : Nat) : Met l yX7_init wsX7_init ({ frames := 1, cells := 1, slots := 4, locals := 20 }) (va_Pc [.ref q0] (zB (dC, dI) [] [(q0, .inr (10, [.null, .int 0]))] sz)) (va_Qv (fun (_ : Unit) => True) (fun _ t => ∃ q1 : Nat, zE (dC, dI) [] [(q0, .inr (10, [.ref q1, .int 0]))] (va_A [(q0, .inr (10, [.null, .int 0]))] sz) t) (va_A [(q0, .inr (10, [.null, .int 0]))] sz)) 1 4 (va_A [(q0, .inr (10, [.null, .int 0]))] sz) := by
  refine Met.ofW (cc := cX7_init) (maxL := 1) (ret := none) (by decide) rfl ?_
  intro p e s m args below meth c s₁ B hml hv
  obtain ⟨rfl, hsz, hP, hK, hD0, hZ, hN⟩ := hv
  have hx := B.exec
  have hb := B.bytes
  have hr := B.returns
  have hts := atoms_spec (ws := wsX7_init) B.pre
  have hown : s.vm.findClass RX7 = some m.cls := findClass_of_methodNamed B.named
  have hlocks := B.notSynchronized
  have hin : meth.name = "<init>" := (name_of_methodNamed B.named B.method).1
  subst hsz
  have hD := hD0.self (sz := s.heap.size)
  generalize hAe : va_A [(q0, .inr (10, [.null, .int 0]))] s.heap.size = A at hD hZ ⊢
  have hA : ∀ q : Nat, s.heap.size ≤ q → A q := fun q h => by rw [← hAe]; exact Or.inr h
  have hS : va_S A s.heap s.heap [] := va_S.rf
  have hP : va_P (dC, dI) vwCl [(q0, .inr (10, [.null, .int 0]))] s.heap := hP
  have hl := lv_entry ([.ref q0]) (n := 1) (Nat.le_of_ble_eq_true rfl)
  rw [lg_entry_eq]
  generalize (lg_sl ([.ref q0]) ++ List.replicate (1 - (lg_sl ([.ref q0])).length) Slot.unset).toArray = ls at hl ⊢
  have hl : lv_has ls 1 [(0, .ref q0)] := hl
  refine lv_aload_n hx hb dX7_init_0 rfl (lv_at hl 0 rfl) ?_
  refine z_objInit hx hb hown (hts (.methodLink RX7 3 objectInit) (by decide +kernel)) (hts (.instanceMethod objectInit) (by decide +kernel)) (hts (.code objectInit ⟨#[0xb1]⟩ 1 none) (by decide +kernel)) (hl.1.trans hml.symm) dX7_init_1 (Nat.le_of_ble_eq_true rfl) (Nat.le_of_ble_eq_true rfl) ?_
  refine lv_aload_n hx hb dX7_init_4 rfl (lv_at hl 0 rfl) ?_
  refine lv_iconst (v := 4) hx hb dX7_init_5 (by decide +kernel) ?_
  refine va_newa (D := (dC, dI)) (atype := .long) (ty := .long) (a0 := (4, .inr (.inl (fun _ => 0)))) (N' := 4) hx hb (hts (.arrayClass .long) (by decide +kernel)) rfl hK hP hD hS hA (fun _ => rfl) (by decide +kernel) (by decide +kernel) (Nat.le_of_ble_eq_true rfl) (Nat.le_of_ble_eq_true rfl) (Nat.le_of_ble_eq_true rfl) dX7_init_6 (fun q1 k0 H hK hP hD hS => ?_)
  have hP : va_P (dC, dI) vwCl [(q0, .inr (10, [.null, .int 0])), (q1, .inl (k0, 4, .inr (.inl (fun _ => 0))))] H := hP
  have hD : va_D A [(q0, .inr (10, [.null, .int 0])), (q1, .inl (k0, 4, .inr (.inl (fun _ => 0))))] := hD
  have hK : va_K (dC, dI) vwCl [(k0, .long)] s := hK
  refine W.widen (k := 1) (n := 4) (Nat.le_of_ble_eq_true rfl) (Nat.le_of_ble_eq_true rfl) ?_
  refine va_put (D := (dC, dI)) (ci := 10) (v := .ref q1) (ty := (.array .long)) (C := RX7) (T := TX7) (N := 2) hx hb hts (fun _ h => List.mem_cons_of_mem _ (List.mem_append_right _ h)) tyX7 tyX7_ok nmX7 hown hK hP hD hS 0 rfl rfl 0 (by decide) (hts (.fieldLink RX7 9 "Seekwell$Row" "words" "[J") (by decide +kernel)) (fun _ h9 => h9) rfl (by decide +kernel) rfl rfl (Nat.le_of_ble_eq_true rfl) dX7_init_8 (fun H locs hP hD hS => ?_)
  have hP : va_P (dC, dI) vwCl [(q0, .inr (10, [.ref q1, .int 0])), (q1, .inl (k0, 4, .inr (.inl (fun _ => 0))))] H := hP
  have hD : va_D A [(q0, .inr (10, [.ref q1, .int 0])), (q1, .inl (k0, 4, .inr (.inl (fun _ => 0))))] := hD
  refine lv_aload_n hx hb dX7_init_11 rfl (lv_at hl 0 rfl) ?_
  refine lv_iconst (v := 0) hx hb dX7_init_12 (by decide +kernel) ?_
  refine va_put (D := (dC, dI)) (ci := 10) (v := .int 0) (ty := .int) (C := RX7) (T := TX7) (N := 2) hx hb hts (fun _ h => List.mem_cons_of_mem _ (List.mem_append_right _ h)) tyX7 tyX7_ok nmX7 hown hK hP hD hS 0 rfl rfl 1 (by decide) (hts (.fieldLink RX7 15 "Seekwell$Row" "size" "I") (by decide +kernel)) (fun _ h9 => h9) rfl (by decide +kernel) rfl rfl (Nat.le_of_ble_eq_true rfl) dX7_init_13 (fun H locs hP hD hS => ?_)
  have hP : va_P (dC, dI) vwCl [(q0, .inr (10, [.ref q1, .int 0])), (q1, .inl (k0, 4, .inr (.inl (fun _ => 0))))] H := hP
  have hD : va_D A [(q0, .inr (10, [.ref q1, .int 0])), (q1, .inl (k0, 4, .inr (.inl (fun _ => 0))))] := hD
  have hP9 := hP.sub (ws' := [(q0, .inr (10, [.ref q1, .int 0]))]) [0] rfl
  have hD9 := hD.sub (ws' := [(q0, .inr (10, [.ref q1, .int 0]))]) [0] (by decide) rfl
  have hK9 := hK.sub (tys' := []) [] rfl
  exact W.vret hx hb hr (fun t ht hW => ⟨⟨(), rfl, trivial, q1, ⟨by rw [ht]; exact hP9, va_K.moved hW.alike hK9, hD9⟩⟩, hS.F ht⟩) hS.2.2 dX7_init_16
set_option maxHeartbeats 4000000 in
set_option maxRecDepth 100000 in
theorem c_X2_init (l : Launch) (dC : Nat → ClassId) (dI : Nat → Nat → Nat) (q0 : Nat) (sz : Nat) : Met l yX2_init wsX2_init ({ frames := 1, cells := 1, slots := 16, locals := 20 }) (va_Pc [.ref q0] (zB (dC, dI) [] [(q0, .inr (5, [.null, .int 0, .int 0]))] sz)) (va_Qv (fun (_ : Unit) => True) (fun _ t => ∃ q1 : Nat, zE (dC, dI) [] [(q0, .inr (5, [.ref q1, .int 0, .int 0]))] (va_A [(q0, .inr (5, [.null, .int 0, .int 0]))] sz) t) (va_A [(q0, .inr (5, [.null, .int 0, .int 0]))] sz)) 1 16 (va_A [(q0, .inr (5, [.null, .int 0, .int 0]))] sz) := by
  refine Met.ofW (cc := cX2_init) (maxL := 1) (ret := none) (by decide) rfl ?_
  intro p e s m args below meth c s₁ B hml hv
  obtain ⟨rfl, hsz, hP, hK, hD0, hZ, hN⟩ := hv
  have hx := B.exec
  have hb := B.bytes
  have hr := B.returns
  have hts := atoms_spec (ws := wsX2_init) B.pre
  have hown : s.vm.findClass RX2 = some m.cls := findClass_of_methodNamed B.named
  have hlocks := B.notSynchronized
  have hin : meth.name = "<init>" := (name_of_methodNamed B.named B.method).1
  subst hsz
  have hD := hD0.self (sz := s.heap.size)
  generalize hAe : va_A [(q0, .inr (5, [.null, .int 0, .int 0]))] s.heap.size = A at hD hZ ⊢
  have hA : ∀ q : Nat, s.heap.size ≤ q → A q := fun q h => by rw [← hAe]; exact Or.inr h
  have hS : va_S A s.heap s.heap [] := va_S.rf
  have hP : va_P (dC, dI) vwCl [(q0, .inr (5, [.null, .int 0, .int 0]))] s.heap := hP
  have hl := lv_entry ([.ref q0]) (n := 1) (Nat.le_of_ble_eq_true rfl)
  rw [lg_entry_eq]
  generalize (lg_sl ([.ref q0]) ++ List.replicate (1 - (lg_sl ([.ref q0])).length) Slot.unset).toArray = ls at hl ⊢
  have hl : lv_has ls 1 [(0, .ref q0)] := hl
  refine lv_aload_n hx hb dX2_init_0 rfl (lv_at hl 0 rfl) ?_
  refine z_objInit hx hb hown (hts (.methodLink RX2 1 objectInit) (by decide +kernel)) (hts (.instanceMethod objectInit) (by decide +kernel)) (hts (.code objectInit ⟨#[0xb1]⟩ 1 none) (by decide +kernel)) (hl.1.trans hml.symm) dX2_init_1 (Nat.le_of_ble_eq_true rfl) (Nat.le_of_ble_eq_true rfl) ?_
  refine lv_aload_n hx hb dX2_init_4 rfl (lv_at hl 0 rfl) ?_
  refine lv_bipush (v := 16) hx hb dX2_init_5 (by decide +kernel) ?_
  refine va_newa (D := (dC, dI)) (atype := .int) (ty := .int) (a0 := (16, .inl (fun _ => 0))) (N' := 16) hx hb (hts (.arrayClass .int) (by decide +kernel)) rfl hK hP hD hS hA (fun _ => rfl) (by decide +kernel) (by decide +kernel) (Nat.le_of_ble_eq_true rfl) (Nat.le_of_ble_eq_true rfl) (Nat.le_of_ble_eq_true rfl) dX2_init_7 (fun q1 k0 H hK hP hD hS => ?_)
  have hP : va_P (dC, dI) vwCl [(q0, .inr (5, [.null, .int 0, .int 0])), (q1, .inl (k0, 16, .inl (fun _ => 0)))] H := hP
  have hD : va_D A [(q0, .inr (5, [.null, .int 0, .int 0])), (q1, .inl (k0, 16, .inl (fun _ => 0)))] := hD
  have hK : va_K (dC, dI) vwCl [(k0, .int)] s := hK
  refine W.widen (k := 1) (n := 16) (Nat.le_of_ble_eq_true rfl) (Nat.le_of_ble_eq_true rfl) ?_
  refine va_put (D := (dC, dI)) (ci := 5) (v := .ref q1) (ty := (.array .int)) (C := RX2) (T := TX2) (N := 3) hx hb hts (fun _ h => List.mem_cons_of_mem _ (List.mem_append_right _ h)) tyX2 tyX2_ok nmX2 hown hK hP hD hS 0 rfl rfl 0 (by decide) (hts (.fieldLink RX2 7 "Seekwell$Bytes" "bytes" "[I") (by decide +kernel)) (fun _ h9 => h9) rfl (by decide +kernel) rfl rfl (Nat.le_of_ble_eq_true rfl) dX2_init_9 (fun H locs hP hD hS => ?_)
  have hP : va_P (dC, dI) vwCl [(q0, .inr (5, [.ref q1, .int 0, .int 0])), (q1, .inl (k0, 16, .inl (fun _ => 0)))] H := hP
  have hD : va_D A [(q0, .inr (5, [.ref q1, .int 0, .int 0])), (q1, .inl (k0, 16, .inl (fun _ => 0)))] := hD
  refine lv_aload_n hx hb dX2_init_12 rfl (lv_at hl 0 rfl) ?_
  refine lv_iconst (v := 0) hx hb dX2_init_13 (by decide +kernel) ?_
  refine va_put (D := (dC, dI)) (ci := 5) (v := .int 0) (ty := .int) (C := RX2) (T := TX2) (N := 3) hx hb hts (fun _ h => List.mem_cons_of_mem _ (List.mem_append_right _ h)) tyX2 tyX2_ok nmX2 hown hK hP hD hS 0 rfl rfl 1 (by decide) (hts (.fieldLink RX2 13 "Seekwell$Bytes" "size" "I") (by decide +kernel)) (fun _ h9 => h9) rfl (by decide +kernel) rfl rfl (Nat.le_of_ble_eq_true rfl) dX2_init_14 (fun H locs hP hD hS => ?_)
  have hP : va_P (dC, dI) vwCl [(q0, .inr (5, [.ref q1, .int 0, .int 0])), (q1, .inl (k0, 16, .inl (fun _ => 0)))] H := hP
  have hD : va_D A [(q0, .inr (5, [.ref q1, .int 0, .int 0])), (q1, .inl (k0, 16, .inl (fun _ => 0)))] := hD
  refine lv_aload_n hx hb dX2_init_17 rfl (lv_at hl 0 rfl) ?_
  refine lv_iconst (v := 0) hx hb dX2_init_18 (by decide +kernel) ?_
  refine va_put (D := (dC, dI)) (ci := 5) (v := .int 0) (ty := .int) (C := RX2) (T := TX2) (N := 3) hx hb hts (fun _ h => List.mem_cons_of_mem _ (List.mem_append_right _ h)) tyX2 tyX2_ok nmX2 hown hK hP hD hS 0 rfl rfl 2 (by decide) (hts (.fieldLink RX2 17 "Seekwell$Bytes" "cursor" "I") (by decide +kernel)) (fun _ h9 => h9) rfl (by decide +kernel) rfl rfl (Nat.le_of_ble_eq_true rfl) dX2_init_19 (fun H locs hP hD hS => ?_)
  have hP : va_P (dC, dI) vwCl [(q0, .inr (5, [.ref q1, .int 0, .int 0])), (q1, .inl (k0, 16, .inl (fun _ => 0)))] H := hP
  have hD : va_D A [(q0, .inr (5, [.ref q1, .int 0, .int 0])), (q1, .inl (k0, 16, .inl (fun _ => 0)))] := hD
  have hP9 := hP.sub (ws' := [(q0, .inr (5, [.ref q1, .int 0, .int 0]))]) [0] rfl
  have hD9 := hD.sub (ws' := [(q0, .inr (5, [.ref q1, .int 0, .int 0]))]) [0] (by decide) rfl
  have hK9 := hK.sub (tys' := []) [] rfl
  exact W.vret hx hb hr (fun t ht hW => ⟨⟨(), rfl, trivial, q1, ⟨by rw [ht]; exact hP9, va_K.moved hW.alike hK9, hD9⟩⟩, hS.F ht⟩) hS.2.2 dX2_init_22
set_option maxHeartbeats 4000000 in
set_option maxRecDepth 100000 in
theorem c_X2_init_2 (l : Launch) (dC : Nat → ClassId) (dI : Nat → Nat → Nat) (q0 : Nat) (sz : Nat) : Met l yX2_init wsX2_init ({ frames := 1, cells := 1, slots := 16, locals := 20 }) (va_Pc [.ref q0] (zB (dC, dI) [] [(q0, .inr (5, [.null, .int 0, .int 0]))] sz)) (va_Qv (fun (_ : Unit) => True) (fun _ t => zE (dC, dI) [] [] (va_A [(q0, .inr (5, [.null, .int 0, .int 0]))] sz) t) (va_A [(q0, .inr (5, [.null, .int 0, .int 0]))] sz)) 1 16 (va_A [(q0, .inr (5, [.null, .int 0, .int 0]))] sz) := by
  refine Met.ofW (cc := cX2_init) (maxL := 1) (ret := none) (by decide) rfl ?_
  intro p e s m args below meth c s₁ B hml hv
  obtain ⟨rfl, hsz, hP, hK, hD0, hZ, hN⟩ := hv
  have hx := B.exec
  have hb := B.bytes
  have hr := B.returns
  have hts := atoms_spec (ws := wsX2_init) B.pre
  have hown : s.vm.findClass RX2 = some m.cls := findClass_of_methodNamed B.named
  have hlocks := B.notSynchronized
  have hin : meth.name = "<init>" := (name_of_methodNamed B.named B.method).1
  subst hsz
  have hD := hD0.self (sz := s.heap.size)
  generalize hAe : va_A [(q0, .inr (5, [.null, .int 0, .int 0]))] s.heap.size = A at hD hZ ⊢
  have hA : ∀ q : Nat, s.heap.size ≤ q → A q := fun q h => by rw [← hAe]; exact Or.inr h
  have hS : va_S A s.heap s.heap [] := va_S.rf
  have hP : va_P (dC, dI) vwCl [(q0, .inr (5, [.null, .int 0, .int 0]))] s.heap := hP
  have hl := lv_entry ([.ref q0]) (n := 1) (Nat.le_of_ble_eq_true rfl)
  rw [lg_entry_eq]
  generalize (lg_sl ([.ref q0]) ++ List.replicate (1 - (lg_sl ([.ref q0])).length) Slot.unset).toArray = ls at hl ⊢
  have hl : lv_has ls 1 [(0, .ref q0)] := hl
  refine lv_aload_n hx hb dX2_init_0 rfl (lv_at hl 0 rfl) ?_
  refine z_objInit hx hb hown (hts (.methodLink RX2 1 objectInit) (by decide +kernel)) (hts (.instanceMethod objectInit) (by decide +kernel)) (hts (.code objectInit ⟨#[0xb1]⟩ 1 none) (by decide +kernel)) (hl.1.trans hml.symm) dX2_init_1 (Nat.le_of_ble_eq_true rfl) (Nat.le_of_ble_eq_true rfl) ?_
  refine lv_aload_n hx hb dX2_init_4 rfl (lv_at hl 0 rfl) ?_
  refine lv_bipush (v := 16) hx hb dX2_init_5 (by decide +kernel) ?_
  refine va_newa (D := (dC, dI)) (atype := .int) (ty := .int) (a0 := (16, .inl (fun _ => 0))) (N' := 16) hx hb (hts (.arrayClass .int) (by decide +kernel)) rfl hK hP hD hS hA (fun _ => rfl) (by decide +kernel) (by decide +kernel) (Nat.le_of_ble_eq_true rfl) (Nat.le_of_ble_eq_true rfl) (Nat.le_of_ble_eq_true rfl) dX2_init_7 (fun q1 k0 H hK hP hD hS => ?_)
  have hP : va_P (dC, dI) vwCl [(q0, .inr (5, [.null, .int 0, .int 0])), (q1, .inl (k0, 16, .inl (fun _ => 0)))] H := hP
  have hD : va_D A [(q0, .inr (5, [.null, .int 0, .int 0])), (q1, .inl (k0, 16, .inl (fun _ => 0)))] := hD
  have hK : va_K (dC, dI) vwCl [(k0, .int)] s := hK
  refine W.widen (k := 1) (n := 16) (Nat.le_of_ble_eq_true rfl) (Nat.le_of_ble_eq_true rfl) ?_
  refine va_put (D := (dC, dI)) (ci := 5) (v := .ref q1) (ty := (.array .int)) (C := RX2) (T := TX2) (N := 3) hx hb hts (fun _ h => List.mem_cons_of_mem _ (List.mem_append_right _ h)) tyX2 tyX2_ok nmX2 hown hK hP hD hS 0 rfl rfl 0 (by decide) (hts (.fieldLink RX2 7 "Seekwell$Bytes" "bytes" "[I") (by decide +kernel)) (fun _ h9 => h9) rfl (by decide +kernel) rfl rfl (Nat.le_of_ble_eq_true rfl) dX2_init_9 (fun H locs hP hD hS => ?_)
  have hP : va_P (dC, dI) vwCl [(q0, .inr (5, [.ref q1, .int 0, .int 0])), (q1, .inl (k0, 16, .inl (fun _ => 0)))] H := hP
  have hD : va_D A [(q0, .inr (5, [.ref q1, .int 0, .int 0])), (q1, .inl (k0, 16, .inl (fun _ => 0)))] := hD
  refine lv_aload_n hx hb dX2_init_12 rfl (lv_at hl 0 rfl) ?_
  refine lv_iconst (v := 0) hx hb dX2_init_13 (by decide +kernel) ?_
  refine va_put (D := (dC, dI)) (ci := 5) (v := .int 0) (ty := .int) (C := RX2) (T := TX2) (N := 3) hx hb hts (fun _ h => List.mem_cons_of_mem _ (List.mem_append_right _ h)) tyX2 tyX2_ok nmX2 hown hK hP hD hS 0 rfl rfl 1 (by decide) (hts (.fieldLink RX2 13 "Seekwell$Bytes" "size" "I") (by decide +kernel)) (fun _ h9 => h9) rfl (by decide +kernel) rfl rfl (Nat.le_of_ble_eq_true rfl) dX2_init_14 (fun H locs hP hD hS => ?_)
  have hP : va_P (dC, dI) vwCl [(q0, .inr (5, [.ref q1, .int 0, .int 0])), (q1, .inl (k0, 16, .inl (fun _ => 0)))] H := hP
  have hD : va_D A [(q0, .inr (5, [.ref q1, .int 0, .int 0])), (q1, .inl (k0, 16, .inl (fun _ => 0)))] := hD
  refine lv_aload_n hx hb dX2_init_17 rfl (lv_at hl 0 rfl) ?_
  refine lv_iconst (v := 0) hx hb dX2_init_18 (by decide +kernel) ?_
  refine va_put (D := (dC, dI)) (ci := 5) (v := .int 0) (ty := .int) (C := RX2) (T := TX2) (N := 3) hx hb hts (fun _ h => List.mem_cons_of_mem _ (List.mem_append_right _ h)) tyX2 tyX2_ok nmX2 hown hK hP hD hS 0 rfl rfl 2 (by decide) (hts (.fieldLink RX2 17 "Seekwell$Bytes" "cursor" "I") (by decide +kernel)) (fun _ h9 => h9) rfl (by decide +kernel) rfl rfl (Nat.le_of_ble_eq_true rfl) dX2_init_19 (fun H locs hP hD hS => ?_)
  have hP : va_P (dC, dI) vwCl [(q0, .inr (5, [.ref q1, .int 0, .int 0])), (q1, .inl (k0, 16, .inl (fun _ => 0)))] H := hP
  have hD : va_D A [(q0, .inr (5, [.ref q1, .int 0, .int 0])), (q1, .inl (k0, 16, .inl (fun _ => 0)))] := hD
  have hP9 := hP.sub (ws' := []) [] rfl
  have hD9 := hD.sub (ws' := []) [] (by decide) rfl
  have hK9 := hK.sub (tys' := []) [] rfl
  exact W.vret hx hb hr (fun t ht hW => ⟨⟨(), rfl, trivial, ⟨by rw [ht]; exact hP9, va_K.moved hW.alike hK9, hD9⟩⟩, hS.F ht⟩) hS.2.2 dX2_init_22
set_option maxHeartbeats 4000000 in
set_option maxRecDepth 100000 in
theorem c_X7_init_2 (l : Launch) (dC : Nat → ClassId) (dI : Nat → Nat → Nat) (q0 : Nat) (sz : Nat) : Met l yX7_init wsX7_init ({ frames := 1, cells := 1, slots := 4, locals := 20 }) (va_Pc [.ref q0] (zB (dC, dI) [] [(q0, .inr (10, [.null, .int 0]))] sz)) (va_Qv (fun (_ : Unit) => True) (fun _ t => zE (dC, dI) [] [] (va_A [(q0, .inr (10, [.null, .int 0]))] sz) t) (va_A [(q0, .inr (10, [.null, .int 0]))] sz)) 1 4 (va_A [(q0, .inr (10, [.null, .int 0]))] sz) := by
  refine Met.ofW (cc := cX7_init) (maxL := 1) (ret := none) (by decide) rfl ?_
  intro p e s m args below meth c s₁ B hml hv
  obtain ⟨rfl, hsz, hP, hK, hD0, hZ, hN⟩ := hv
  have hx := B.exec
  have hb := B.bytes
  have hr := B.returns
  have hts := atoms_spec (ws := wsX7_init) B.pre
  have hown : s.vm.findClass RX7 = some m.cls := findClass_of_methodNamed B.named
  have hlocks := B.notSynchronized
  have hin : meth.name = "<init>" := (name_of_methodNamed B.named B.method).1
  subst hsz
  have hD := hD0.self (sz := s.heap.size)
  generalize hAe : va_A [(q0, .inr (10, [.null, .int 0]))] s.heap.size = A at hD hZ ⊢
  have hA : ∀ q : Nat, s.heap.size ≤ q → A q := fun q h => by rw [← hAe]; exact Or.inr h
  have hS : va_S A s.heap s.heap [] := va_S.rf
  have hP : va_P (dC, dI) vwCl [(q0, .inr (10, [.null, .int 0]))] s.heap := hP
  have hl := lv_entry ([.ref q0]) (n := 1) (Nat.le_of_ble_eq_true rfl)
  rw [lg_entry_eq]
  generalize (lg_sl ([.ref q0]) ++ List.replicate (1 - (lg_sl ([.ref q0])).length) Slot.unset).toArray = ls at hl ⊢
  have hl : lv_has ls 1 [(0, .ref q0)] := hl
  refine lv_aload_n hx hb dX7_init_0 rfl (lv_at hl 0 rfl) ?_
  refine z_objInit hx hb hown (hts (.methodLink RX7 3 objectInit) (by decide +kernel)) (hts (.instanceMethod objectInit) (by decide +kernel)) (hts (.code objectInit ⟨#[0xb1]⟩ 1 none) (by decide +kernel)) (hl.1.trans hml.symm) dX7_init_1 (Nat.le_of_ble_eq_true rfl) (Nat.le_of_ble_eq_true rfl) ?_
  refine lv_aload_n hx hb dX7_init_4 rfl (lv_at hl 0 rfl) ?_
  refine lv_iconst (v := 4) hx hb dX7_init_5 (by decide +kernel) ?_
  refine va_newa (D := (dC, dI)) (atype := .long) (ty := .long) (a0 := (4, .inr (.inl (fun _ => 0)))) (N' := 4) hx hb (hts (.arrayClass .long) (by decide +kernel)) rfl hK hP hD hS hA (fun _ => rfl) (by decide +kernel) (by decide +kernel) (Nat.le_of_ble_eq_true rfl) (Nat.le_of_ble_eq_true rfl) (Nat.le_of_ble_eq_true rfl) dX7_init_6 (fun q1 k0 H hK hP hD hS => ?_)
  have hP : va_P (dC, dI) vwCl [(q0, .inr (10, [.null, .int 0])), (q1, .inl (k0, 4, .inr (.inl (fun _ => 0))))] H := hP
  have hD : va_D A [(q0, .inr (10, [.null, .int 0])), (q1, .inl (k0, 4, .inr (.inl (fun _ => 0))))] := hD
  have hK : va_K (dC, dI) vwCl [(k0, .long)] s := hK
  refine W.widen (k := 1) (n := 4) (Nat.le_of_ble_eq_true rfl) (Nat.le_of_ble_eq_true rfl) ?_
  refine va_put (D := (dC, dI)) (ci := 10) (v := .ref q1) (ty := (.array .long)) (C := RX7) (T := TX7) (N := 2) hx hb hts (fun _ h => List.mem_cons_of_mem _ (List.mem_append_right _ h)) tyX7 tyX7_ok nmX7 hown hK hP hD hS 0 rfl rfl 0 (by decide) (hts (.fieldLink RX7 9 "Seekwell$Row" "words" "[J") (by decide +kernel)) (fun _ h9 => h9) rfl (by decide +kernel) rfl rfl (Nat.le_of_ble_eq_true rfl) dX7_init_8 (fun H locs hP hD hS => ?_)
  have hP : va_P (dC, dI) vwCl [(q0, .inr (10, [.ref q1, .int 0])), (q1, .inl (k0, 4, .inr (.inl (fun _ => 0))))] H := hP
  have hD : va_D A [(q0, .inr (10, [.ref q1, .int 0])), (q1, .inl (k0, 4, .inr (.inl (fun _ => 0))))] := hD
  refine lv_aload_n hx hb dX7_init_11 rfl (lv_at hl 0 rfl) ?_
  refine lv_iconst (v := 0) hx hb dX7_init_12 (by decide +kernel) ?_
  refine va_put (D := (dC, dI)) (ci := 10) (v := .int 0) (ty := .int) (C := RX7) (T := TX7) (N := 2) hx hb hts (fun _ h => List.mem_cons_of_mem _ (List.mem_append_right _ h)) tyX7 tyX7_ok nmX7 hown hK hP hD hS 0 rfl rfl 1 (by decide) (hts (.fieldLink RX7 15 "Seekwell$Row" "size" "I") (by decide +kernel)) (fun _ h9 => h9) rfl (by decide +kernel) rfl rfl (Nat.le_of_ble_eq_true rfl) dX7_init_13 (fun H locs hP hD hS => ?_)
  have hP : va_P (dC, dI) vwCl [(q0, .inr (10, [.ref q1, .int 0])), (q1, .inl (k0, 4, .inr (.inl (fun _ => 0))))] H := hP
  have hD : va_D A [(q0, .inr (10, [.ref q1, .int 0])), (q1, .inl (k0, 4, .inr (.inl (fun _ => 0))))] := hD
  have hP9 := hP.sub (ws' := []) [] rfl
  have hD9 := hD.sub (ws' := []) [] (by decide) rfl
  have hK9 := hK.sub (tys' := []) [] rfl
  exact W.vret hx hb hr (fun t ht hW => ⟨⟨(), rfl, trivial, ⟨by rw [ht]; exact hP9, va_K.moved hW.alike hK9, hD9⟩⟩, hS.F ht⟩) hS.2.2 dX7_init_16
set_option maxHeartbeats 4000000 in
set_option maxRecDepth 100000 in
theorem c_X5_init (l : Launch) (dC : Nat → ClassId) (dI : Nat → Nat → Nat) (q0 : Nat) (sz : Nat) : Met l yX5_init wsX5_init ({ frames := 2, cells := 2, slots := 6, locals := 40 }) (va_Pc [.ref q0] (zB (dC, dI) [] [(q0, .inr (8, [.int 0, .int 0, .int 0, .int 0, .int 0, .int 0, .null, .null, .null, .null, .null, .int 0, .int 0, .int 0, .int 0, .null, .null]))] sz)) (va_Qv (fun (_ : Unit) => True) (fun _ t => zE (dC, dI) [] [] (va_A [(q0, .inr (8, [.int 0, .int 0, .int 0, .int 0, .int 0, .int 0, .null, .null, .null, .null, .null, .int 0, .int 0, .int 0, .int 0, .null, .null]))] sz) t) (va_A [(q0, .inr (8, [.int 0, .int 0, .int 0, .int 0, .int 0, .int 0, .null, .null, .null, .null, .null, .int 0, .int 0, .int 0, .int 0, .null, .null]))] sz)) 2 6 (va_A [(q0, .inr (8, [.int 0, .int 0, .int 0, .int 0, .int 0, .int 0, .null, .null, .null, .null, .null, .int 0, .int 0, .int 0, .int 0, .null, .null]))] sz) := by
  refine Met.ofW (cc := cX5_init) (maxL := 1) (ret := none) (by decide) rfl ?_
  intro p e s m args below meth c s₁ B hml hv
  obtain ⟨rfl, hsz, hP, hK, hD0, hZ, hN⟩ := hv
  have hx := B.exec
  have hb := B.bytes
  have hr := B.returns
  have hts := atoms_spec (ws := wsX5_init) B.pre
  have hown : s.vm.findClass RX5 = some m.cls := findClass_of_methodNamed B.named
  have hlocks := B.notSynchronized
  have hin : meth.name = "<init>" := (name_of_methodNamed B.named B.method).1
  subst hsz
  have hD := hD0.self (sz := s.heap.size)
  generalize hAe : va_A [(q0, .inr (8, [.int 0, .int 0, .int 0, .int 0, .int 0, .int 0, .null, .null, .null, .null, .null, .int 0, .int 0, .int 0, .int 0, .null, .null]))] s.heap.size = A at hD hZ ⊢
  have hA : ∀ q : Nat, s.heap.size ≤ q → A q := fun q h => by rw [← hAe]; exact Or.inr h
  have hS : va_S A s.heap s.heap [] := va_S.rf
  have hP : va_P (dC, dI) vwCl [(q0, .inr (8, [.int 0, .int 0, .int 0, .int 0, .int 0, .int 0, .null, .null, .null, .null, .null, .int 0, .int 0, .int 0, .int 0, .null, .null]))] s.heap := hP
  have hl := lv_entry ([.ref q0]) (n := 1) (Nat.le_of_ble_eq_true rfl)
  rw [lg_entry_eq]
  generalize (lg_sl ([.ref q0]) ++ List.replicate (1 - (lg_sl ([.ref q0])).length) Slot.unset).toArray = ls at hl ⊢
  have hl : lv_has ls 1 [(0, .ref q0)] := hl
  refine lv_aload_n hx hb dX5_init_0 rfl (lv_at hl 0 rfl) ?_
  refine z_objInit hx hb hown (hts (.methodLink RX5 1 objectInit) (by decide +kernel)) (hts (.instanceMethod objectInit) (by decide +kernel)) (hts (.code objectInit ⟨#[0xb1]⟩ 1 none) (by decide +kernel)) (hl.1.trans hml.symm) dX5_init_1 (Nat.le_of_ble_eq_true rfl) (Nat.le_of_ble_eq_true rfl) ?_
  refine lv_aload_n hx hb dX5_init_4 rfl (lv_at hl 0 rfl) ?_
  refine lv_iconst (v := 0) hx hb dX5_init_5 (by decide +kernel) ?_
  refine va_put (D := (dC, dI)) (ci := 8) (v := .int 0) (ty := .int) (C := RX5) (T := TX5) (N := 17) hx hb hts (fun _ h => List.mem_cons_of_mem _ (List.mem_append_left _ (List.mem_append_right _ h))) tyX5 tyX5_ok nmX5 hown hK hP hD hS 0 rfl rfl 0 (by decide) (hts (.fieldLink RX5 9 "Seekwell$Node" "kind" "I") (by decide +kernel)) (fun _ h9 => h9) rfl (by decide +kernel) rfl rfl (Nat.le_of_ble_eq_true rfl) dX5_init_6 (fun H locs hP hD hS => ?_)
  have hP : va_P (dC, dI) vwCl [(q0, .inr (8, [.int 0, .int 0, .int 0, .int 0, .int 0, .int 0, .null, .null, .null, .null, .null, .int 0, .int 0, .int 0, .int 0, .null, .null]))] H := hP
  have hD : va_D A [(q0, .inr (8, [.int 0, .int 0, .int 0, .int 0, .int 0, .int 0, .null, .null, .null, .null, .null, .int 0, .int 0, .int 0, .int 0, .null, .null]))] := hD
  refine lv_aload_n hx hb dX5_init_9 rfl (lv_at hl 0 rfl) ?_
  refine lv_iconst (v := 0) hx hb dX5_init_10 (by decide +kernel) ?_
  refine va_put (D := (dC, dI)) (ci := 8) (v := .int 0) (ty := .boolean) (C := RX5) (T := TX5) (N := 17) hx hb hts (fun _ h => List.mem_cons_of_mem _ (List.mem_append_left _ (List.mem_append_right _ h))) tyX5 tyX5_ok nmX5 hown hK hP hD hS 0 rfl rfl 1 (by decide) (hts (.fieldLink RX5 13 "Seekwell$Node" "isNot" "Z") (by decide +kernel)) (fun _ h9 => h9) rfl (by decide +kernel) rfl rfl (Nat.le_of_ble_eq_true rfl) dX5_init_11 (fun H locs hP hD hS => ?_)
  have hP : va_P (dC, dI) vwCl [(q0, .inr (8, [.int 0, .int 0, .int 0, .int 0, .int 0, .int 0, .null, .null, .null, .null, .null, .int 0, .int 0, .int 0, .int 0, .null, .null]))] H := hP
  have hD : va_D A [(q0, .inr (8, [.int 0, .int 0, .int 0, .int 0, .int 0, .int 0, .null, .null, .null, .null, .null, .int 0, .int 0, .int 0, .int 0, .null, .null]))] := hD
  refine lv_aload_n hx hb dX5_init_14 rfl (lv_at hl 0 rfl) ?_
  refine lv_iconst (v := 1) hx hb dX5_init_15 (by decide +kernel) ?_
  refine va_put (D := (dC, dI)) (ci := 8) (v := .int 1) (ty := .int) (C := RX5) (T := TX5) (N := 17) hx hb hts (fun _ h => List.mem_cons_of_mem _ (List.mem_append_left _ (List.mem_append_right _ h))) tyX5 tyX5_ok nmX5 hown hK hP hD hS 0 rfl rfl 2 (by decide) (hts (.fieldLink RX5 17 "Seekwell$Node" "weight" "I") (by decide +kernel)) (fun _ h9 => h9) rfl (by decide +kernel) rfl rfl (Nat.le_of_ble_eq_true rfl) dX5_init_16 (fun H locs hP hD hS => ?_)
  have hP : va_P (dC, dI) vwCl [(q0, .inr (8, [.int 0, .int 0, .int 1, .int 0, .int 0, .int 0, .null, .null, .null, .null, .null, .int 0, .int 0, .int 0, .int 0, .null, .null]))] H := hP
  have hD : va_D A [(q0, .inr (8, [.int 0, .int 0, .int 1, .int 0, .int 0, .int 0, .null, .null, .null, .null, .null, .int 0, .int 0, .int 0, .int 0, .null, .null]))] := hD
  refine lv_aload_n hx hb dX5_init_19 rfl (lv_at hl 0 rfl) ?_
  refine lv_iconst (v := 0) hx hb dX5_init_20 (by decide +kernel) ?_
  refine va_put (D := (dC, dI)) (ci := 8) (v := .int 0) (ty := .int) (C := RX5) (T := TX5) (N := 17) hx hb hts (fun _ h => List.mem_cons_of_mem _ (List.mem_append_left _ (List.mem_append_right _ h))) tyX5 tyX5_ok nmX5 hown hK hP hD hS 0 rfl rfl 3 (by decide) (hts (.fieldLink RX5 20 "Seekwell$Node" "where" "I") (by decide +kernel)) (fun _ h9 => h9) rfl (by decide +kernel) rfl rfl (Nat.le_of_ble_eq_true rfl) dX5_init_21 (fun H locs hP hD hS => ?_)
  have hP : va_P (dC, dI) vwCl [(q0, .inr (8, [.int 0, .int 0, .int 1, .int 0, .int 0, .int 0, .null, .null, .null, .null, .null, .int 0, .int 0, .int 0, .int 0, .null, .null]))] H := hP
  have hD : va_D A [(q0, .inr (8, [.int 0, .int 0, .int 1, .int 0, .int 0, .int 0, .null, .null, .null, .null, .null, .int 0, .int 0, .int 0, .int 0, .null, .null]))] := hD
  refine lv_aload_n hx hb dX5_init_24 rfl (lv_at hl 0 rfl) ?_
  refine lv_iconst (v := 0) hx hb dX5_init_25 (by decide +kernel) ?_
  refine va_put (D := (dC, dI)) (ci := 8) (v := .int 0) (ty := .int) (C := RX5) (T := TX5) (N := 17) hx hb hts (fun _ h => List.mem_cons_of_mem _ (List.mem_append_left _ (List.mem_append_right _ h))) tyX5 tyX5_ok nmX5 hown hK hP hD hS 0 rfl rfl 4 (by decide) (hts (.fieldLink RX5 23 "Seekwell$Node" "low" "I") (by decide +kernel)) (fun _ h9 => h9) rfl (by decide +kernel) rfl rfl (Nat.le_of_ble_eq_true rfl) dX5_init_26 (fun H locs hP hD hS => ?_)
  have hP : va_P (dC, dI) vwCl [(q0, .inr (8, [.int 0, .int 0, .int 1, .int 0, .int 0, .int 0, .null, .null, .null, .null, .null, .int 0, .int 0, .int 0, .int 0, .null, .null]))] H := hP
  have hD : va_D A [(q0, .inr (8, [.int 0, .int 0, .int 1, .int 0, .int 0, .int 0, .null, .null, .null, .null, .null, .int 0, .int 0, .int 0, .int 0, .null, .null]))] := hD
  refine lv_aload_n hx hb dX5_init_29 rfl (lv_at hl 0 rfl) ?_
  refine lv_iconst (v := 0) hx hb dX5_init_30 (by decide +kernel) ?_
  refine va_put (D := (dC, dI)) (ci := 8) (v := .int 0) (ty := .int) (C := RX5) (T := TX5) (N := 17) hx hb hts (fun _ h => List.mem_cons_of_mem _ (List.mem_append_left _ (List.mem_append_right _ h))) tyX5 tyX5_ok nmX5 hown hK hP hD hS 0 rfl rfl 5 (by decide) (hts (.fieldLink RX5 26 "Seekwell$Node" "high" "I") (by decide +kernel)) (fun _ h9 => h9) rfl (by decide +kernel) rfl rfl (Nat.le_of_ble_eq_true rfl) dX5_init_31 (fun H locs hP hD hS => ?_)
  have hP : va_P (dC, dI) vwCl [(q0, .inr (8, [.int 0, .int 0, .int 1, .int 0, .int 0, .int 0, .null, .null, .null, .null, .null, .int 0, .int 0, .int 0, .int 0, .null, .null]))] H := hP
  have hD : va_D A [(q0, .inr (8, [.int 0, .int 0, .int 1, .int 0, .int 0, .int 0, .null, .null, .null, .null, .null, .int 0, .int 0, .int 0, .int 0, .null, .null]))] := hD
  refine lv_aload_n hx hb dX5_init_34 rfl (lv_at hl 0 rfl) ?_
  refine va_new (D := (dC, dI)) (ci := 10) (fs := [.null, .int 0]) (C := RX7) (T := TX7) (N := 2) hx hb hts (fun _ h => List.mem_cons_of_mem _ (List.mem_append_right _ h)) tyX7 tyX7_ok hown (hts (.classLink RX5 29 RX7) (by decide +kernel)) (hts (.instantiable RX7 2) (by decide +kernel)) (hts (.initialized RX7) (by decide +kernel)) hK hP hD hS hA rfl (zfs (by decide)) (Nat.le_of_ble_eq_true rfl) (Nat.le_of_ble_eq_true rfl) dX5_init_35 (fun q1 H hP hD hS => ?_)
  have hP : va_P (dC, dI) vwCl [(q0, .inr (8, [.int 0, .int 0, .int 1, .int 0, .int 0, .int 0, .null, .null, .null, .null, .null, .int 0, .int 0, .int 0, .int 0, .null, .null])), (q1, .inr (10, [.null, .int 0]))] H := hP
  have hD : va_D A [(q0, .inr (8, [.int 0, .int 0, .int 1, .int 0, .int 0, .int 0, .null, .null, .null, .null, .null, .int 0, .int 0, .int 0, .int 0, .null, .null])), (q1, .inr (10, [.null, .int 0]))] := hD
  refine W.widen (k := 1) (n := 2) (Nat.le_of_ble_eq_true rfl) (Nat.le_of_ble_eq_true rfl) ?_
  refine lv_dup hx hb dX5_init_38 rfl ?_
  have hPc := hP.sub (ws' := [(q1, .inr (10, [.null, .int 0]))]) [1] rfl
  have hDc := hD.sub (ws' := [(q1, .inr (10, [.null, .int 0]))]) [1] (by decide) rfl
  have hKc := hK.sub (tys' := []) [] rfl
  have hFc := va_free (wc := [(q1, .inr (10, [.null, .int 0]))]) hD hS hA [1] rfl
  refine va_callv (va_runIN (As := []) (rest := [.ref q1, .ref q0]) ⟨hx, hb, hml, hown, hts⟩ (c_X7_init_2 l dC dI q1 H.size  ) ⟨va_cnB (host := "Seekwell") 0 hts gX5_init_X7_init_n31 rfl rfl rfl (hN.1 (RX5, 31, yX7_init, "Seekwell") (by decide +kernel)) (hts (.initialized RX7) (by decide +kernel)) (by decide +kernel) ⟨Nat.le_of_ble_eq_true rfl, Nat.le_of_ble_eq_true rfl⟩, rfl, hts (.instanceMethod yX7_init) (by decide +kernel)⟩ ⟨zB_blind, (zPre hPc hDc hKc hS hFc hZ hN)⟩ rfl rfl hl.1 rfl (lv_room (Nat.le_of_ble_eq_true rfl)) dX5_init_39 ⟨Nat.le_of_ble_eq_true rfl, Nat.le_of_ble_eq_true rfl⟩) hS (fun q _ h => hFc q h) hFc (fun u t H1 locs ht hvm hw hB hz1 hk1 hS => ?_)
  obtain ⟨hP1, hK1, hD1⟩ := hB
  rw [ht] at hP1
  have hK1 := va_K.moved hvm.symm hK1
  obtain ⟨hP, hD⟩ := va_join (wr := [(q0, .inr (8, [.int 0, .int 0, .int 1, .int 0, .int 0, .int 0, .null, .null, .null, .null, .null, .int 0, .int 0, .int 0, .int 0, .null, .null]))]) (w1 := []) hP hD [1] [0] rfl rfl (by decide) (by decide) hk1 hFc hP1 hD1
  have hK := (hK.sub (tys' := []) [] rfl).app hK1
  generalize H1 = H at hP hS ⊢
  have hP : va_P (dC, dI) vwCl [(q0, .inr (8, [.int 0, .int 0, .int 1, .int 0, .int 0, .int 0, .null, .null, .null, .null, .null, .int 0, .int 0, .int 0, .int 0, .null, .null]))] H := hP
  have hD : va_D A [(q0, .inr (8, [.int 0, .int 0, .int 1, .int 0, .int 0, .int 0, .null, .null, .null, .null, .null, .int 0, .int 0, .int 0, .int 0, .null, .null]))] := hD
  have hK : va_K (dC, dI) vwCl [] s := hK
  refine W.widen (k := 2) (n := 6) (Nat.le_of_ble_eq_true rfl) (Nat.le_of_ble_eq_true rfl) ?_
  refine va_putF (D := (dC, dI)) (ci := 8) (v := .ref q1) (ty := (.object "Seekwell$Row")) (C := RX5) (T := TX5) (N := 17) hx hb hts (fun _ h => List.mem_cons_of_mem _ (List.mem_append_left _ (List.mem_append_right _ h))) tyX5 tyX5_ok nmX5 hown hK hP hD hS 0 rfl rfl 6 (by decide) (hts (.fieldLink RX5 32 "Seekwell$Node" "row" "LSeekwell$Row;") (by decide +kernel)) (fun _ h9 => h9) rfl hin rfl (by decide +kernel) rfl rfl (Nat.le_of_ble_eq_true rfl) dX5_init_42 (fun H locs hP hD hS => ?_)
  have hP : va_P (dC, dI) vwCl [(q0, .inr (8, [.int 0, .int 0, .int 1, .int 0, .int 0, .int 0, .ref q1, .null, .null, .null, .null, .int 0, .int 0, .int 0, .int 0, .null, .null]))] H := hP
  have hD : va_D A [(q0, .inr (8, [.int 0, .int 0, .int 1, .int 0, .int 0, .int 0, .ref q1, .null, .null, .null, .null, .int 0, .int 0, .int 0, .int 0, .null, .null]))] := hD
  refine lv_aload_n hx hb dX5_init_45 rfl (lv_at hl 0 rfl) ?_
  refine lv_null hx hb dX5_init_46 ?_
  refine va_put (D := (dC, dI)) (ci := 8) (v := .null) (ty := (.object "Seekwell$Node")) (C := RX5) (T := TX5) (N := 17) hx hb hts (fun _ h => List.mem_cons_of_mem _ (List.mem_append_left _ (List.mem_append_right _ h))) tyX5 tyX5_ok nmX5 hown hK hP hD hS 0 rfl rfl 7 (by decide) (hts (.fieldLink RX5 36 "Seekwell$Node" "parent" "LSeekwell$Node;") (by decide +kernel)) (fun _ h9 => h9) rfl (by decide +kernel) rfl rfl (Nat.le_of_ble_eq_true rfl) dX5_init_47 (fun H locs hP hD hS => ?_)
  have hP : va_P (dC, dI) vwCl [(q0, .inr (8, [.int 0, .int 0, .int 1, .int 0, .int 0, .int 0, .ref q1, .null, .null, .null, .null, .int 0, .int 0, .int 0, .int 0, .null, .null]))] H := hP
  have hD : va_D A [(q0, .inr (8, [.int 0, .int 0, .int 1, .int 0, .int 0, .int 0, .ref q1, .null, .null, .null, .null, .int 0, .int 0, .int 0, .int 0, .null, .null]))] := hD
  refine lv_aload_n hx hb dX5_init_50 rfl (lv_at hl 0 rfl) ?_
  refine lv_null hx hb dX5_init_51 ?_
  refine va_put (D := (dC, dI)) (ci := 8) (v := .null) (ty := (.object "Seekwell$Node")) (C := RX5) (T := TX5) (N := 17) hx hb hts (fun _ h => List.mem_cons_of_mem _ (List.mem_append_left _ (List.mem_append_right _ h))) tyX5 tyX5_ok nmX5 hown hK hP hD hS 0 rfl rfl 8 (by decide) (hts (.fieldLink RX5 40 "Seekwell$Node" "next" "LSeekwell$Node;") (by decide +kernel)) (fun _ h9 => h9) rfl (by decide +kernel) rfl rfl (Nat.le_of_ble_eq_true rfl) dX5_init_52 (fun H locs hP hD hS => ?_)
  have hP : va_P (dC, dI) vwCl [(q0, .inr (8, [.int 0, .int 0, .int 1, .int 0, .int 0, .int 0, .ref q1, .null, .null, .null, .null, .int 0, .int 0, .int 0, .int 0, .null, .null]))] H := hP
  have hD : va_D A [(q0, .inr (8, [.int 0, .int 0, .int 1, .int 0, .int 0, .int 0, .ref q1, .null, .null, .null, .null, .int 0, .int 0, .int 0, .int 0, .null, .null]))] := hD
  refine lv_aload_n hx hb dX5_init_55 rfl (lv_at hl 0 rfl) ?_
  refine lv_null hx hb dX5_init_56 ?_
  refine va_put (D := (dC, dI)) (ci := 8) (v := .null) (ty := (.object "Seekwell$Node")) (C := RX5) (T := TX5) (N := 17) hx hb hts (fun _ h => List.mem_cons_of_mem _ (List.mem_append_left _ (List.mem_append_right _ h))) tyX5 tyX5_ok nmX5 hown hK hP hD hS 0 rfl rfl 9 (by decide) (hts (.fieldLink RX5 43 "Seekwell$Node" "first" "LSeekwell$Node;") (by decide +kernel)) (fun _ h9 => h9) rfl (by decide +kernel) rfl rfl (Nat.le_of_ble_eq_true rfl) dX5_init_57 (fun H locs hP hD hS => ?_)
  have hP : va_P (dC, dI) vwCl [(q0, .inr (8, [.int 0, .int 0, .int 1, .int 0, .int 0, .int 0, .ref q1, .null, .null, .null, .null, .int 0, .int 0, .int 0, .int 0, .null, .null]))] H := hP
  have hD : va_D A [(q0, .inr (8, [.int 0, .int 0, .int 1, .int 0, .int 0, .int 0, .ref q1, .null, .null, .null, .null, .int 0, .int 0, .int 0, .int 0, .null, .null]))] := hD
  refine lv_aload_n hx hb dX5_init_60 rfl (lv_at hl 0 rfl) ?_
  refine lv_null hx hb dX5_init_61 ?_
  refine va_put (D := (dC, dI)) (ci := 8) (v := .null) (ty := (.object "Seekwell$Node")) (C := RX5) (T := TX5) (N := 17) hx hb hts (fun _ h => List.mem_cons_of_mem _ (List.mem_append_left _ (List.mem_append_right _ h))) tyX5 tyX5_ok nmX5 hown hK hP hD hS 0 rfl rfl 10 (by decide) (hts (.fieldLink RX5 46 "Seekwell$Node" "last" "LSeekwell$Node;") (by decide +kernel)) (fun _ h9 => h9) rfl (by decide +kernel) rfl rfl (Nat.le_of_ble_eq_true rfl) dX5_init_62 (fun H locs hP hD hS => ?_)
  have hP : va_P (dC, dI) vwCl [(q0, .inr (8, [.int 0, .int 0, .int 1, .int 0, .int 0, .int 0, .ref q1, .null, .null, .null, .null, .int 0, .int 0, .int 0, .int 0, .null, .null]))] H := hP
  have hD : va_D A [(q0, .inr (8, [.int 0, .int 0, .int 1, .int 0, .int 0, .int 0, .ref q1, .null, .null, .null, .null, .int 0, .int 0, .int 0, .int 0, .null, .null]))] := hD
  refine lv_aload_n hx hb dX5_init_65 rfl (lv_at hl 0 rfl) ?_
  refine lv_iconst (v := 0) hx hb dX5_init_66 (by decide +kernel) ?_
  refine va_put (D := (dC, dI)) (ci := 8) (v := .int 0) (ty := .int) (C := RX5) (T := TX5) (N := 17) hx hb hts (fun _ h => List.mem_cons_of_mem _ (List.mem_append_left _ (List.mem_append_right _ h))) tyX5 tyX5_ok nmX5 hown hK hP hD hS 0 rfl rfl 11 (by decide) (hts (.fieldLink RX5 49 "Seekwell$Node" "size" "I") (by decide +kernel)) (fun _ h9 => h9) rfl (by decide +kernel) rfl rfl (Nat.le_of_ble_eq_true rfl) dX5_init_67 (fun H locs hP hD hS => ?_)
  have hP : va_P (dC, dI) vwCl [(q0, .inr (8, [.int 0, .int 0, .int 1, .int 0, .int 0, .int 0, .ref q1, .null, .null, .null, .null, .int 0, .int 0, .int 0, .int 0, .null, .null]))] H := hP
  have hD : va_D A [(q0, .inr (8, [.int 0, .int 0, .int 1, .int 0, .int 0, .int 0, .ref q1, .null, .null, .null, .null, .int 0, .int 0, .int 0, .int 0, .null, .null]))] := hD
  refine lv_aload_n hx hb dX5_init_70 rfl (lv_at hl 0 rfl) ?_
  refine lv_iconst (v := 0) hx hb dX5_init_71 (by decide +kernel) ?_
  refine va_put (D := (dC, dI)) (ci := 8) (v := .int 0) (ty := .boolean) (C := RX5) (T := TX5) (N := 17) hx hb hts (fun _ h => List.mem_cons_of_mem _ (List.mem_append_left _ (List.mem_append_right _ h))) tyX5 tyX5_ok nmX5 hown hK hP hD hS 0 rfl rfl 12 (by decide) (hts (.fieldLink RX5 52 "Seekwell$Node" "isFit" "Z") (by decide +kernel)) (fun _ h9 => h9) rfl (by decide +kernel) rfl rfl (Nat.le_of_ble_eq_true rfl) dX5_init_72 (fun H locs hP hD hS => ?_)
  have hP : va_P (dC, dI) vwCl [(q0, .inr (8, [.int 0, .int 0, .int 1, .int 0, .int 0, .int 0, .ref q1, .null, .null, .null, .null, .int 0, .int 0, .int 0, .int 0, .null, .null]))] H := hP
  have hD : va_D A [(q0, .inr (8, [.int 0, .int 0, .int 1, .int 0, .int 0, .int 0, .ref q1, .null, .null, .null, .null, .int 0, .int 0, .int 0, .int 0, .null, .null]))] := hD
  refine lv_aload_n hx hb dX5_init_75 rfl (lv_at hl 0 rfl) ?_
  refine lv_iconst (v := 0) hx hb dX5_init_76 (by decide +kernel) ?_
  refine va_put (D := (dC, dI)) (ci := 8) (v := .int 0) (ty := .boolean) (C := RX5) (T := TX5) (N := 17) hx hb hts (fun _ h => List.mem_cons_of_mem _ (List.mem_append_left _ (List.mem_append_right _ h))) tyX5 tyX5_ok nmX5 hown hK hP hD hS 0 rfl rfl 13 (by decide) (hts (.fieldLink RX5 55 "Seekwell$Node" "isGone" "Z") (by decide +kernel)) (fun _ h9 => h9) rfl (by decide +kernel) rfl rfl (Nat.le_of_ble_eq_true rfl) dX5_init_77 (fun H locs hP hD hS => ?_)
  have hP : va_P (dC, dI) vwCl [(q0, .inr (8, [.int 0, .int 0, .int 1, .int 0, .int 0, .int 0, .ref q1, .null, .null, .null, .null, .int 0, .int 0, .int 0, .int 0, .null, .null]))] H := hP
  have hD : va_D A [(q0, .inr (8, [.int 0, .int 0, .int 1, .int 0, .int 0, .int 0, .ref q1, .null, .null, .null, .null, .int 0, .int 0, .int 0, .int 0, .null, .null]))] := hD
  refine lv_aload_n hx hb dX5_init_80 rfl (lv_at hl 0 rfl) ?_
  refine lv_iconst (v := 0) hx hb dX5_init_81 (by decide +kernel) ?_
  refine va_put (D := (dC, dI)) (ci := 8) (v := .int 0) (ty := .int) (C := RX5) (T := TX5) (N := 17) hx hb hts (fun _ h => List.mem_cons_of_mem _ (List.mem_append_left _ (List.mem_append_right _ h))) tyX5 tyX5_ok nmX5 hown hK hP hD hS 0 rfl rfl 14 (by decide) (hts (.fieldLink RX5 58 "Seekwell$Node" "fitting" "I") (by decide +kernel)) (fun _ h9 => h9) rfl (by decide +kernel) rfl rfl (Nat.le_of_ble_eq_true rfl) dX5_init_82 (fun H locs hP hD hS => ?_)
  have hP : va_P (dC, dI) vwCl [(q0, .inr (8, [.int 0, .int 0, .int 1, .int 0, .int 0, .int 0, .ref q1, .null, .null, .null, .null, .int 0, .int 0, .int 0, .int 0, .null, .null]))] H := hP
  have hD : va_D A [(q0, .inr (8, [.int 0, .int 0, .int 1, .int 0, .int 0, .int 0, .ref q1, .null, .null, .null, .null, .int 0, .int 0, .int 0, .int 0, .null, .null]))] := hD
  refine lv_aload_n hx hb dX5_init_85 rfl (lv_at hl 0 rfl) ?_
  refine lv_null hx hb dX5_init_86 ?_
  refine va_put (D := (dC, dI)) (ci := 8) (v := .null) (ty := (.object "Seekwell$Node")) (C := RX5) (T := TX5) (N := 17) hx hb hts (fun _ h => List.mem_cons_of_mem _ (List.mem_append_left _ (List.mem_append_right _ h))) tyX5 tyX5_ok nmX5 hown hK hP hD hS 0 rfl rfl 15 (by decide) (hts (.fieldLink RX5 61 "Seekwell$Node" "copy" "LSeekwell$Node;") (by decide +kernel)) (fun _ h9 => h9) rfl (by decide +kernel) rfl rfl (Nat.le_of_ble_eq_true rfl) dX5_init_87 (fun H locs hP hD hS => ?_)
  have hP : va_P (dC, dI) vwCl [(q0, .inr (8, [.int 0, .int 0, .int 1, .int 0, .int 0, .int 0, .ref q1, .null, .null, .null, .null, .int 0, .int 0, .int 0, .int 0, .null, .null]))] H := hP
  have hD : va_D A [(q0, .inr (8, [.int 0, .int 0, .int 1, .int 0, .int 0, .int 0, .ref q1, .null, .null, .null, .null, .int 0, .int 0, .int 0, .int 0, .null, .null]))] := hD
  refine lv_aload_n hx hb dX5_init_90 rfl (lv_at hl 0 rfl) ?_
  refine lv_null hx hb dX5_init_91 ?_
  refine va_put (D := (dC, dI)) (ci := 8) (v := .null) (ty := (.object "Seekwell$Node")) (C := RX5) (T := TX5) (N := 17) hx hb hts (fun _ h => List.mem_cons_of_mem _ (List.mem_append_left _ (List.mem_append_right _ h))) tyX5 tyX5_ok nmX5 hown hK hP hD hS 0 rfl rfl 16 (by decide) (hts (.fieldLink RX5 64 "Seekwell$Node" "later" "LSeekwell$Node;") (by decide +kernel)) (fun _ h9 => h9) rfl (by decide +kernel) rfl rfl (Nat.le_of_ble_eq_true rfl) dX5_init_92 (fun H locs hP hD hS => ?_)
  have hP : va_P (dC, dI) vwCl [(q0, .inr (8, [.int 0, .int 0, .int 1, .int 0, .int 0, .int 0, .ref q1, .null, .null, .null, .null, .int 0, .int 0, .int 0, .int 0, .null, .null]))] H := hP
  have hD : va_D A [(q0, .inr (8, [.int 0, .int 0, .int 1, .int 0, .int 0, .int 0, .ref q1, .null, .null, .null, .null, .int 0, .int 0, .int 0, .int 0, .null, .null]))] := hD
  have hP9 := hP.sub (ws' := []) [] rfl
  have hD9 := hD.sub (ws' := []) [] (by decide) rfl
  have hK9 := hK.sub (tys' := []) [] rfl
  exact W.vret hx hb hr (fun t ht hW => ⟨⟨(), rfl, trivial, ⟨by rw [ht]; exact hP9, va_K.moved hW.alike hK9, hD9⟩⟩, hS.F ht⟩) hS.2.2 dX5_init_95
set_option maxHeartbeats 4000000 in
set_option maxRecDepth 100000 in
theorem c_X6_init (l : Launch) (dC : Nat → ClassId) (dI : Nat → Nat → Nat) (q0 : Nat) (sz : Nat) : Met l yX6_init wsX6_init ({ frames := 3, cells := 3, slots := 23, locals := 60 }) (va_Pc [.ref q0] (zB (dC, dI) [] [(q0, .inr (9, [.null, .null, .null]))] sz)) (va_Qv (fun (_ : Unit) => True) (fun _ t => ∃ q1 : Nat, zE (dC, dI) [] [(q0, .inr (9, [.ref q1, .ref q1, .null]))] (va_A [(q0, .inr (9, [.null, .null, .null]))] sz) t) (va_A [(q0, .inr (9, [.null, .null, .null]))] sz)) 3 23 (va_A [(q0, .inr (9, [.null, .null, .null]))] sz) := by
  refine Met.ofW (cc := cX6_init) (maxL := 1) (ret := none) (by decide) rfl ?_
  intro p e s m args below meth c s₁ B hml hv
  obtain ⟨rfl, hsz, hP, hK, hD0, hZ, hN⟩ := hv
  have hx := B.exec
  have hb := B.bytes
  have hr := B.returns
  have hts := atoms_spec (ws := wsX6_init) B.pre
  have hown : s.vm.findClass RX6 = some m.cls := findClass_of_methodNamed B.named
  have hlocks := B.notSynchronized
  have hin : meth.name = "<init>" := (name_of_methodNamed B.named B.method).1
  subst hsz
  have hD := hD0.self (sz := s.heap.size)
  generalize hAe : va_A [(q0, .inr (9, [.null, .null, .null]))] s.heap.size = A at hD hZ ⊢
  have hA : ∀ q : Nat, s.heap.size ≤ q → A q := fun q h => by rw [← hAe]; exact Or.inr h
  have hS : va_S A s.heap s.heap [] := va_S.rf
  have hP : va_P (dC, dI) vwCl [(q0, .inr (9, [.null, .null, .null]))] s.heap := hP
  have hl := lv_entry ([.ref q0]) (n := 1) (Nat.le_of_ble_eq_true rfl)
  rw [lg_entry_eq]
  generalize (lg_sl ([.ref q0]) ++ List.replicate (1 - (lg_sl ([.ref q0])).length) Slot.unset).toArray = ls at hl ⊢
  have hl : lv_has ls 1 [(0, .ref q0)] := hl
  refine lv_aload_n hx hb dX6_init_0 rfl (lv_at hl 0 rfl) ?_
  refine z_objInit hx hb hown (hts (.methodLink RX6 1 objectInit) (by decide +kernel)) (hts (.instanceMethod objectInit) (by decide +kernel)) (hts (.code objectInit ⟨#[0xb1]⟩ 1 none) (by decide +kernel)) (hl.1.trans hml.symm) dX6_init_1 (Nat.le_of_ble_eq_true rfl) (Nat.le_of_ble_eq_true rfl) ?_
  refine lv_aload_n hx hb dX6_init_4 rfl (lv_at hl 0 rfl) ?_
  refine va_new (D := (dC, dI)) (ci := 8) (fs := [.int 0, .int 0, .int 0, .int 0, .int 0, .int 0, .null, .null, .null, .null, .null, .int 0, .int 0, .int 0, .int 0, .null, .null]) (C := RX5) (T := TX5) (N := 17) hx hb hts (fun _ h => List.mem_cons_of_mem _ (List.mem_append_left _ (List.mem_append_left _ (List.mem_append_right _ h)))) tyX5 tyX5_ok hown (hts (.classLink RX6 7 RX5) (by decide +kernel)) (hts (.instantiable RX5 17) (by decide +kernel)) (hts (.initialized RX5) (by decide +kernel)) hK hP hD hS hA rfl (zfs (by decide)) (Nat.le_of_ble_eq_true rfl) (Nat.le_of_ble_eq_true rfl) dX6_init_5 (fun q1 H hP hD hS => ?_)
  have hP : va_P (dC, dI) vwCl [(q0, .inr (9, [.null, .null, .null])), (q1, .inr (8, [.int 0, .int 0, .int 0, .int 0, .int 0, .int 0, .null, .null, .null, .null, .null, .int 0, .int 0, .int 0, .int 0, .null, .null]))] H := hP
  have hD : va_D A [(q0, .inr (9, [.null, .null, .null])), (q1, .inr (8, [.int 0, .int 0, .int 0, .int 0, .int 0, .int 0, .null, .null, .null, .null, .null, .int 0, .int 0, .int 0, .int 0, .null, .null]))] := hD
  refine W.widen (k := 1) (n := 17) (Nat.le_of_ble_eq_true rfl) (Nat.le_of_ble_eq_true rfl) ?_
  refine lv_dup hx hb dX6_init_8 rfl ?_
  have hPc := hP.sub (ws' := [(q1, .inr (8, [.int 0, .int 0, .int 0, .int 0, .int 0, .int 0, .null, .null, .null, .null, .null, .int 0, .int 0, .int 0, .int 0, .null, .null]))]) [1] rfl
  have hDc := hD.sub (ws' := [(q1, .inr (8, [.int 0, .int 0, .int 0, .int 0, .int 0, .int 0, .null, .null, .null, .null, .null, .int 0, .int 0, .int 0, .int 0, .null, .null]))]) [1] (by decide) rfl
  have hKc := hK.sub (tys' := []) [] rfl
  have hFc := va_free (wc := [(q1, .inr (8, [.int 0, .int 0, .int 0, .int 0, .int 0, .int 0, .null, .null, .null, .null, .null, .int 0, .int 0, .int 0, .int 0, .null, .null]))]) hD hS hA [1] rfl
  refine va_callv (va_runIN (As := []) (rest := [.ref q1, .ref q0]) ⟨hx, hb, hml, hown, hts⟩ (c_X5_init l dC dI q1 H.size  ) ⟨va_cnB (host := "Seekwell") 0 hts gX6_init_X5_init_n9 rfl rfl rfl (hN.1 (RX6, 9, yX5_init, "Seekwell") (by decide +kernel)) (hts (.initialized RX5) (by decide +kernel)) (by decide +kernel) ⟨Nat.le_of_ble_eq_true rfl, Nat.le_of_ble_eq_true rfl⟩, rfl, hts (.instanceMethod yX5_init) (by decide +kernel)⟩ ⟨zB_blind, (zPre hPc hDc hKc hS hFc hZ hN)⟩ rfl rfl hl.1 rfl (lv_room (Nat.le_of_ble_eq_true rfl)) dX6_init_9 ⟨Nat.le_of_ble_eq_true rfl, Nat.le_of_ble_eq_true rfl⟩) hS (fun q _ h => hFc q h) hFc (fun u t H1 locs ht hvm hw hB hz1 hk1 hS => ?_)
  obtain ⟨hP1, hK1, hD1⟩ := hB
  rw [ht] at hP1
  have hK1 := va_K.moved hvm.symm hK1
  obtain ⟨hP, hD⟩ := va_join (wr := [(q0, .inr (9, [.null, .null, .null]))]) (w1 := []) hP hD [1] [0] rfl rfl (by decide) (by decide) hk1 hFc hP1 hD1
  have hK := (hK.sub (tys' := []) [] rfl).app hK1
  generalize H1 = H at hP hS ⊢
  have hP : va_P (dC, dI) vwCl [(q0, .inr (9, [.null, .null, .null]))] H := hP
  have hD : va_D A [(q0, .inr (9, [.null, .null, .null]))] := hD
  have hK : va_K (dC, dI) vwCl [] s := hK
  refine W.widen (k := 3) (n := 23) (Nat.le_of_ble_eq_true rfl) (Nat.le_of_ble_eq_true rfl) ?_
  refine va_putF (D := (dC, dI)) (ci := 9) (v := .ref q1) (ty := (.object "Seekwell$Node")) (C := RX6) (T := TX6) (N := 3) hx hb hts (fun _ h => List.mem_cons_of_mem _ (List.mem_append_left _ (List.mem_append_right _ h))) tyX6 tyX6_ok nmX6 hown hK hP hD hS 0 rfl rfl 0 (by decide) (hts (.fieldLink RX6 10 "Seekwell$Question" "pool" "LSeekwell$Node;") (by decide +kernel)) (fun _ h9 => h9) rfl hin rfl (by decide +kernel) rfl rfl (Nat.le_of_ble_eq_true rfl) dX6_init_12 (fun H locs hP hD hS => ?_)
  have hP : va_P (dC, dI) vwCl [(q0, .inr (9, [.ref q1, .null, .null]))] H := hP
  have hD : va_D A [(q0, .inr (9, [.ref q1, .null, .null]))] := hD
  refine lv_aload_n hx hb dX6_init_15 rfl (lv_at hl 0 rfl) ?_
  refine lv_aload_n hx hb dX6_init_16 rfl (lv_at hl 0 rfl) ?_
  refine va_get (D := (dC, dI)) (ci := 9) (v := .ref q1) (C := RX6) (T := TX6) (N := 3) hx hb hts (fun _ h => List.mem_cons_of_mem _ (List.mem_append_left _ (List.mem_append_right _ h))) hown hK hP 0 rfl rfl 0 (by decide) (hts (.fieldLink RX6 10 "Seekwell$Question" "pool" "LSeekwell$Node;") (by decide +kernel)) (fun _ h9 => h9) rfl dX6_init_17 ?_
  refine va_put (D := (dC, dI)) (ci := 9) (v := .ref q1) (ty := (.object "Seekwell$Node")) (C := RX6) (T := TX6) (N := 3) hx hb hts (fun _ h => List.mem_cons_of_mem _ (List.mem_append_left _ (List.mem_append_right _ h))) tyX6 tyX6_ok nmX6 hown hK hP hD hS 0 rfl rfl 1 (by decide) (hts (.fieldLink RX6 16 "Seekwell$Question" "newest" "LSeekwell$Node;") (by decide +kernel)) (fun _ h9 => h9) rfl (by decide +kernel) rfl rfl (Nat.le_of_ble_eq_true rfl) dX6_init_20 (fun H locs hP hD hS => ?_)
  have hP : va_P (dC, dI) vwCl [(q0, .inr (9, [.ref q1, .ref q1, .null]))] H := hP
  have hD : va_D A [(q0, .inr (9, [.ref q1, .ref q1, .null]))] := hD
  refine lv_aload_n hx hb dX6_init_23 rfl (lv_at hl 0 rfl) ?_
  refine lv_null hx hb dX6_init_24 ?_
  refine va_put (D := (dC, dI)) (ci := 9) (v := .null) (ty := (.object "Seekwell$Node")) (C := RX6) (T := TX6) (N := 3) hx hb hts (fun _ h => List.mem_cons_of_mem _ (List.mem_append_left _ (List.mem_append_right _ h))) tyX6 tyX6_ok nmX6 hown hK hP hD hS 0 rfl rfl 2 (by decide) (hts (.fieldLink RX6 19 "Seekwell$Question" "root" "LSeekwell$Node;") (by decide +kernel)) (fun _ h9 => h9) rfl (by decide +kernel) rfl rfl (Nat.le_of_ble_eq_true rfl) dX6_init_25 (fun H locs hP hD hS => ?_)
  have hP : va_P (dC, dI) vwCl [(q0, .inr (9, [.ref q1, .ref q1, .null]))] H := hP
  have hD : va_D A [(q0, .inr (9, [.ref q1, .ref q1, .null]))] := hD
  have hP9 := hP.sub (ws' := [(q0, .inr (9, [.ref q1, .ref q1, .null]))]) [0] rfl
  have hD9 := hD.sub (ws' := [(q0, .inr (9, [.ref q1, .ref q1, .null]))]) [0] (by decide) rfl
  have hK9 := hK.sub (tys' := []) [] rfl
  exact W.vret hx hb hr (fun t ht hW => ⟨⟨(), rfl, trivial, q1, ⟨by rw [ht]; exact hP9, va_K.moved hW.alike hK9, hD9⟩⟩, hS.F ht⟩) hS.2.2 dX6_init_28
set_option maxHeartbeats 4000000 in
set_option maxRecDepth 100000 in
theorem c_X5_init_2 (l : Launch) (dC : Nat → ClassId) (dI : Nat → Nat → Nat) (q0 : Nat) (sz : Nat) : Met l yX5_init wsX5_init ({ frames := 2, cells := 2, slots := 6, locals := 40 }) (va_Pc [.ref q0] (zB (dC, dI) [] [(q0, .inr (8, [.int 0, .int 0, .int 0, .int 0, .int 0, .int 0, .null, .null, .null, .null, .null, .int 0, .int 0, .int 0, .int 0, .null, .null]))] sz)) (va_Qv (fun (_ : Unit) => True) (fun _ t => ∃ q1 : Nat, zE (dC, dI) [] [(q0, .inr (8, [.int 0, .int 0, .int 1, .int 0, .int 0, .int 0, .ref q1, .null, .null, .null, .null, .int 0, .int 0, .int 0, .int 0, .null, .null]))] (va_A [(q0, .inr (8, [.int 0, .int 0, .int 0, .int 0, .int 0, .int 0, .null, .null, .null, .null, .null, .int 0, .int 0, .int 0, .int 0, .null, .null]))] sz) t) (va_A [(q0, .inr (8, [.int 0, .int 0, .int 0, .int 0, .int 0, .int 0, .null, .null, .null, .null, .null, .int 0, .int 0, .int 0, .int 0, .null, .null]))] sz)) 2 6 (va_A [(q0, .inr (8, [.int 0, .int 0, .int 0, .int 0, .int 0, .int 0, .null, .null, .null, .null, .null, .int 0, .int 0, .int 0, .int 0, .null, .null]))] sz) := by
  refine Met.ofW (cc := cX5_init) (maxL := 1) (ret := none) (by decide) rfl ?_
  intro p e s m args below meth c s₁ B hml hv
  obtain ⟨rfl, hsz, hP, hK, hD0, hZ, hN⟩ := hv
  have hx := B.exec
  have hb := B.bytes
  have hr := B.returns
  have hts := atoms_spec (ws := wsX5_init) B.pre
  have hown : s.vm.findClass RX5 = some m.cls := findClass_of_methodNamed B.named
  have hlocks := B.notSynchronized
  have hin : meth.name = "<init>" := (name_of_methodNamed B.named B.method).1
  subst hsz
  have hD := hD0.self (sz := s.heap.size)
  generalize hAe : va_A [(q0, .inr (8, [.int 0, .int 0, .int 0, .int 0, .int 0, .int 0, .null, .null, .null, .null, .null, .int 0, .int 0, .int 0, .int 0, .null, .null]))] s.heap.size = A at hD hZ ⊢
  have hA : ∀ q : Nat, s.heap.size ≤ q → A q := fun q h => by rw [← hAe]; exact Or.inr h
  have hS : va_S A s.heap s.heap [] := va_S.rf
  have hP : va_P (dC, dI) vwCl [(q0, .inr (8, [.int 0, .int 0, .int 0, .int 0, .int 0, .int 0, .null, .null, .null, .null, .null, .int 0, .int 0, .int 0, .int 0, .null, .null]))] s.heap := hP
  have hl := lv_entry ([.ref q0]) (n := 1) (Nat.le_of_ble_eq_true rfl)
  rw [lg_entry_eq]
  generalize (lg_sl ([.ref q0]) ++ List.replicate (1 - (lg_sl ([.ref q0])).length) Slot.unset).toArray = ls at hl ⊢
  have hl : lv_has ls 1 [(0, .ref q0)] := hl
  refine lv_aload_n hx hb dX5_init_0 rfl (lv_at hl 0 rfl) ?_
  refine z_objInit hx hb hown (hts (.methodLink RX5 1 objectInit) (by decide +kernel)) (hts (.instanceMethod objectInit) (by decide +kernel)) (hts (.code objectInit ⟨#[0xb1]⟩ 1 none) (by decide +kernel)) (hl.1.trans hml.symm) dX5_init_1 (Nat.le_of_ble_eq_true rfl) (Nat.le_of_ble_eq_true rfl) ?_
  refine lv_aload_n hx hb dX5_init_4 rfl (lv_at hl 0 rfl) ?_
  refine lv_iconst (v := 0) hx hb dX5_init_5 (by decide +kernel) ?_
  refine va_put (D := (dC, dI)) (ci := 8) (v := .int 0) (ty := .int) (C := RX5) (T := TX5) (N := 17) hx hb hts (fun _ h => List.mem_cons_of_mem _ (List.mem_append_left _ (List.mem_append_right _ h))) tyX5 tyX5_ok nmX5 hown hK hP hD hS 0 rfl rfl 0 (by decide) (hts (.fieldLink RX5 9 "Seekwell$Node" "kind" "I") (by decide +kernel)) (fun _ h9 => h9) rfl (by decide +kernel) rfl rfl (Nat.le_of_ble_eq_true rfl) dX5_init_6 (fun H locs hP hD hS => ?_)
  have hP : va_P (dC, dI) vwCl [(q0, .inr (8, [.int 0, .int 0, .int 0, .int 0, .int 0, .int 0, .null, .null, .null, .null, .null, .int 0, .int 0, .int 0, .int 0, .null, .null]))] H := hP
  have hD : va_D A [(q0, .inr (8, [.int 0, .int 0, .int 0, .int 0, .int 0, .int 0, .null, .null, .null, .null, .null, .int 0, .int 0, .int 0, .int 0, .null, .null]))] := hD
  refine lv_aload_n hx hb dX5_init_9 rfl (lv_at hl 0 rfl) ?_
  refine lv_iconst (v := 0) hx hb dX5_init_10 (by decide +kernel) ?_
  refine va_put (D := (dC, dI)) (ci := 8) (v := .int 0) (ty := .boolean) (C := RX5) (T := TX5) (N := 17) hx hb hts (fun _ h => List.mem_cons_of_mem _ (List.mem_append_left _ (List.mem_append_right _ h))) tyX5 tyX5_ok nmX5 hown hK hP hD hS 0 rfl rfl 1 (by decide) (hts (.fieldLink RX5 13 "Seekwell$Node" "isNot" "Z") (by decide +kernel)) (fun _ h9 => h9) rfl (by decide +kernel) rfl rfl (Nat.le_of_ble_eq_true rfl) dX5_init_11 (fun H locs hP hD hS => ?_)
  have hP : va_P (dC, dI) vwCl [(q0, .inr (8, [.int 0, .int 0, .int 0, .int 0, .int 0, .int 0, .null, .null, .null, .null, .null, .int 0, .int 0, .int 0, .int 0, .null, .null]))] H := hP
  have hD : va_D A [(q0, .inr (8, [.int 0, .int 0, .int 0, .int 0, .int 0, .int 0, .null, .null, .null, .null, .null, .int 0, .int 0, .int 0, .int 0, .null, .null]))] := hD
  refine lv_aload_n hx hb dX5_init_14 rfl (lv_at hl 0 rfl) ?_
  refine lv_iconst (v := 1) hx hb dX5_init_15 (by decide +kernel) ?_
  refine va_put (D := (dC, dI)) (ci := 8) (v := .int 1) (ty := .int) (C := RX5) (T := TX5) (N := 17) hx hb hts (fun _ h => List.mem_cons_of_mem _ (List.mem_append_left _ (List.mem_append_right _ h))) tyX5 tyX5_ok nmX5 hown hK hP hD hS 0 rfl rfl 2 (by decide) (hts (.fieldLink RX5 17 "Seekwell$Node" "weight" "I") (by decide +kernel)) (fun _ h9 => h9) rfl (by decide +kernel) rfl rfl (Nat.le_of_ble_eq_true rfl) dX5_init_16 (fun H locs hP hD hS => ?_)
  have hP : va_P (dC, dI) vwCl [(q0, .inr (8, [.int 0, .int 0, .int 1, .int 0, .int 0, .int 0, .null, .null, .null, .null, .null, .int 0, .int 0, .int 0, .int 0, .null, .null]))] H := hP
  have hD : va_D A [(q0, .inr (8, [.int 0, .int 0, .int 1, .int 0, .int 0, .int 0, .null, .null, .null, .null, .null, .int 0, .int 0, .int 0, .int 0, .null, .null]))] := hD
  refine lv_aload_n hx hb dX5_init_19 rfl (lv_at hl 0 rfl) ?_
  refine lv_iconst (v := 0) hx hb dX5_init_20 (by decide +kernel) ?_
  refine va_put (D := (dC, dI)) (ci := 8) (v := .int 0) (ty := .int) (C := RX5) (T := TX5) (N := 17) hx hb hts (fun _ h => List.mem_cons_of_mem _ (List.mem_append_left _ (List.mem_append_right _ h))) tyX5 tyX5_ok nmX5 hown hK hP hD hS 0 rfl rfl 3 (by decide) (hts (.fieldLink RX5 20 "Seekwell$Node" "where" "I") (by decide +kernel)) (fun _ h9 => h9) rfl (by decide +kernel) rfl rfl (Nat.le_of_ble_eq_true rfl) dX5_init_21 (fun H locs hP hD hS => ?_)
  have hP : va_P (dC, dI) vwCl [(q0, .inr (8, [.int 0, .int 0, .int 1, .int 0, .int 0, .int 0, .null, .null, .null, .null, .null, .int 0, .int 0, .int 0, .int 0, .null, .null]))] H := hP
  have hD : va_D A [(q0, .inr (8, [.int 0, .int 0, .int 1, .int 0, .int 0, .int 0, .null, .null, .null, .null, .null, .int 0, .int 0, .int 0, .int 0, .null, .null]))] := hD
  refine lv_aload_n hx hb dX5_init_24 rfl (lv_at hl 0 rfl) ?_
  refine lv_iconst (v := 0) hx hb dX5_init_25 (by decide +kernel) ?_
  refine va_put (D := (dC, dI)) (ci := 8) (v := .int 0) (ty := .int) (C := RX5) (T := TX5) (N := 17) hx hb hts (fun _ h => List.mem_cons_of_mem _ (List.mem_append_left _ (List.mem_append_right _ h))) tyX5 tyX5_ok nmX5 hown hK hP hD hS 0 rfl rfl 4 (by decide) (hts (.fieldLink RX5 23 "Seekwell$Node" "low" "I") (by decide +kernel)) (fun _ h9 => h9) rfl (by decide +kernel) rfl rfl (Nat.le_of_ble_eq_true rfl) dX5_init_26 (fun H locs hP hD hS => ?_)
  have hP : va_P (dC, dI) vwCl [(q0, .inr (8, [.int 0, .int 0, .int 1, .int 0, .int 0, .int 0, .null, .null, .null, .null, .null, .int 0, .int 0, .int 0, .int 0, .null, .null]))] H := hP
  have hD : va_D A [(q0, .inr (8, [.int 0, .int 0, .int 1, .int 0, .int 0, .int 0, .null, .null, .null, .null, .null, .int 0, .int 0, .int 0, .int 0, .null, .null]))] := hD
  refine lv_aload_n hx hb dX5_init_29 rfl (lv_at hl 0 rfl) ?_
  refine lv_iconst (v := 0) hx hb dX5_init_30 (by decide +kernel) ?_
  refine va_put (D := (dC, dI)) (ci := 8) (v := .int 0) (ty := .int) (C := RX5) (T := TX5) (N := 17) hx hb hts (fun _ h => List.mem_cons_of_mem _ (List.mem_append_left _ (List.mem_append_right _ h))) tyX5 tyX5_ok nmX5 hown hK hP hD hS 0 rfl rfl 5 (by decide) (hts (.fieldLink RX5 26 "Seekwell$Node" "high" "I") (by decide +kernel)) (fun _ h9 => h9) rfl (by decide +kernel) rfl rfl (Nat.le_of_ble_eq_true rfl) dX5_init_31 (fun H locs hP hD hS => ?_)
  have hP : va_P (dC, dI) vwCl [(q0, .inr (8, [.int 0, .int 0, .int 1, .int 0, .int 0, .int 0, .null, .null, .null, .null, .null, .int 0, .int 0, .int 0, .int 0, .null, .null]))] H := hP
  have hD : va_D A [(q0, .inr (8, [.int 0, .int 0, .int 1, .int 0, .int 0, .int 0, .null, .null, .null, .null, .null, .int 0, .int 0, .int 0, .int 0, .null, .null]))] := hD
  refine lv_aload_n hx hb dX5_init_34 rfl (lv_at hl 0 rfl) ?_
  refine va_new (D := (dC, dI)) (ci := 10) (fs := [.null, .int 0]) (C := RX7) (T := TX7) (N := 2) hx hb hts (fun _ h => List.mem_cons_of_mem _ (List.mem_append_right _ h)) tyX7 tyX7_ok hown (hts (.classLink RX5 29 RX7) (by decide +kernel)) (hts (.instantiable RX7 2) (by decide +kernel)) (hts (.initialized RX7) (by decide +kernel)) hK hP hD hS hA rfl (zfs (by decide)) (Nat.le_of_ble_eq_true rfl) (Nat.le_of_ble_eq_true rfl) dX5_init_35 (fun q1 H hP hD hS => ?_)
  have hP : va_P (dC, dI) vwCl [(q0, .inr (8, [.int 0, .int 0, .int 1, .int 0, .int 0, .int 0, .null, .null, .null, .null, .null, .int 0, .int 0, .int 0, .int 0, .null, .null])), (q1, .inr (10, [.null, .int 0]))] H := hP
  have hD : va_D A [(q0, .inr (8, [.int 0, .int 0, .int 1, .int 0, .int 0, .int 0, .null, .null, .null, .null, .null, .int 0, .int 0, .int 0, .int 0, .null, .null])), (q1, .inr (10, [.null, .int 0]))] := hD
  refine W.widen (k := 1) (n := 2) (Nat.le_of_ble_eq_true rfl) (Nat.le_of_ble_eq_true rfl) ?_
  refine lv_dup hx hb dX5_init_38 rfl ?_
  have hPc := hP.sub (ws' := [(q1, .inr (10, [.null, .int 0]))]) [1] rfl
  have hDc := hD.sub (ws' := [(q1, .inr (10, [.null, .int 0]))]) [1] (by decide) rfl
  have hKc := hK.sub (tys' := []) [] rfl
  have hFc := va_free (wc := [(q1, .inr (10, [.null, .int 0]))]) hD hS hA [1] rfl
  refine va_callv (va_runIN (As := []) (rest := [.ref q1, .ref q0]) ⟨hx, hb, hml, hown, hts⟩ (c_X7_init_2 l dC dI q1 H.size  ) ⟨va_cnB (host := "Seekwell") 0 hts gX5_init_X7_init_n31 rfl rfl rfl (hN.1 (RX5, 31, yX7_init, "Seekwell") (by decide +kernel)) (hts (.initialized RX7) (by decide +kernel)) (by decide +kernel) ⟨Nat.le_of_ble_eq_true rfl, Nat.le_of_ble_eq_true rfl⟩, rfl, hts (.instanceMethod yX7_init) (by decide +kernel)⟩ ⟨zB_blind, (zPre hPc hDc hKc hS hFc hZ hN)⟩ rfl rfl hl.1 rfl (lv_room (Nat.le_of_ble_eq_true rfl)) dX5_init_39 ⟨Nat.le_of_ble_eq_true rfl, Nat.le_of_ble_eq_true rfl⟩) hS (fun q _ h => hFc q h) hFc (fun u t H1 locs ht hvm hw hB hz1 hk1 hS => ?_)
  obtain ⟨hP1, hK1, hD1⟩ := hB
  rw [ht] at hP1
  have hK1 := va_K.moved hvm.symm hK1
  obtain ⟨hP, hD⟩ := va_join (wr := [(q0, .inr (8, [.int 0, .int 0, .int 1, .int 0, .int 0, .int 0, .null, .null, .null, .null, .null, .int 0, .int 0, .int 0, .int 0, .null, .null]))]) (w1 := []) hP hD [1] [0] rfl rfl (by decide) (by decide) hk1 hFc hP1 hD1
  have hK := (hK.sub (tys' := []) [] rfl).app hK1
  generalize H1 = H at hP hS ⊢
  have hP : va_P (dC, dI) vwCl [(q0, .inr (8, [.int 0, .int 0, .int 1, .int 0, .int 0, .int 0, .null, .null, .null, .null, .null, .int 0, .int 0, .int 0, .int 0, .null, .null]))] H := hP
  have hD : va_D A [(q0, .inr (8, [.int 0, .int 0, .int 1, .int 0, .int 0, .int 0, .null, .null, .null, .null, .null, .int 0, .int 0, .int 0, .int 0, .null, .null]))] := hD
  have hK : va_K (dC, dI) vwCl [] s := hK
  refine W.widen (k := 2) (n := 6) (Nat.le_of_ble_eq_true rfl) (Nat.le_of_ble_eq_true rfl) ?_
  refine va_putF (D := (dC, dI)) (ci := 8) (v := .ref q1) (ty := (.object "Seekwell$Row")) (C := RX5) (T := TX5) (N := 17) hx hb hts (fun _ h => List.mem_cons_of_mem _ (List.mem_append_left _ (List.mem_append_right _ h))) tyX5 tyX5_ok nmX5 hown hK hP hD hS 0 rfl rfl 6 (by decide) (hts (.fieldLink RX5 32 "Seekwell$Node" "row" "LSeekwell$Row;") (by decide +kernel)) (fun _ h9 => h9) rfl hin rfl (by decide +kernel) rfl rfl (Nat.le_of_ble_eq_true rfl) dX5_init_42 (fun H locs hP hD hS => ?_)
  have hP : va_P (dC, dI) vwCl [(q0, .inr (8, [.int 0, .int 0, .int 1, .int 0, .int 0, .int 0, .ref q1, .null, .null, .null, .null, .int 0, .int 0, .int 0, .int 0, .null, .null]))] H := hP
  have hD : va_D A [(q0, .inr (8, [.int 0, .int 0, .int 1, .int 0, .int 0, .int 0, .ref q1, .null, .null, .null, .null, .int 0, .int 0, .int 0, .int 0, .null, .null]))] := hD
  refine lv_aload_n hx hb dX5_init_45 rfl (lv_at hl 0 rfl) ?_
  refine lv_null hx hb dX5_init_46 ?_
  refine va_put (D := (dC, dI)) (ci := 8) (v := .null) (ty := (.object "Seekwell$Node")) (C := RX5) (T := TX5) (N := 17) hx hb hts (fun _ h => List.mem_cons_of_mem _ (List.mem_append_left _ (List.mem_append_right _ h))) tyX5 tyX5_ok nmX5 hown hK hP hD hS 0 rfl rfl 7 (by decide) (hts (.fieldLink RX5 36 "Seekwell$Node" "parent" "LSeekwell$Node;") (by decide +kernel)) (fun _ h9 => h9) rfl (by decide +kernel) rfl rfl (Nat.le_of_ble_eq_true rfl) dX5_init_47 (fun H locs hP hD hS => ?_)
  have hP : va_P (dC, dI) vwCl [(q0, .inr (8, [.int 0, .int 0, .int 1, .int 0, .int 0, .int 0, .ref q1, .null, .null, .null, .null, .int 0, .int 0, .int 0, .int 0, .null, .null]))] H := hP
  have hD : va_D A [(q0, .inr (8, [.int 0, .int 0, .int 1, .int 0, .int 0, .int 0, .ref q1, .null, .null, .null, .null, .int 0, .int 0, .int 0, .int 0, .null, .null]))] := hD
  refine lv_aload_n hx hb dX5_init_50 rfl (lv_at hl 0 rfl) ?_
  refine lv_null hx hb dX5_init_51 ?_
  refine va_put (D := (dC, dI)) (ci := 8) (v := .null) (ty := (.object "Seekwell$Node")) (C := RX5) (T := TX5) (N := 17) hx hb hts (fun _ h => List.mem_cons_of_mem _ (List.mem_append_left _ (List.mem_append_right _ h))) tyX5 tyX5_ok nmX5 hown hK hP hD hS 0 rfl rfl 8 (by decide) (hts (.fieldLink RX5 40 "Seekwell$Node" "next" "LSeekwell$Node;") (by decide +kernel)) (fun _ h9 => h9) rfl (by decide +kernel) rfl rfl (Nat.le_of_ble_eq_true rfl) dX5_init_52 (fun H locs hP hD hS => ?_)
  have hP : va_P (dC, dI) vwCl [(q0, .inr (8, [.int 0, .int 0, .int 1, .int 0, .int 0, .int 0, .ref q1, .null, .null, .null, .null, .int 0, .int 0, .int 0, .int 0, .null, .null]))] H := hP
  have hD : va_D A [(q0, .inr (8, [.int 0, .int 0, .int 1, .int 0, .int 0, .int 0, .ref q1, .null, .null, .null, .null, .int 0, .int 0, .int 0, .int 0, .null, .null]))] := hD
  refine lv_aload_n hx hb dX5_init_55 rfl (lv_at hl 0 rfl) ?_
  refine lv_null hx hb dX5_init_56 ?_
  refine va_put (D := (dC, dI)) (ci := 8) (v := .null) (ty := (.object "Seekwell$Node")) (C := RX5) (T := TX5) (N := 17) hx hb hts (fun _ h => List.mem_cons_of_mem _ (List.mem_append_left _ (List.mem_append_right _ h))) tyX5 tyX5_ok nmX5 hown hK hP hD hS 0 rfl rfl 9 (by decide) (hts (.fieldLink RX5 43 "Seekwell$Node" "first" "LSeekwell$Node;") (by decide +kernel)) (fun _ h9 => h9) rfl (by decide +kernel) rfl rfl (Nat.le_of_ble_eq_true rfl) dX5_init_57 (fun H locs hP hD hS => ?_)
  have hP : va_P (dC, dI) vwCl [(q0, .inr (8, [.int 0, .int 0, .int 1, .int 0, .int 0, .int 0, .ref q1, .null, .null, .null, .null, .int 0, .int 0, .int 0, .int 0, .null, .null]))] H := hP
  have hD : va_D A [(q0, .inr (8, [.int 0, .int 0, .int 1, .int 0, .int 0, .int 0, .ref q1, .null, .null, .null, .null, .int 0, .int 0, .int 0, .int 0, .null, .null]))] := hD
  refine lv_aload_n hx hb dX5_init_60 rfl (lv_at hl 0 rfl) ?_
  refine lv_null hx hb dX5_init_61 ?_
  refine va_put (D := (dC, dI)) (ci := 8) (v := .null) (ty := (.object "Seekwell$Node")) (C := RX5) (T := TX5) (N := 17) hx hb hts (fun _ h => List.mem_cons_of_mem _ (List.mem_append_left _ (List.mem_append_right _ h))) tyX5 tyX5_ok nmX5 hown hK hP hD hS 0 rfl rfl 10 (by decide) (hts (.fieldLink RX5 46 "Seekwell$Node" "last" "LSeekwell$Node;") (by decide +kernel)) (fun _ h9 => h9) rfl (by decide +kernel) rfl rfl (Nat.le_of_ble_eq_true rfl) dX5_init_62 (fun H locs hP hD hS => ?_)
  have hP : va_P (dC, dI) vwCl [(q0, .inr (8, [.int 0, .int 0, .int 1, .int 0, .int 0, .int 0, .ref q1, .null, .null, .null, .null, .int 0, .int 0, .int 0, .int 0, .null, .null]))] H := hP
  have hD : va_D A [(q0, .inr (8, [.int 0, .int 0, .int 1, .int 0, .int 0, .int 0, .ref q1, .null, .null, .null, .null, .int 0, .int 0, .int 0, .int 0, .null, .null]))] := hD
  refine lv_aload_n hx hb dX5_init_65 rfl (lv_at hl 0 rfl) ?_
  refine lv_iconst (v := 0) hx hb dX5_init_66 (by decide +kernel) ?_
  refine va_put (D := (dC, dI)) (ci := 8) (v := .int 0) (ty := .int) (C := RX5) (T := TX5) (N := 17) hx hb hts (fun _ h => List.mem_cons_of_mem _ (List.mem_append_left _ (List.mem_append_right _ h))) tyX5 tyX5_ok nmX5 hown hK hP hD hS 0 rfl rfl 11 (by decide) (hts (.fieldLink RX5 49 "Seekwell$Node" "size" "I") (by decide +kernel)) (fun _ h9 => h9) rfl (by decide +kernel) rfl rfl (Nat.le_of_ble_eq_true rfl) dX5_init_67 (fun H locs hP hD hS => ?_)
  have hP : va_P (dC, dI) vwCl [(q0, .inr (8, [.int 0, .int 0, .int 1, .int 0, .int 0, .int 0, .ref q1, .null, .null, .null, .null, .int 0, .int 0, .int 0, .int 0, .null, .null]))] H := hP
  have hD : va_D A [(q0, .inr (8, [.int 0, .int 0, .int 1, .int 0, .int 0, .int 0, .ref q1, .null, .null, .null, .null, .int 0, .int 0, .int 0, .int 0, .null, .null]))] := hD
  refine lv_aload_n hx hb dX5_init_70 rfl (lv_at hl 0 rfl) ?_
  refine lv_iconst (v := 0) hx hb dX5_init_71 (by decide +kernel) ?_
  refine va_put (D := (dC, dI)) (ci := 8) (v := .int 0) (ty := .boolean) (C := RX5) (T := TX5) (N := 17) hx hb hts (fun _ h => List.mem_cons_of_mem _ (List.mem_append_left _ (List.mem_append_right _ h))) tyX5 tyX5_ok nmX5 hown hK hP hD hS 0 rfl rfl 12 (by decide) (hts (.fieldLink RX5 52 "Seekwell$Node" "isFit" "Z") (by decide +kernel)) (fun _ h9 => h9) rfl (by decide +kernel) rfl rfl (Nat.le_of_ble_eq_true rfl) dX5_init_72 (fun H locs hP hD hS => ?_)
  have hP : va_P (dC, dI) vwCl [(q0, .inr (8, [.int 0, .int 0, .int 1, .int 0, .int 0, .int 0, .ref q1, .null, .null, .null, .null, .int 0, .int 0, .int 0, .int 0, .null, .null]))] H := hP
  have hD : va_D A [(q0, .inr (8, [.int 0, .int 0, .int 1, .int 0, .int 0, .int 0, .ref q1, .null, .null, .null, .null, .int 0, .int 0, .int 0, .int 0, .null, .null]))] := hD
  refine lv_aload_n hx hb dX5_init_75 rfl (lv_at hl 0 rfl) ?_
  refine lv_iconst (v := 0) hx hb dX5_init_76 (by decide +kernel) ?_
  refine va_put (D := (dC, dI)) (ci := 8) (v := .int 0) (ty := .boolean) (C := RX5) (T := TX5) (N := 17) hx hb hts (fun _ h => List.mem_cons_of_mem _ (List.mem_append_left _ (List.mem_append_right _ h))) tyX5 tyX5_ok nmX5 hown hK hP hD hS 0 rfl rfl 13 (by decide) (hts (.fieldLink RX5 55 "Seekwell$Node" "isGone" "Z") (by decide +kernel)) (fun _ h9 => h9) rfl (by decide +kernel) rfl rfl (Nat.le_of_ble_eq_true rfl) dX5_init_77 (fun H locs hP hD hS => ?_)
  have hP : va_P (dC, dI) vwCl [(q0, .inr (8, [.int 0, .int 0, .int 1, .int 0, .int 0, .int 0, .ref q1, .null, .null, .null, .null, .int 0, .int 0, .int 0, .int 0, .null, .null]))] H := hP
  have hD : va_D A [(q0, .inr (8, [.int 0, .int 0, .int 1, .int 0, .int 0, .int 0, .ref q1, .null, .null, .null, .null, .int 0, .int 0, .int 0, .int 0, .null, .null]))] := hD
  refine lv_aload_n hx hb dX5_init_80 rfl (lv_at hl 0 rfl) ?_
  refine lv_iconst (v := 0) hx hb dX5_init_81 (by decide +kernel) ?_
  refine va_put (D := (dC, dI)) (ci := 8) (v := .int 0) (ty := .int) (C := RX5) (T := TX5) (N := 17) hx hb hts (fun _ h => List.mem_cons_of_mem _ (List.mem_append_left _ (List.mem_append_right _ h))) tyX5 tyX5_ok nmX5 hown hK hP hD hS 0 rfl rfl 14 (by decide) (hts (.fieldLink RX5 58 "Seekwell$Node" "fitting" "I") (by decide +kernel)) (fun _ h9 => h9) rfl (by decide +kernel) rfl rfl (Nat.le_of_ble_eq_true rfl) dX5_init_82 (fun H locs hP hD hS => ?_)
  have hP : va_P (dC, dI) vwCl [(q0, .inr (8, [.int 0, .int 0, .int 1, .int 0, .int 0, .int 0, .ref q1, .null, .null, .null, .null, .int 0, .int 0, .int 0, .int 0, .null, .null]))] H := hP
  have hD : va_D A [(q0, .inr (8, [.int 0, .int 0, .int 1, .int 0, .int 0, .int 0, .ref q1, .null, .null, .null, .null, .int 0, .int 0, .int 0, .int 0, .null, .null]))] := hD
  refine lv_aload_n hx hb dX5_init_85 rfl (lv_at hl 0 rfl) ?_
  refine lv_null hx hb dX5_init_86 ?_
  refine va_put (D := (dC, dI)) (ci := 8) (v := .null) (ty := (.object "Seekwell$Node")) (C := RX5) (T := TX5) (N := 17) hx hb hts (fun _ h => List.mem_cons_of_mem _ (List.mem_append_left _ (List.mem_append_right _ h))) tyX5 tyX5_ok nmX5 hown hK hP hD hS 0 rfl rfl 15 (by decide) (hts (.fieldLink RX5 61 "Seekwell$Node" "copy" "LSeekwell$Node;") (by decide +kernel)) (fun _ h9 => h9) rfl (by decide +kernel) rfl rfl (Nat.le_of_ble_eq_true rfl) dX5_init_87 (fun H locs hP hD hS => ?_)
  have hP : va_P (dC, dI) vwCl [(q0, .inr (8, [.int 0, .int 0, .int 1, .int 0, .int 0, .int 0, .ref q1, .null, .null, .null, .null, .int 0, .int 0, .int 0, .int 0, .null, .null]))] H := hP
  have hD : va_D A [(q0, .inr (8, [.int 0, .int 0, .int 1, .int 0, .int 0, .int 0, .ref q1, .null, .null, .null, .null, .int 0, .int 0, .int 0, .int 0, .null, .null]))] := hD
  refine lv_aload_n hx hb dX5_init_90 rfl (lv_at hl 0 rfl) ?_
  refine lv_null hx hb dX5_init_91 ?_
  refine va_put (D := (dC, dI)) (ci := 8) (v := .null) (ty := (.object "Seekwell$Node")) (C := RX5) (T := TX5) (N := 17) hx hb hts (fun _ h => List.mem_cons_of_mem _ (List.mem_append_left _ (List.mem_append_right _ h))) tyX5 tyX5_ok nmX5 hown hK hP hD hS 0 rfl rfl 16 (by decide) (hts (.fieldLink RX5 64 "Seekwell$Node" "later" "LSeekwell$Node;") (by decide +kernel)) (fun _ h9 => h9) rfl (by decide +kernel) rfl rfl (Nat.le_of_ble_eq_true rfl) dX5_init_92 (fun H locs hP hD hS => ?_)
  have hP : va_P (dC, dI) vwCl [(q0, .inr (8, [.int 0, .int 0, .int 1, .int 0, .int 0, .int 0, .ref q1, .null, .null, .null, .null, .int 0, .int 0, .int 0, .int 0, .null, .null]))] H := hP
  have hD : va_D A [(q0, .inr (8, [.int 0, .int 0, .int 1, .int 0, .int 0, .int 0, .ref q1, .null, .null, .null, .null, .int 0, .int 0, .int 0, .int 0, .null, .null]))] := hD
  have hP9 := hP.sub (ws' := [(q0, .inr (8, [.int 0, .int 0, .int 1, .int 0, .int 0, .int 0, .ref q1, .null, .null, .null, .null, .int 0, .int 0, .int 0, .int 0, .null, .null]))]) [0] rfl
  have hD9 := hD.sub (ws' := [(q0, .inr (8, [.int 0, .int 0, .int 1, .int 0, .int 0, .int 0, .ref q1, .null, .null, .null, .null, .int 0, .int 0, .int 0, .int 0, .null, .null]))]) [0] (by decide) rfl
  have hK9 := hK.sub (tys' := []) [] rfl
  exact W.vret hx hb hr (fun t ht hW => ⟨⟨(), rfl, trivial, q1, ⟨by rw [ht]; exact hP9, va_K.moved hW.alike hK9, hD9⟩⟩, hS.F ht⟩) hS.2.2 dX5_init_95
set_option maxHeartbeats 4000000 in
set_option maxRecDepth 100000 in
theorem c_X6_init_2 (l : Launch) (dC : Nat → ClassId) (dI : Nat → Nat → Nat) (q0 : Nat) (sz : Nat) : Met l yX6_init wsX6_init ({ frames := 3, cells := 3, slots := 23, locals := 60 }) (va_Pc [.ref q0] (zB (dC, dI) [] [(q0, .inr (9, [.null, .null, .null]))] sz)) (va_Qv (fun (_ : Unit) => True) (fun _ t => ∃ q1 : Nat, ∃ q2 : Nat, zE (dC, dI) [] [(q0, .inr (9, [.ref q1, .ref q1, .null])), (q1, .inr (8, [.int 0, .int 0, .int 1, .int 0, .int 0, .int 0, .ref q2, .null, .null, .null, .null, .int 0, .int 0, .int 0, .int 0, .null, .null]))] (va_A [(q0, .inr (9, [.null, .null, .null]))] sz) t) (va_A [(q0, .inr (9, [.null, .null, .null]))] sz)) 3 23 (va_A [(q0, .inr (9, [.null, .null, .null]))] sz) := by
  refine Met.ofW (cc := cX6_init) (maxL := 1) (ret := none) (by decide) rfl ?_
  intro p e s m args below meth c s₁ B hml hv
  obtain ⟨rfl, hsz, hP, hK, hD0, hZ, hN⟩ := hv
  have hx := B.exec
  have hb := B.bytes
  have hr := B.returns
  have hts := atoms_spec (ws := wsX6_init) B.pre
  have hown : s.vm.findClass RX6 = some m.cls := findClass_of_methodNamed B.named
  have hlocks := B.notSynchronized
  have hin : meth.name = "<init>" := (name_of_methodNamed B.named B.method).1
  subst hsz
  have hD := hD0.self (sz := s.heap.size)
  generalize hAe : va_A [(q0, .inr (9, [.null, .null, .null]))] s.heap.size = A at hD hZ ⊢
  have hA : ∀ q : Nat, s.heap.size ≤ q → A q := fun q h => by rw [← hAe]; exact Or.inr h
  have hS : va_S A s.heap s.heap [] := va_S.rf
  have hP : va_P (dC, dI) vwCl [(q0, .inr (9, [.null, .null, .null]))] s.heap := hP
  have hl := lv_entry ([.ref q0]) (n := 1) (Nat.le_of_ble_eq_true rfl)
  rw [lg_entry_eq]
  generalize (lg_sl ([.ref q0]) ++ List.replicate (1 - (lg_sl ([.ref q0])).length) Slot.unset).toArray = ls at hl ⊢
  have hl : lv_has ls 1 [(0, .ref q0)] := hl
  refine lv_aload_n hx hb dX6_init_0 rfl (lv_at hl 0 rfl) ?_
  refine z_objInit hx hb hown (hts (.methodLink RX6 1 objectInit) (by decide +kernel)) (hts (.instanceMethod objectInit) (by decide +kernel)) (hts (.code objectInit ⟨#[0xb1]⟩ 1 none) (by decide +kernel)) (hl.1.trans hml.symm) dX6_init_1 (Nat.le_of_ble_eq_true rfl) (Nat.le_of_ble_eq_true rfl) ?_
  refine lv_aload_n hx hb dX6_init_4 rfl (lv_at hl 0 rfl) ?_
  refine va_new (D := (dC, dI)) (ci := 8) (fs := [.int 0, .int 0, .int 0, .int 0, .int 0, .int 0, .null, .null, .null, .null, .null, .int 0, .int 0, .int 0, .int 0, .null, .null]) (C := RX5) (T := TX5) (N := 17) hx hb hts (fun _ h => List.mem_cons_of_mem _ (List.mem_append_left _ (List.mem_append_left _ (List.mem_append_right _ h)))) tyX5 tyX5_ok hown (hts (.classLink RX6 7 RX5) (by decide +kernel)) (hts (.instantiable RX5 17) (by decide +kernel)) (hts (.initialized RX5) (by decide +kernel)) hK hP hD hS hA rfl (zfs (by decide)) (Nat.le_of_ble_eq_true rfl) (Nat.le_of_ble_eq_true rfl) dX6_init_5 (fun q1 H hP hD hS => ?_)
  have hP : va_P (dC, dI) vwCl [(q0, .inr (9, [.null, .null, .null])), (q1, .inr (8, [.int 0, .int 0, .int 0, .int 0, .int 0, .int 0, .null, .null, .null, .null, .null, .int 0, .int 0, .int 0, .int 0, .null, .null]))] H := hP
  have hD : va_D A [(q0, .inr (9, [.null, .null, .null])), (q1, .inr (8, [.int 0, .int 0, .int 0, .int 0, .int 0, .int 0, .null, .null, .null, .null, .null, .int 0, .int 0, .int 0, .int 0, .null, .null]))] := hD
  refine W.widen (k := 1) (n := 17) (Nat.le_of_ble_eq_true rfl) (Nat.le_of_ble_eq_true rfl) ?_
  refine lv_dup hx hb dX6_init_8 rfl ?_
  have hPc := hP.sub (ws' := [(q1, .inr (8, [.int 0, .int 0, .int 0, .int 0, .int 0, .int 0, .null, .null, .null, .null, .null, .int 0, .int 0, .int 0, .int 0, .null, .null]))]) [1] rfl
  have hDc := hD.sub (ws' := [(q1, .inr (8, [.int 0, .int 0, .int 0, .int 0, .int 0, .int 0, .null, .null, .null, .null, .null, .int 0, .int 0, .int 0, .int 0, .null, .null]))]) [1] (by decide) rfl
  have hKc := hK.sub (tys' := []) [] rfl
  have hFc := va_free (wc := [(q1, .inr (8, [.int 0, .int 0, .int 0, .int 0, .int 0, .int 0, .null, .null, .null, .null, .null, .int 0, .int 0, .int 0, .int 0, .null, .null]))]) hD hS hA [1] rfl
  refine va_callv (va_runIN (As := []) (rest := [.ref q1, .ref q0]) ⟨hx, hb, hml, hown, hts⟩ (c_X5_init_2 l dC dI q1 H.size  ) ⟨va_cnB (host := "Seekwell") 0 hts gX6_init_X5_init_n9 rfl rfl rfl (hN.1 (RX6, 9, yX5_init, "Seekwell") (by decide +kernel)) (hts (.initialized RX5) (by decide +kernel)) (by decide +kernel) ⟨Nat.le_of_ble_eq_true rfl, Nat.le_of_ble_eq_true rfl⟩, rfl, hts (.instanceMethod yX5_init) (by decide +kernel)⟩ ⟨zB_blind, (zPre hPc hDc hKc hS hFc hZ hN)⟩ rfl rfl hl.1 rfl (lv_room (Nat.le_of_ble_eq_true rfl)) dX6_init_9 ⟨Nat.le_of_ble_eq_true rfl, Nat.le_of_ble_eq_true rfl⟩) hS (fun q _ h => hFc q h) hFc (fun u t H1 locs ht hvm hw hB hz1 hk1 hS => ?_)
  obtain ⟨q2, hP1, hK1, hD1⟩ := hB
  rw [ht] at hP1
  have hK1 := va_K.moved hvm.symm hK1
  obtain ⟨hP, hD⟩ := va_join (wr := [(q0, .inr (9, [.null, .null, .null]))]) (w1 := [(q1, .inr (8, [.int 0, .int 0, .int 1, .int 0, .int 0, .int 0, .ref q2, .null, .null, .null, .null, .int 0, .int 0, .int 0, .int 0, .null, .null]))]) hP hD [1] [0] rfl rfl (by decide) (by decide) hk1 hFc hP1 hD1
  have hK := (hK.sub (tys' := []) [] rfl).app hK1
  generalize H1 = H at hP hS ⊢
  have hP : va_P (dC, dI) vwCl [(q0, .inr (9, [.null, .null, .null])), (q1, .inr (8, [.int 0, .int 0, .int 1, .int 0, .int 0, .int 0, .ref q2, .null, .null, .null, .null, .int 0, .int 0, .int 0, .int 0, .null, .null]))] H := hP
  have hD : va_D A [(q0, .inr (9, [.null, .null, .null])), (q1, .inr (8, [.int 0, .int 0, .int 1, .int 0, .int 0, .int 0, .ref q2, .null, .null, .null, .null, .int 0, .int 0, .int 0, .int 0, .null, .null]))] := hD
  have hK : va_K (dC, dI) vwCl [] s := hK
  refine W.widen (k := 3) (n := 23) (Nat.le_of_ble_eq_true rfl) (Nat.le_of_ble_eq_true rfl) ?_
  refine va_putF (D := (dC, dI)) (ci := 9) (v := .ref q1) (ty := (.object "Seekwell$Node")) (C := RX6) (T := TX6) (N := 3) hx hb hts (fun _ h => List.mem_cons_of_mem _ (List.mem_append_left _ (List.mem_append_right _ h))) tyX6 tyX6_ok nmX6 hown hK hP hD hS 0 rfl rfl 0 (by decide) (hts (.fieldLink RX6 10 "Seekwell$Question" "pool" "LSeekwell$Node;") (by decide +kernel)) (fun _ h9 => h9) rfl hin rfl (by decide +kernel) rfl rfl (Nat.le_of_ble_eq_true rfl) dX6_init_12 (fun H locs hP hD hS => ?_)
  have hP : va_P (dC, dI) vwCl [(q0, .inr (9, [.ref q1, .null, .null])), (q1, .inr (8, [.int 0, .int 0, .int 1, .int 0, .int 0, .int 0, .ref q2, .null, .null, .null, .null, .int 0, .int 0, .int 0, .int 0, .null, .null]))] H := hP
  have hD : va_D A [(q0, .inr (9, [.ref q1, .null, .null])), (q1, .inr (8, [.int 0, .int 0, .int 1, .int 0, .int 0, .int 0, .ref q2, .null, .null, .null, .null, .int 0, .int 0, .int 0, .int 0, .null, .null]))] := hD
  refine lv_aload_n hx hb dX6_init_15 rfl (lv_at hl 0 rfl) ?_
  refine lv_aload_n hx hb dX6_init_16 rfl (lv_at hl 0 rfl) ?_
  refine va_get (D := (dC, dI)) (ci := 9) (v := .ref q1) (C := RX6) (T := TX6) (N := 3) hx hb hts (fun _ h => List.mem_cons_of_mem _ (List.mem_append_left _ (List.mem_append_right _ h))) hown hK hP 0 rfl rfl 0 (by decide) (hts (.fieldLink RX6 10 "Seekwell$Question" "pool" "LSeekwell$Node;") (by decide +kernel)) (fun _ h9 => h9) rfl dX6_init_17 ?_
  refine va_put (D := (dC, dI)) (ci := 9) (v := .ref q1) (ty := (.object "Seekwell$Node")) (C := RX6) (T := TX6) (N := 3) hx hb hts (fun _ h => List.mem_cons_of_mem _ (List.mem_append_left _ (List.mem_append_right _ h))) tyX6 tyX6_ok nmX6 hown hK hP hD hS 0 rfl rfl 1 (by decide) (hts (.fieldLink RX6 16 "Seekwell$Question" "newest" "LSeekwell$Node;") (by decide +kernel)) (fun _ h9 => h9) rfl (by decide +kernel) rfl rfl (Nat.le_of_ble_eq_true rfl) dX6_init_20 (fun H locs hP hD hS => ?_)
  have hP : va_P (dC, dI) vwCl [(q0, .inr (9, [.ref q1, .ref q1, .null])), (q1, .inr (8, [.int 0, .int 0, .int 1, .int 0, .int 0, .int 0, .ref q2, .null, .null, .null, .null, .int 0, .int 0, .int 0, .int 0, .null, .null]))] H := hP
  have hD : va_D A [(q0, .inr (9, [.ref q1, .ref q1, .null])), (q1, .inr (8, [.int 0, .int 0, .int 1, .int 0, .int 0, .int 0, .ref q2, .null, .null, .null, .null, .int 0, .int 0, .int 0, .int 0, .null, .null]))] := hD
  refine lv_aload_n hx hb dX6_init_23 rfl (lv_at hl 0 rfl) ?_
  refine lv_null hx hb dX6_init_24 ?_
  refine va_put (D := (dC, dI)) (ci := 9) (v := .null) (ty := (.object "Seekwell$Node")) (C := RX6) (T := TX6) (N := 3) hx hb hts (fun _ h => List.mem_cons_of_mem _ (List.mem_append_left _ (List.mem_append_right _ h))) tyX6 tyX6_ok nmX6 hown hK hP hD hS 0 rfl rfl 2 (by decide) (hts (.fieldLink RX6 19 "Seekwell$Question" "root" "LSeekwell$Node;") (by decide +kernel)) (fun _ h9 => h9) rfl (by decide +kernel) rfl rfl (Nat.le_of_ble_eq_true rfl) dX6_init_25 (fun H locs hP hD hS => ?_)
  have hP : va_P (dC, dI) vwCl [(q0, .inr (9, [.ref q1, .ref q1, .null])), (q1, .inr (8, [.int 0, .int 0, .int 1, .int 0, .int 0, .int 0, .ref q2, .null, .null, .null, .null, .int 0, .int 0, .int 0, .int 0, .null, .null]))] H := hP
  have hD : va_D A [(q0, .inr (9, [.ref q1, .ref q1, .null])), (q1, .inr (8, [.int 0, .int 0, .int 1, .int 0, .int 0, .int 0, .ref q2, .null, .null, .null, .null, .int 0, .int 0, .int 0, .int 0, .null, .null]))] := hD
  have hP9 := hP.sub (ws' := [(q0, .inr (9, [.ref q1, .ref q1, .null])), (q1, .inr (8, [.int 0, .int 0, .int 1, .int 0, .int 0, .int 0, .ref q2, .null, .null, .null, .null, .int 0, .int 0, .int 0, .int 0, .null, .null]))]) [0, 1] rfl
  have hD9 := hD.sub (ws' := [(q0, .inr (9, [.ref q1, .ref q1, .null])), (q1, .inr (8, [.int 0, .int 0, .int 1, .int 0, .int 0, .int 0, .ref q2, .null, .null, .null, .null, .int 0, .int 0, .int 0, .int 0, .null, .null]))]) [0, 1] (by decide) rfl
  have hK9 := hK.sub (tys' := []) [] rfl
  exact W.vret hx hb hr (fun t ht hW => ⟨⟨(), rfl, trivial, q1, q2, ⟨by rw [ht]; exact hP9, va_K.moved hW.alike hK9, hD9⟩⟩, hS.F ht⟩) hS.2.2 dX6_init_28
set_option maxHeartbeats 4000000 in
set_option maxRecDepth 100000 in
theorem c_X0_init (l : Launch) (dC : Nat → ClassId) (dI : Nat → Nat → Nat) (q0 : Nat) (sz : Nat) : Met l yX0_init wsX0_init ({ frames := 1, cells := 0, slots := 0, locals := 20 }) (va_Pc [.ref q0] (zB (dC, dI) [] [(q0, .inr (3, [.null, .null, .int 0, .int 0, .null]))] sz)) (va_Qv (fun (_ : Unit) => True) (fun _ t => zE (dC, dI) [] [(q0, .inr (3, [.null, .null, .int 0, .int 0, .null]))] (va_A [(q0, .inr (3, [.null, .null, .int 0, .int 0, .null]))] sz) t) (va_A [(q0, .inr (3, [.null, .null, .int 0, .int 0, .null]))] sz)) 0 0 (va_A [(q0, .inr (3, [.null, .null, .int 0, .int 0, .null]))] sz) := by
  refine Met.ofW (cc := cX0_init) (maxL := 1) (ret := none) (by decide) rfl ?_
  intro p e s m args below meth c s₁ B hml hv
  obtain ⟨rfl, hsz, hP, hK, hD0, hZ, hN⟩ := hv
  have hx := B.exec
  have hb := B.bytes
  have hr := B.returns
  have hts := atoms_spec (ws := wsX0_init) B.pre
  have hown : s.vm.findClass RX0 = some m.cls := findClass_of_methodNamed B.named
  have hlocks := B.notSynchronized
  have hin : meth.name = "<init>" := (name_of_methodNamed B.named B.method).1
  subst hsz
  have hD := hD0.self (sz := s.heap.size)
  generalize hAe : va_A [(q0, .inr (3, [.null, .null, .int 0, .int 0, .null]))] s.heap.size = A at hD hZ ⊢
  have hA : ∀ q : Nat, s.heap.size ≤ q → A q := fun q h => by rw [← hAe]; exact Or.inr h
  have hS : va_S A s.heap s.heap [] := va_S.rf
  have hP : va_P (dC, dI) vwCl [(q0, .inr (3, [.null, .null, .int 0, .int 0, .null]))] s.heap := hP
  have hl := lv_entry ([.ref q0]) (n := 1) (Nat.le_of_ble_eq_true rfl)
  rw [lg_entry_eq]
  generalize (lg_sl ([.ref q0]) ++ List.replicate (1 - (lg_sl ([.ref q0])).length) Slot.unset).toArray = ls at hl ⊢
  have hl : lv_has ls 1 [(0, .ref q0)] := hl
  refine lv_aload_n hx hb dX0_init_0 rfl (lv_at hl 0 rfl) ?_
  refine z_objInit hx hb hown (hts (.methodLink RX0 3 objectInit) (by decide +kernel)) (hts (.instanceMethod objectInit) (by decide +kernel)) (hts (.code objectInit ⟨#[0xb1]⟩ 1 none) (by decide +kernel)) (hl.1.trans hml.symm) dX0_init_1 (Nat.le_of_ble_eq_true rfl) (Nat.le_of_ble_eq_true rfl) ?_
  refine lv_aload_n hx hb dX0_init_4 rfl (lv_at hl 0 rfl) ?_
  refine lv_null hx hb dX0_init_5 ?_
  refine va_put (D := (dC, dI)) (ci := 3) (v := .null) (ty := (.object "Seekwell$Line")) (C := RX0) (T := TX0) (N := 5) hx hb hts (fun _ h => List.mem_cons_of_mem _ (List.mem_append_right _ h)) tyX0 tyX0_ok nmX0 hown hK hP hD hS 0 rfl rfl 0 (by decide) (hts (.fieldLink RX0 9 "Seekwell$Asker" "line" "LSeekwell$Line;") (by decide +kernel)) (fun _ h9 => h9) rfl (by decide +kernel) rfl rfl (Nat.le_of_ble_eq_true rfl) dX0_init_6 (fun H locs hP hD hS => ?_)
  have hP : va_P (dC, dI) vwCl [(q0, .inr (3, [.null, .null, .int 0, .int 0, .null]))] H := hP
  have hD : va_D A [(q0, .inr (3, [.null, .null, .int 0, .int 0, .null]))] := hD
  refine lv_aload_n hx hb dX0_init_9 rfl (lv_at hl 0 rfl) ?_
  refine lv_null hx hb dX0_init_10 ?_
  refine va_put (D := (dC, dI)) (ci := 3) (v := .null) (ty := (.object "Seekwell$Question")) (C := RX0) (T := TX0) (N := 5) hx hb hts (fun _ h => List.mem_cons_of_mem _ (List.mem_append_right _ h)) tyX0 tyX0_ok nmX0 hown hK hP hD hS 0 rfl rfl 1 (by decide) (hts (.fieldLink RX0 15 "Seekwell$Asker" "question" "LSeekwell$Question;") (by decide +kernel)) (fun _ h9 => h9) rfl (by decide +kernel) rfl rfl (Nat.le_of_ble_eq_true rfl) dX0_init_11 (fun H locs hP hD hS => ?_)
  have hP : va_P (dC, dI) vwCl [(q0, .inr (3, [.null, .null, .int 0, .int 0, .null]))] H := hP
  have hD : va_D A [(q0, .inr (3, [.null, .null, .int 0, .int 0, .null]))] := hD
  refine lv_aload_n hx hb dX0_init_14 rfl (lv_at hl 0 rfl) ?_
  refine lv_iconst (v := 0) hx hb dX0_init_15 (by decide +kernel) ?_
  refine va_put (D := (dC, dI)) (ci := 3) (v := .int 0) (ty := .int) (C := RX0) (T := TX0) (N := 5) hx hb hts (fun _ h => List.mem_cons_of_mem _ (List.mem_append_right _ h)) tyX0 tyX0_ok nmX0 hown hK hP hD hS 0 rfl rfl 2 (by decide) (hts (.fieldLink RX0 19 "Seekwell$Asker" "place" "I") (by decide +kernel)) (fun _ h9 => h9) rfl (by decide +kernel) rfl rfl (Nat.le_of_ble_eq_true rfl) dX0_init_16 (fun H locs hP hD hS => ?_)
  have hP : va_P (dC, dI) vwCl [(q0, .inr (3, [.null, .null, .int 0, .int 0, .null]))] H := hP
  have hD : va_D A [(q0, .inr (3, [.null, .null, .int 0, .int 0, .null]))] := hD
  refine lv_aload_n hx hb dX0_init_19 rfl (lv_at hl 0 rfl) ?_
  refine lv_iconst (v := 0) hx hb dX0_init_20 (by decide +kernel) ?_
  refine va_put (D := (dC, dI)) (ci := 3) (v := .int 0) (ty := .int) (C := RX0) (T := TX0) (N := 5) hx hb hts (fun _ h => List.mem_cons_of_mem _ (List.mem_append_right _ h)) tyX0 tyX0_ok nmX0 hown hK hP hD hS 0 rfl rfl 3 (by decide) (hts (.fieldLink RX0 23 "Seekwell$Asker" "depth" "I") (by decide +kernel)) (fun _ h9 => h9) rfl (by decide +kernel) rfl rfl (Nat.le_of_ble_eq_true rfl) dX0_init_21 (fun H locs hP hD hS => ?_)
  have hP : va_P (dC, dI) vwCl [(q0, .inr (3, [.null, .null, .int 0, .int 0, .null]))] H := hP
  have hD : va_D A [(q0, .inr (3, [.null, .null, .int 0, .int 0, .null]))] := hD
  refine lv_aload_n hx hb dX0_init_24 rfl (lv_at hl 0 rfl) ?_
  refine lv_null hx hb dX0_init_25 ?_
  refine va_put (D := (dC, dI)) (ci := 3) (v := .null) (ty := (.object "Seekwell$Node")) (C := RX0) (T := TX0) (N := 5) hx hb hts (fun _ h => List.mem_cons_of_mem _ (List.mem_append_right _ h)) tyX0 tyX0_ok nmX0 hown hK hP hD hS 0 rfl rfl 4 (by decide) (hts (.fieldLink RX0 26 "Seekwell$Asker" "terms" "LSeekwell$Node;") (by decide +kernel)) (fun _ h9 => h9) rfl (by decide +kernel) rfl rfl (Nat.le_of_ble_eq_true rfl) dX0_init_26 (fun H locs hP hD hS => ?_)
  have hP : va_P (dC, dI) vwCl [(q0, .inr (3, [.null, .null, .int 0, .int 0, .null]))] H := hP
  have hD : va_D A [(q0, .inr (3, [.null, .null, .int 0, .int 0, .null]))] := hD
  have hP9 := hP.sub (ws' := [(q0, .inr (3, [.null, .null, .int 0, .int 0, .null]))]) [0] rfl
  have hD9 := hD.sub (ws' := [(q0, .inr (3, [.null, .null, .int 0, .int 0, .null]))]) [0] (by decide) rfl
  have hK9 := hK.sub (tys' := []) [] rfl
  exact W.vret hx hb hr (fun t ht hW => ⟨⟨(), rfl, trivial, ⟨by rw [ht]; exact hP9, va_K.moved hW.alike hK9, hD9⟩⟩, hS.F ht⟩) hS.2.2 dX0_init_29
set_option maxHeartbeats 4000000 in
set_option maxRecDepth 100000 in
theorem c_X1_init (l : Launch) (dC : Nat → ClassId) (dI : Nat → Nat → Nat) (q0 : Nat) (sz : Nat) : Met l yX1_init wsX1_init ({ frames := 1, cells := 1, slots := 16, locals := 20 }) (va_Pc [.ref q0] (zB (dC, dI) [] [(q0, .inr (4, [.null]))] sz)) (va_Qv (fun (_ : Unit) => True) (fun _ t => zE (dC, dI) [] [] (va_A [(q0, .inr (4, [.null]))] sz) t) (va_A [(q0, .inr (4, [.null]))] sz)) 1 16 (va_A [(q0, .inr (4, [.null]))] sz) := by
  refine Met.ofW (cc := cX1_init) (maxL := 1) (ret := none) (by decide) rfl ?_
  intro p e s m args below meth c s₁ B hml hv
  obtain ⟨rfl, hsz, hP, hK, hD0, hZ, hN⟩ := hv
  have hx := B.exec
  have hb := B.bytes
  have hr := B.returns
  have hts := atoms_spec (ws := wsX1_init) B.pre
  have hown : s.vm.findClass RX1 = some m.cls := findClass_of_methodNamed B.named
  have hlocks := B.notSynchronized
  have hin : meth.name = "<init>" := (name_of_methodNamed B.named B.method).1
  subst hsz
  have hD := hD0.self (sz := s.heap.size)
  generalize hAe : va_A [(q0, .inr (4, [.null]))] s.heap.size = A at hD hZ ⊢
  have hA : ∀ q : Nat, s.heap.size ≤ q → A q := fun q h => by rw [← hAe]; exact Or.inr h
  have hS : va_S A s.heap s.heap [] := va_S.rf
  have hP : va_P (dC, dI) vwCl [(q0, .inr (4, [.null]))] s.heap := hP
  have hl := lv_entry ([.ref q0]) (n := 1) (Nat.le_of_ble_eq_true rfl)
  rw [lg_entry_eq]
  generalize (lg_sl ([.ref q0]) ++ List.replicate (1 - (lg_sl ([.ref q0])).length) Slot.unset).toArray = ls at hl ⊢
  have hl : lv_has ls 1 [(0, .ref q0)] := hl
  refine lv_aload_n hx hb dX1_init_0 rfl (lv_at hl 0 rfl) ?_
  refine z_objInit hx hb hown (hts (.methodLink RX1 1 objectInit) (by decide +kernel)) (hts (.instanceMethod objectInit) (by decide +kernel)) (hts (.code objectInit ⟨#[0xb1]⟩ 1 none) (by decide +kernel)) (hl.1.trans hml.symm) dX1_init_1 (Nat.le_of_ble_eq_true rfl) (Nat.le_of_ble_eq_true rfl) ?_
  refine lv_aload_n hx hb dX1_init_4 rfl (lv_at hl 0 rfl) ?_
  refine lv_bipush (v := 16) hx hb dX1_init_5 (by decide +kernel) ?_
  refine va_newa (D := (dC, dI)) (atype := .long) (ty := .long) (a0 := (16, .inr (.inl (fun _ => 0)))) (N' := 16) hx hb (hts (.arrayClass .long) (by decide +kernel)) rfl hK hP hD hS hA (fun _ => rfl) (by decide +kernel) (by decide +kernel) (Nat.le_of_ble_eq_true rfl) (Nat.le_of_ble_eq_true rfl) (Nat.le_of_ble_eq_true rfl) dX1_init_7 (fun q1 k0 H hK hP hD hS => ?_)
  have hP : va_P (dC, dI) vwCl [(q0, .inr (4, [.null])), (q1, .inl (k0, 16, .inr (.inl (fun _ => 0))))] H := hP
  have hD : va_D A [(q0, .inr (4, [.null])), (q1, .inl (k0, 16, .inr (.inl (fun _ => 0))))] := hD
  have hK : va_K (dC, dI) vwCl [(k0, .long)] s := hK
  refine W.widen (k := 1) (n := 16) (Nat.le_of_ble_eq_true rfl) (Nat.le_of_ble_eq_true rfl) ?_
  refine va_putF (D := (dC, dI)) (ci := 4) (v := .ref q1) (ty := (.array .long)) (C := RX1) (T := TX1) (N := 1) hx hb hts (fun _ h => List.mem_cons_of_mem _ (List.mem_append_right _ h)) tyX1 tyX1_ok nmX1 hown hK hP hD hS 0 rfl rfl 0 (by decide) (hts (.fieldLink RX1 9 "Seekwell$Big" "limbs" "[J") (by decide +kernel)) (fun _ h9 => h9) rfl hin rfl (by decide +kernel) rfl rfl (Nat.le_of_ble_eq_true rfl) dX1_init_9 (fun H locs hP hD hS => ?_)
  have hP : va_P (dC, dI) vwCl [(q0, .inr (4, [.ref q1])), (q1, .inl (k0, 16, .inr (.inl (fun _ => 0))))] H := hP
  have hD : va_D A [(q0, .inr (4, [.ref q1])), (q1, .inl (k0, 16, .inr (.inl (fun _ => 0))))] := hD
  have hP9 := hP.sub (ws' := []) [] rfl
  have hD9 := hD.sub (ws' := []) [] (by decide) rfl
  have hK9 := hK.sub (tys' := []) [] rfl
  exact W.vret hx hb hr (fun t ht hW => ⟨⟨(), rfl, trivial, ⟨by rw [ht]; exact hP9, va_K.moved hW.alike hK9, hD9⟩⟩, hS.F ht⟩) hS.2.2 dX1_init_12
set_option maxHeartbeats 4000000 in
set_option maxRecDepth 100000 in
theorem c_X1_init_2 (l : Launch) (dC : Nat → ClassId) (dI : Nat → Nat → Nat) (q0 : Nat) (sz : Nat) : Met l yX1_init wsX1_init ({ frames := 1, cells := 1, slots := 16, locals := 20 }) (va_Pc [.ref q0] (zB (dC, dI) [] [(q0, .inr (4, [.null]))] sz)) (va_Qv (fun (_ : Unit) => True) (fun _ t => ∃ q1 : Nat, zE (dC, dI) [] [(q0, .inr (4, [.ref q1]))] (va_A [(q0, .inr (4, [.null]))] sz) t) (va_A [(q0, .inr (4, [.null]))] sz)) 1 16 (va_A [(q0, .inr (4, [.null]))] sz) := by
  refine Met.ofW (cc := cX1_init) (maxL := 1) (ret := none) (by decide) rfl ?_
  intro p e s m args below meth c s₁ B hml hv
  obtain ⟨rfl, hsz, hP, hK, hD0, hZ, hN⟩ := hv
  have hx := B.exec
  have hb := B.bytes
  have hr := B.returns
  have hts := atoms_spec (ws := wsX1_init) B.pre
  have hown : s.vm.findClass RX1 = some m.cls := findClass_of_methodNamed B.named
  have hlocks := B.notSynchronized
  have hin : meth.name = "<init>" := (name_of_methodNamed B.named B.method).1
  subst hsz
  have hD := hD0.self (sz := s.heap.size)
  generalize hAe : va_A [(q0, .inr (4, [.null]))] s.heap.size = A at hD hZ ⊢
  have hA : ∀ q : Nat, s.heap.size ≤ q → A q := fun q h => by rw [← hAe]; exact Or.inr h
  have hS : va_S A s.heap s.heap [] := va_S.rf
  have hP : va_P (dC, dI) vwCl [(q0, .inr (4, [.null]))] s.heap := hP
  have hl := lv_entry ([.ref q0]) (n := 1) (Nat.le_of_ble_eq_true rfl)
  rw [lg_entry_eq]
  generalize (lg_sl ([.ref q0]) ++ List.replicate (1 - (lg_sl ([.ref q0])).length) Slot.unset).toArray = ls at hl ⊢
  have hl : lv_has ls 1 [(0, .ref q0)] := hl
  refine lv_aload_n hx hb dX1_init_0 rfl (lv_at hl 0 rfl) ?_
  refine z_objInit hx hb hown (hts (.methodLink RX1 1 objectInit) (by decide +kernel)) (hts (.instanceMethod objectInit) (by decide +kernel)) (hts (.code objectInit ⟨#[0xb1]⟩ 1 none) (by decide +kernel)) (hl.1.trans hml.symm) dX1_init_1 (Nat.le_of_ble_eq_true rfl) (Nat.le_of_ble_eq_true rfl) ?_
  refine lv_aload_n hx hb dX1_init_4 rfl (lv_at hl 0 rfl) ?_
  refine lv_bipush (v := 16) hx hb dX1_init_5 (by decide +kernel) ?_
  refine va_newa (D := (dC, dI)) (atype := .long) (ty := .long) (a0 := (16, .inr (.inl (fun _ => 0)))) (N' := 16) hx hb (hts (.arrayClass .long) (by decide +kernel)) rfl hK hP hD hS hA (fun _ => rfl) (by decide +kernel) (by decide +kernel) (Nat.le_of_ble_eq_true rfl) (Nat.le_of_ble_eq_true rfl) (Nat.le_of_ble_eq_true rfl) dX1_init_7 (fun q1 k0 H hK hP hD hS => ?_)
  have hP : va_P (dC, dI) vwCl [(q0, .inr (4, [.null])), (q1, .inl (k0, 16, .inr (.inl (fun _ => 0))))] H := hP
  have hD : va_D A [(q0, .inr (4, [.null])), (q1, .inl (k0, 16, .inr (.inl (fun _ => 0))))] := hD
  have hK : va_K (dC, dI) vwCl [(k0, .long)] s := hK
  refine W.widen (k := 1) (n := 16) (Nat.le_of_ble_eq_true rfl) (Nat.le_of_ble_eq_true rfl) ?_
  refine va_putF (D := (dC, dI)) (ci := 4) (v := .ref q1) (ty := (.array .long)) (C := RX1) (T := TX1) (N := 1) hx hb hts (fun _ h => List.mem_cons_of_mem _ (List.mem_append_right _ h)) tyX1 tyX1_ok nmX1 hown hK hP hD hS 0 rfl rfl 0 (by decide) (hts (.fieldLink RX1 9 "Seekwell$Big" "limbs" "[J") (by decide +kernel)) (fun _ h9 => h9) rfl hin rfl (by decide +kernel) rfl rfl (Nat.le_of_ble_eq_true rfl) dX1_init_9 (fun H locs hP hD hS => ?_)
  have hP : va_P (dC, dI) vwCl [(q0, .inr (4, [.ref q1])), (q1, .inl (k0, 16, .inr (.inl (fun _ => 0))))] H := hP
  have hD : va_D A [(q0, .inr (4, [.ref q1])), (q1, .inl (k0, 16, .inr (.inl (fun _ => 0))))] := hD
  have hP9 := hP.sub (ws' := [(q0, .inr (4, [.ref q1]))]) [0] rfl
  have hD9 := hD.sub (ws' := [(q0, .inr (4, [.ref q1]))]) [0] (by decide) rfl
  have hK9 := hK.sub (tys' := []) [] rfl
  exact W.vret hx hb hr (fun t ht hW => ⟨⟨(), rfl, trivial, q1, ⟨by rw [ht]; exact hP9, va_K.moved hW.alike hK9, hD9⟩⟩, hS.F ht⟩) hS.2.2 dX1_init_12
set_option maxHeartbeats 4000000 in
set_option maxRecDepth 100000 in
theorem c_X3_init (l : Launch) (dC : Nat → ClassId) (dI : Nat → Nat → Nat) (q0 : Nat) (sz : Nat) : Met l yX3_init wsX3_init ({ frames := 2, cells := 58, slots := 541, locals := 40 }) (va_Pc [.ref q0] (zB (dC, dI) [] [(q0, .inr (6, [.null, .null, .null, .null, .int 0, .null, .null, .null, .int 0, .int 0]))] sz)) (va_Qv (fun (_ : Unit) => True) (fun _ t => zE (dC, dI) [] [] (va_A [(q0, .inr (6, [.null, .null, .null, .null, .int 0, .null, .null, .null, .int 0, .int 0]))] sz) t) (va_A [(q0, .inr (6, [.null, .null, .null, .null, .int 0, .null, .null, .null, .int 0, .int 0]))] sz)) 58 541 (va_A [(q0, .inr (6, [.null, .null, .null, .null, .int 0, .null, .null, .null, .int 0, .int 0]))] sz) := by
  refine Met.ofW (cc := cX3_init) (maxL := 2) (ret := none) (by decide) rfl ?_
  intro p e s m args below meth c s₁ B hml hv
  obtain ⟨rfl, hsz, hP, hK, hD0, hZ, hN⟩ := hv
  have hx := B.exec
  have hb := B.bytes
  have hr := B.returns
  have hts := atoms_spec (ws := wsX3_init) B.pre
  have hown : s.vm.findClass RX3 = some m.cls := findClass_of_methodNamed B.named
  have hlocks := B.notSynchronized
  have hin : meth.name = "<init>" := (name_of_methodNamed B.named B.method).1
  subst hsz
  have hD := hD0.self (sz := s.heap.size)
  generalize hAe : va_A [(q0, .inr (6, [.null, .null, .null, .null, .int 0, .null, .null, .null, .int 0, .int 0]))] s.heap.size = A at hD hZ ⊢
  have hA : ∀ q : Nat, s.heap.size ≤ q → A q := fun q h => by rw [← hAe]; exact Or.inr h
  have hS : va_S A s.heap s.heap [] := va_S.rf
  have hP : va_P (dC, dI) vwCl [(q0, .inr (6, [.null, .null, .null, .null, .int 0, .null, .null, .null, .int 0, .int 0]))] s.heap := hP
  have hl := lv_entry ([.ref q0]) (n := 2) (Nat.le_of_ble_eq_true rfl)
  rw [lg_entry_eq]
  generalize (lg_sl ([.ref q0]) ++ List.replicate (2 - (lg_sl ([.ref q0])).length) Slot.unset).toArray = ls at hl ⊢
  have hl : lv_has ls 2 [(0, .ref q0)] := hl
  refine lv_aload_n hx hb dX3_init_0 rfl (lv_at hl 0 rfl) ?_
  refine z_objInit hx hb hown (hts (.methodLink RX3 3 objectInit) (by decide +kernel)) (hts (.instanceMethod objectInit) (by decide +kernel)) (hts (.code objectInit ⟨#[0xb1]⟩ 1 none) (by decide +kernel)) (hl.1.trans hml.symm) dX3_init_1 (Nat.le_of_ble_eq_true rfl) (Nat.le_of_ble_eq_true rfl) ?_
  refine lv_aload_n hx hb dX3_init_4 rfl (lv_at hl 0 rfl) ?_
  refine lv_bipush (v := 24) hx hb dX3_init_5 (by decide +kernel) ?_
  refine va_newq (D := (dC, dI)) (C := "Seekwell$Big") (N' := 24) hx hb hown (hts (.classLink RX3 9 "Seekwell$Big") (by decide +kernel)) (hN.2.2.1 "Seekwell$Big" (by decide +kernel)) hK hP hD hS hA (by decide +kernel) (by decide +kernel) (Nat.le_of_ble_eq_true rfl) (Nat.le_of_ble_eq_true rfl) (Nat.le_of_ble_eq_true rfl) dX3_init_7 (fun q1 k0 H hK hP hD hS => ?_)
  have hP : va_P (dC, dI) vwCl [(q0, .inr (6, [.null, .null, .null, .null, .int 0, .null, .null, .null, .int 0, .int 0])), (q1, .inl (k0, 24, .inr (.inr (.inr (.inr (fun _ => none))))))] H := hP
  have hD : va_D A [(q0, .inr (6, [.null, .null, .null, .null, .int 0, .null, .null, .null, .int 0, .int 0])), (q1, .inl (k0, 24, .inr (.inr (.inr (.inr (fun _ => none))))))] := hD
  have hK : va_K (dC, dI) vwCl [(k0, (.object "Seekwell$Big"))] s := hK
  refine W.widen (k := 1) (n := 24) (Nat.le_of_ble_eq_true rfl) (Nat.le_of_ble_eq_true rfl) ?_
  refine va_putF (D := (dC, dI)) (ci := 6) (v := .ref q1) (ty := (.array (.object "Seekwell$Big"))) (C := RX3) (T := TX3) (N := 10) hx hb hts (fun _ h => List.mem_cons_of_mem _ (List.mem_append_left _ (List.mem_append_right _ h))) tyX3 tyX3_ok nmX3 hown hK hP hD hS 0 rfl rfl 0 (by decide) (hts (.fieldLink RX3 11 "Seekwell$Finder" "worths" "[LSeekwell$Big;") (by decide +kernel)) (fun _ h9 => h9) rfl hin rfl (by decide +kernel) rfl rfl (Nat.le_of_ble_eq_true rfl) dX3_init_10 (fun H locs hP hD hS => ?_)
  have hP : va_P (dC, dI) vwCl [(q0, .inr (6, [.ref q1, .null, .null, .null, .int 0, .null, .null, .null, .int 0, .int 0])), (q1, .inl (k0, 24, .inr (.inr (.inr (.inr (fun _ => none))))))] H := hP
  have hD : va_D A [(q0, .inr (6, [.ref q1, .null, .null, .null, .int 0, .null, .null, .null, .int 0, .int 0])), (q1, .inl (k0, 24, .inr (.inr (.inr (.inr (fun _ => none))))))] := hD
  refine lv_aload_n hx hb dX3_init_13 rfl (lv_at hl 0 rfl) ?_
  refine lv_bipush (v := 24) hx hb dX3_init_14 (by decide +kernel) ?_
  refine va_newa (D := (dC, dI)) (atype := .int) (ty := .int) (a0 := (24, .inl (fun _ => 0))) (N' := 24) hx hb (hts (.arrayClass .int) (by decide +kernel)) rfl hK hP hD hS hA (fun _ => rfl) (by decide +kernel) (by decide +kernel) (Nat.le_of_ble_eq_true rfl) (Nat.le_of_ble_eq_true rfl) (Nat.le_of_ble_eq_true rfl) dX3_init_16 (fun q2 k1 H hK hP hD hS => ?_)
  have hP : va_P (dC, dI) vwCl [(q0, .inr (6, [.ref q1, .null, .null, .null, .int 0, .null, .null, .null, .int 0, .int 0])), (q1, .inl (k0, 24, .inr (.inr (.inr (.inr (fun _ => none)))))), (q2, .inl (k1, 24, .inl (fun _ => 0)))] H := hP
  have hD : va_D A [(q0, .inr (6, [.ref q1, .null, .null, .null, .int 0, .null, .null, .null, .int 0, .int 0])), (q1, .inl (k0, 24, .inr (.inr (.inr (.inr (fun _ => none)))))), (q2, .inl (k1, 24, .inl (fun _ => 0)))] := hD
  have hK : va_K (dC, dI) vwCl [(k0, (.object "Seekwell$Big")), (k1, .int)] s := hK
  refine W.widen (k := 2) (n := 48) (Nat.le_of_ble_eq_true rfl) (Nat.le_of_ble_eq_true rfl) ?_
  refine va_putF (D := (dC, dI)) (ci := 6) (v := .ref q2) (ty := (.array .int)) (C := RX3) (T := TX3) (N := 10) hx hb hts (fun _ h => List.mem_cons_of_mem _ (List.mem_append_left _ (List.mem_append_right _ h))) tyX3 tyX3_ok nmX3 hown hK hP hD hS 0 rfl rfl 1 (by decide) (hts (.fieldLink RX3 17 "Seekwell$Finder" "sizes" "[I") (by decide +kernel)) (fun _ h9 => h9) rfl hin rfl (by decide +kernel) rfl rfl (Nat.le_of_ble_eq_true rfl) dX3_init_18 (fun H locs hP hD hS => ?_)
  have hP : va_P (dC, dI) vwCl [(q0, .inr (6, [.ref q1, .ref q2, .null, .null, .int 0, .null, .null, .null, .int 0, .int 0])), (q1, .inl (k0, 24, .inr (.inr (.inr (.inr (fun _ => none)))))), (q2, .inl (k1, 24, .inl (fun _ => 0)))] H := hP
  have hD : va_D A [(q0, .inr (6, [.ref q1, .ref q2, .null, .null, .int 0, .null, .null, .null, .int 0, .int 0])), (q1, .inl (k0, 24, .inr (.inr (.inr (.inr (fun _ => none)))))), (q2, .inl (k1, 24, .inl (fun _ => 0)))] := hD
  refine lv_aload_n hx hb dX3_init_21 rfl (lv_at hl 0 rfl) ?_
  refine lv_bipush (v := 24) hx hb dX3_init_22 (by decide +kernel) ?_
  refine va_newa (D := (dC, dI)) (atype := .int) (ty := .int) (a0 := (24, .inl (fun _ => 0))) (N' := 24) hx hb (hts (.arrayClass .int) (by decide +kernel)) rfl hK hP hD hS hA (fun _ => rfl) (by decide +kernel) (by decide +kernel) (Nat.le_of_ble_eq_true rfl) (Nat.le_of_ble_eq_true rfl) (Nat.le_of_ble_eq_true rfl) dX3_init_24 (fun q3 k2 H hK hP hD hS => ?_)
  have hP : va_P (dC, dI) vwCl [(q0, .inr (6, [.ref q1, .ref q2, .null, .null, .int 0, .null, .null, .null, .int 0, .int 0])), (q1, .inl (k0, 24, .inr (.inr (.inr (.inr (fun _ => none)))))), (q2, .inl (k1, 24, .inl (fun _ => 0))), (q3, .inl (k2, 24, .inl (fun _ => 0)))] H := hP
  have hD : va_D A [(q0, .inr (6, [.ref q1, .ref q2, .null, .null, .int 0, .null, .null, .null, .int 0, .int 0])), (q1, .inl (k0, 24, .inr (.inr (.inr (.inr (fun _ => none)))))), (q2, .inl (k1, 24, .inl (fun _ => 0))), (q3, .inl (k2, 24, .inl (fun _ => 0)))] := hD
  have hK : va_K (dC, dI) vwCl [(k0, (.object "Seekwell$Big")), (k1, .int), (k2, .int)] s := hK
  refine W.widen (k := 3) (n := 72) (Nat.le_of_ble_eq_true rfl) (Nat.le_of_ble_eq_true rfl) ?_
  refine va_putF (D := (dC, dI)) (ci := 6) (v := .ref q3) (ty := (.array .int)) (C := RX3) (T := TX3) (N := 10) hx hb hts (fun _ h => List.mem_cons_of_mem _ (List.mem_append_left _ (List.mem_append_right _ h))) tyX3 tyX3_ok nmX3 hown hK hP hD hS 0 rfl rfl 2 (by decide) (hts (.fieldLink RX3 21 "Seekwell$Finder" "order" "[I") (by decide +kernel)) (fun _ h9 => h9) rfl hin rfl (by decide +kernel) rfl rfl (Nat.le_of_ble_eq_true rfl) dX3_init_26 (fun H locs hP hD hS => ?_)
  have hP : va_P (dC, dI) vwCl [(q0, .inr (6, [.ref q1, .ref q2, .ref q3, .null, .int 0, .null, .null, .null, .int 0, .int 0])), (q1, .inl (k0, 24, .inr (.inr (.inr (.inr (fun _ => none)))))), (q2, .inl (k1, 24, .inl (fun _ => 0))), (q3, .inl (k2, 24, .inl (fun _ => 0)))] H := hP
  have hD : va_D A [(q0, .inr (6, [.ref q1, .ref q2, .ref q3, .null, .int 0, .null, .null, .null, .int 0, .int 0])), (q1, .inl (k0, 24, .inr (.inr (.inr (.inr (fun _ => none)))))), (q2, .inl (k1, 24, .inl (fun _ => 0))), (q3, .inl (k2, 24, .inl (fun _ => 0)))] := hD
  refine lv_aload_n hx hb dX3_init_29 rfl (lv_at hl 0 rfl) ?_
  refine lv_bipush (v := 10) hx hb dX3_init_30 (by decide +kernel) ?_
  refine va_newa (D := (dC, dI)) (atype := .int) (ty := .int) (a0 := (10, .inl (fun _ => 0))) (N' := 10) hx hb (hts (.arrayClass .int) (by decide +kernel)) rfl hK hP hD hS hA (fun _ => rfl) (by decide +kernel) (by decide +kernel) (Nat.le_of_ble_eq_true rfl) (Nat.le_of_ble_eq_true rfl) (Nat.le_of_ble_eq_true rfl) dX3_init_32 (fun q4 k3 H hK hP hD hS => ?_)
  have hP : va_P (dC, dI) vwCl [(q0, .inr (6, [.ref q1, .ref q2, .ref q3, .null, .int 0, .null, .null, .null, .int 0, .int 0])), (q1, .inl (k0, 24, .inr (.inr (.inr (.inr (fun _ => none)))))), (q2, .inl (k1, 24, .inl (fun _ => 0))), (q3, .inl (k2, 24, .inl (fun _ => 0))), (q4, .inl (k3, 10, .inl (fun _ => 0)))] H := hP
  have hD : va_D A [(q0, .inr (6, [.ref q1, .ref q2, .ref q3, .null, .int 0, .null, .null, .null, .int 0, .int 0])), (q1, .inl (k0, 24, .inr (.inr (.inr (.inr (fun _ => none)))))), (q2, .inl (k1, 24, .inl (fun _ => 0))), (q3, .inl (k2, 24, .inl (fun _ => 0))), (q4, .inl (k3, 10, .inl (fun _ => 0)))] := hD
  have hK : va_K (dC, dI) vwCl [(k0, (.object "Seekwell$Big")), (k1, .int), (k2, .int), (k3, .int)] s := hK
  refine W.widen (k := 4) (n := 82) (Nat.le_of_ble_eq_true rfl) (Nat.le_of_ble_eq_true rfl) ?_
  refine va_putF (D := (dC, dI)) (ci := 6) (v := .ref q4) (ty := (.array .int)) (C := RX3) (T := TX3) (N := 10) hx hb hts (fun _ h => List.mem_cons_of_mem _ (List.mem_append_left _ (List.mem_append_right _ h))) tyX3 tyX3_ok nmX3 hown hK hP hD hS 0 rfl rfl 3 (by decide) (hts (.fieldLink RX3 24 "Seekwell$Finder" "firstOnes" "[I") (by decide +kernel)) (fun _ h9 => h9) rfl hin rfl (by decide +kernel) rfl rfl (Nat.le_of_ble_eq_true rfl) dX3_init_34 (fun H locs hP hD hS => ?_)
  have hP : va_P (dC, dI) vwCl [(q0, .inr (6, [.ref q1, .ref q2, .ref q3, .ref q4, .int 0, .null, .null, .null, .int 0, .int 0])), (q1, .inl (k0, 24, .inr (.inr (.inr (.inr (fun _ => none)))))), (q2, .inl (k1, 24, .inl (fun _ => 0))), (q3, .inl (k2, 24, .inl (fun _ => 0))), (q4, .inl (k3, 10, .inl (fun _ => 0)))] H := hP
  have hD : va_D A [(q0, .inr (6, [.ref q1, .ref q2, .ref q3, .ref q4, .int 0, .null, .null, .null, .int 0, .int 0])), (q1, .inl (k0, 24, .inr (.inr (.inr (.inr (fun _ => none)))))), (q2, .inl (k1, 24, .inl (fun _ => 0))), (q3, .inl (k2, 24, .inl (fun _ => 0))), (q4, .inl (k3, 10, .inl (fun _ => 0)))] := hD
  refine lv_aload_n hx hb dX3_init_37 rfl (lv_at hl 0 rfl) ?_
  refine lv_iconst (v := 0) hx hb dX3_init_38 (by decide +kernel) ?_
  refine va_put (D := (dC, dI)) (ci := 6) (v := .int 0) (ty := .int) (C := RX3) (T := TX3) (N := 10) hx hb hts (fun _ h => List.mem_cons_of_mem _ (List.mem_append_left _ (List.mem_append_right _ h))) tyX3 tyX3_ok nmX3 hown hK hP hD hS 0 rfl rfl 4 (by decide) (hts (.fieldLink RX3 27 "Seekwell$Finder" "found" "I") (by decide +kernel)) (fun _ h9 => h9) rfl (by decide +kernel) rfl rfl (Nat.le_of_ble_eq_true rfl) dX3_init_39 (fun H locs hP hD hS => ?_)
  have hP : va_P (dC, dI) vwCl [(q0, .inr (6, [.ref q1, .ref q2, .ref q3, .ref q4, .int 0, .null, .null, .null, .int 0, .int 0])), (q1, .inl (k0, 24, .inr (.inr (.inr (.inr (fun _ => none)))))), (q2, .inl (k1, 24, .inl (fun _ => 0))), (q3, .inl (k2, 24, .inl (fun _ => 0))), (q4, .inl (k3, 10, .inl (fun _ => 0)))] H := hP
  have hD : va_D A [(q0, .inr (6, [.ref q1, .ref q2, .ref q3, .ref q4, .int 0, .null, .null, .null, .int 0, .int 0])), (q1, .inl (k0, 24, .inr (.inr (.inr (.inr (fun _ => none)))))), (q2, .inl (k1, 24, .inl (fun _ => 0))), (q3, .inl (k2, 24, .inl (fun _ => 0))), (q4, .inl (k3, 10, .inl (fun _ => 0)))] := hD
  refine lv_aload_n hx hb dX3_init_42 rfl (lv_at hl 0 rfl) ?_
  refine va_new (D := (dC, dI)) (ci := 4) (fs := [.null]) (C := RX1) (T := TX1) (N := 1) hx hb hts (fun _ h => List.mem_cons_of_mem _ (List.mem_append_right _ h)) tyX1 tyX1_ok hown (hts (.classLink RX3 9 RX1) (by decide +kernel)) (hts (.instantiable RX1 1) (by decide +kernel)) (hts (.initialized RX1) (by decide +kernel)) hK hP hD hS hA rfl (zfs (by decide)) (Nat.le_of_ble_eq_true rfl) (Nat.le_of_ble_eq_true rfl) dX3_init_43 (fun q5 H hP hD hS => ?_)
  have hP : va_P (dC, dI) vwCl [(q0, .inr (6, [.ref q1, .ref q2, .ref q3, .ref q4, .int 0, .null, .null, .null, .int 0, .int 0])), (q1, .inl (k0, 24, .inr (.inr (.inr (.inr (fun _ => none)))))), (q2, .inl (k1, 24, .inl (fun _ => 0))), (q3, .inl (k2, 24, .inl (fun _ => 0))), (q4, .inl (k3, 10, .inl (fun _ => 0))), (q5, .inr (4, [.null]))] H := hP
  have hD : va_D A [(q0, .inr (6, [.ref q1, .ref q2, .ref q3, .ref q4, .int 0, .null, .null, .null, .int 0, .int 0])), (q1, .inl (k0, 24, .inr (.inr (.inr (.inr (fun _ => none)))))), (q2, .inl (k1, 24, .inl (fun _ => 0))), (q3, .inl (k2, 24, .inl (fun _ => 0))), (q4, .inl (k3, 10, .inl (fun _ => 0))), (q5, .inr (4, [.null]))] := hD
  refine W.widen (k := 5) (n := 83) (Nat.le_of_ble_eq_true rfl) (Nat.le_of_ble_eq_true rfl) ?_
  refine lv_dup hx hb dX3_init_46 rfl ?_
  have hPc := hP.sub (ws' := [(q5, .inr (4, [.null]))]) [5] rfl
  have hDc := hD.sub (ws' := [(q5, .inr (4, [.null]))]) [5] (by decide) rfl
  have hKc := hK.sub (tys' := []) [] rfl
  have hFc := va_free (wc := [(q5, .inr (4, [.null]))]) hD hS hA [5] rfl
  refine va_callv (va_runIN (As := []) (rest := [.ref q5, .ref q0]) ⟨hx, hb, hml, hown, hts⟩ (c_X1_init l dC dI q5 H.size  ) ⟨va_cnB (host := "Seekwell") 0 hts gX3_init_X1_init_n31 rfl rfl rfl (hN.1 (RX3, 31, yX1_init, "Seekwell") (by decide +kernel)) (hts (.initialized RX1) (by decide +kernel)) (by decide +kernel) ⟨Nat.le_of_ble_eq_true rfl, Nat.le_of_ble_eq_true rfl⟩, rfl, hts (.instanceMethod yX1_init) (by decide +kernel)⟩ ⟨zB_blind, (zPre hPc hDc hKc hS hFc hZ hN)⟩ rfl rfl hl.1 rfl (lv_room (Nat.le_of_ble_eq_true rfl)) dX3_init_47 ⟨Nat.le_of_ble_eq_true rfl, Nat.le_of_ble_eq_true rfl⟩) hS (fun q _ h => hFc q h) hFc (fun u t H1 locs ht hvm hw hB hz1 hk1 hS => ?_)
  obtain ⟨hP1, hK1, hD1⟩ := hB
  rw [ht] at hP1
  have hK1 := va_K.moved hvm.symm hK1
  obtain ⟨hP, hD⟩ := va_join (wr := [(q0, .inr (6, [.ref q1, .ref q2, .ref q3, .ref q4, .int 0, .null, .null, .null, .int 0, .int 0])), (q1, .inl (k0, 24, .inr (.inr (.inr (.inr (fun _ => none))))))]) (w1 := []) hP hD [5] [0, 1] rfl rfl (by decide) (by decide) hk1 hFc hP1 hD1
  have hK := (hK.sub (tys' := [(k0, (.object "Seekwell$Big"))]) [0] rfl).app hK1
  generalize H1 = H at hP hS ⊢
  have hP : va_P (dC, dI) vwCl [(q0, .inr (6, [.ref q1, .ref q2, .ref q3, .ref q4, .int 0, .null, .null, .null, .int 0, .int 0])), (q1, .inl (k0, 24, .inr (.inr (.inr (.inr (fun _ => none))))))] H := hP
  have hD : va_D A [(q0, .inr (6, [.ref q1, .ref q2, .ref q3, .ref q4, .int 0, .null, .null, .null, .int 0, .int 0])), (q1, .inl (k0, 24, .inr (.inr (.inr (.inr (fun _ => none))))))] := hD
  have hK : va_K (dC, dI) vwCl [(k0, (.object "Seekwell$Big"))] s := hK
  refine W.widen (k := 6) (n := 99) (Nat.le_of_ble_eq_true rfl) (Nat.le_of_ble_eq_true rfl) ?_
  refine va_putF (D := (dC, dI)) (ci := 6) (v := .ref q5) (ty := (.object "Seekwell$Big")) (C := RX3) (T := TX3) (N := 10) hx hb hts (fun _ h => List.mem_cons_of_mem _ (List.mem_append_left _ (List.mem_append_right _ h))) tyX3 tyX3_ok nmX3 hown hK hP hD hS 0 rfl rfl 5 (by decide) (hts (.fieldLink RX3 32 "Seekwell$Finder" "share" "LSeekwell$Big;") (by decide +kernel)) (fun _ h9 => h9) rfl hin rfl (by decide +kernel) rfl rfl (Nat.le_of_ble_eq_true rfl) dX3_init_50 (fun H locs hP hD hS => ?_)
  have hP : va_P (dC, dI) vwCl [(q0, .inr (6, [.ref q1, .ref q2, .ref q3, .ref q4, .int 0, .ref q5, .null, .null, .int 0, .int 0])), (q1, .inl (k0, 24, .inr (.inr (.inr (.inr (fun _ => none))))))] H := hP
  have hD : va_D A [(q0, .inr (6, [.ref q1, .ref q2, .ref q3, .ref q4, .int 0, .ref q5, .null, .null, .int 0, .int 0])), (q1, .inl (k0, 24, .inr (.inr (.inr (.inr (fun _ => none))))))] := hD
  refine lv_aload_n hx hb dX3_init_53 rfl (lv_at hl 0 rfl) ?_
  refine va_new (D := (dC, dI)) (ci := 4) (fs := [.null]) (C := RX1) (T := TX1) (N := 1) hx hb hts (fun _ h => List.mem_cons_of_mem _ (List.mem_append_right _ h)) tyX1 tyX1_ok hown (hts (.classLink RX3 9 RX1) (by decide +kernel)) (hts (.instantiable RX1 1) (by decide +kernel)) (hts (.initialized RX1) (by decide +kernel)) hK hP hD hS hA rfl (zfs (by decide)) (Nat.le_of_ble_eq_true rfl) (Nat.le_of_ble_eq_true rfl) dX3_init_54 (fun q6 H hP hD hS => ?_)
  have hP : va_P (dC, dI) vwCl [(q0, .inr (6, [.ref q1, .ref q2, .ref q3, .ref q4, .int 0, .ref q5, .null, .null, .int 0, .int 0])), (q1, .inl (k0, 24, .inr (.inr (.inr (.inr (fun _ => none)))))), (q6, .inr (4, [.null]))] H := hP
  have hD : va_D A [(q0, .inr (6, [.ref q1, .ref q2, .ref q3, .ref q4, .int 0, .ref q5, .null, .null, .int 0, .int 0])), (q1, .inl (k0, 24, .inr (.inr (.inr (.inr (fun _ => none)))))), (q6, .inr (4, [.null]))] := hD
  refine W.widen (k := 7) (n := 100) (Nat.le_of_ble_eq_true rfl) (Nat.le_of_ble_eq_true rfl) ?_
  refine lv_dup hx hb dX3_init_57 rfl ?_
  have hPc := hP.sub (ws' := [(q6, .inr (4, [.null]))]) [2] rfl
  have hDc := hD.sub (ws' := [(q6, .inr (4, [.null]))]) [2] (by decide) rfl
  have hKc := hK.sub (tys' := []) [] rfl
  have hFc := va_free (wc := [(q6, .inr (4, [.null]))]) hD hS hA [2] rfl
  refine va_callv (va_runIN (As := []) (rest := [.ref q6, .ref q0]) ⟨hx, hb, hml, hown, hts⟩ (c_X1_init l dC dI q6 H.size  ) ⟨va_cnB (host := "Seekwell") 0 hts gX3_init_X1_init_n31 rfl rfl rfl (hN.1 (RX3, 31, yX1_init, "Seekwell") (by decide +kernel)) (hts (.initialized RX1) (by decide +kernel)) (by decide +kernel) ⟨Nat.le_of_ble_eq_true rfl, Nat.le_of_ble_eq_true rfl⟩, rfl, hts (.instanceMethod yX1_init) (by decide +kernel)⟩ ⟨zB_blind, (zPre hPc hDc hKc hS hFc hZ hN)⟩ rfl rfl hl.1 rfl (lv_room (Nat.le_of_ble_eq_true rfl)) dX3_init_58 ⟨Nat.le_of_ble_eq_true rfl, Nat.le_of_ble_eq_true rfl⟩) hS (fun q _ h => hFc q h) hFc (fun u t H1 locs ht hvm hw hB hz1 hk1 hS => ?_)
  obtain ⟨hP1, hK1, hD1⟩ := hB
  rw [ht] at hP1
  have hK1 := va_K.moved hvm.symm hK1
  obtain ⟨hP, hD⟩ := va_join (wr := [(q0, .inr (6, [.ref q1, .ref q2, .ref q3, .ref q4, .int 0, .ref q5, .null, .null, .int 0, .int 0])), (q1, .inl (k0, 24, .inr (.inr (.inr (.inr (fun _ => none))))))]) (w1 := []) hP hD [2] [0, 1] rfl rfl (by decide) (by decide) hk1 hFc hP1 hD1
  have hK := (hK.sub (tys' := [(k0, (.object "Seekwell$Big"))]) [0] rfl).app hK1
  generalize H1 = H at hP hS ⊢
  have hP : va_P (dC, dI) vwCl [(q0, .inr (6, [.ref q1, .ref q2, .ref q3, .ref q4, .int 0, .ref q5, .null, .null, .int 0, .int 0])), (q1, .inl (k0, 24, .inr (.inr (.inr (.inr (fun _ => none))))))] H := hP
  have hD : va_D A [(q0, .inr (6, [.ref q1, .ref q2, .ref q3, .ref q4, .int 0, .ref q5, .null, .null, .int 0, .int 0])), (q1, .inl (k0, 24, .inr (.inr (.inr (.inr (fun _ => none))))))] := hD
  have hK : va_K (dC, dI) vwCl [(k0, (.object "Seekwell$Big"))] s := hK
  refine W.widen (k := 8) (n := 116) (Nat.le_of_ble_eq_true rfl) (Nat.le_of_ble_eq_true rfl) ?_
  refine va_putF (D := (dC, dI)) (ci := 6) (v := .ref q6) (ty := (.object "Seekwell$Big")) (C := RX3) (T := TX3) (N := 10) hx hb hts (fun _ h => List.mem_cons_of_mem _ (List.mem_append_left _ (List.mem_append_right _ h))) tyX3 tyX3_ok nmX3 hown hK hP hD hS 0 rfl rfl 6 (by decide) (hts (.fieldLink RX3 36 "Seekwell$Finder" "one" "LSeekwell$Big;") (by decide +kernel)) (fun _ h9 => h9) rfl hin rfl (by decide +kernel) rfl rfl (Nat.le_of_ble_eq_true rfl) dX3_init_61 (fun H locs hP hD hS => ?_)
  have hP : va_P (dC, dI) vwCl [(q0, .inr (6, [.ref q1, .ref q2, .ref q3, .ref q4, .int 0, .ref q5, .ref q6, .null, .int 0, .int 0])), (q1, .inl (k0, 24, .inr (.inr (.inr (.inr (fun _ => none))))))] H := hP
  have hD : va_D A [(q0, .inr (6, [.ref q1, .ref q2, .ref q3, .ref q4, .int 0, .ref q5, .ref q6, .null, .int 0, .int 0])), (q1, .inl (k0, 24, .inr (.inr (.inr (.inr (fun _ => none))))))] := hD
  refine lv_aload_n hx hb dX3_init_64 rfl (lv_at hl 0 rfl) ?_
  refine va_new (D := (dC, dI)) (ci := 4) (fs := [.null]) (C := RX1) (T := TX1) (N := 1) hx hb hts (fun _ h => List.mem_cons_of_mem _ (List.mem_append_right _ h)) tyX1 tyX1_ok hown (hts (.classLink RX3 9 RX1) (by decide +kernel)) (hts (.instantiable RX1 1) (by decide +kernel)) (hts (.initialized RX1) (by decide +kernel)) hK hP hD hS hA rfl (zfs (by decide)) (Nat.le_of_ble_eq_true rfl) (Nat.le_of_ble_eq_true rfl) dX3_init_65 (fun q7 H hP hD hS => ?_)
  have hP : va_P (dC, dI) vwCl [(q0, .inr (6, [.ref q1, .ref q2, .ref q3, .ref q4, .int 0, .ref q5, .ref q6, .null, .int 0, .int 0])), (q1, .inl (k0, 24, .inr (.inr (.inr (.inr (fun _ => none)))))), (q7, .inr (4, [.null]))] H := hP
  have hD : va_D A [(q0, .inr (6, [.ref q1, .ref q2, .ref q3, .ref q4, .int 0, .ref q5, .ref q6, .null, .int 0, .int 0])), (q1, .inl (k0, 24, .inr (.inr (.inr (.inr (fun _ => none)))))), (q7, .inr (4, [.null]))] := hD
  refine W.widen (k := 9) (n := 117) (Nat.le_of_ble_eq_true rfl) (Nat.le_of_ble_eq_true rfl) ?_
  refine lv_dup hx hb dX3_init_68 rfl ?_
  have hPc := hP.sub (ws' := [(q7, .inr (4, [.null]))]) [2] rfl
  have hDc := hD.sub (ws' := [(q7, .inr (4, [.null]))]) [2] (by decide) rfl
  have hKc := hK.sub (tys' := []) [] rfl
  have hFc := va_free (wc := [(q7, .inr (4, [.null]))]) hD hS hA [2] rfl
  refine va_callv (va_runIN (As := []) (rest := [.ref q7, .ref q0]) ⟨hx, hb, hml, hown, hts⟩ (c_X1_init l dC dI q7 H.size  ) ⟨va_cnB (host := "Seekwell") 0 hts gX3_init_X1_init_n31 rfl rfl rfl (hN.1 (RX3, 31, yX1_init, "Seekwell") (by decide +kernel)) (hts (.initialized RX1) (by decide +kernel)) (by decide +kernel) ⟨Nat.le_of_ble_eq_true rfl, Nat.le_of_ble_eq_true rfl⟩, rfl, hts (.instanceMethod yX1_init) (by decide +kernel)⟩ ⟨zB_blind, (zPre hPc hDc hKc hS hFc hZ hN)⟩ rfl rfl hl.1 rfl (lv_room (Nat.le_of_ble_eq_true rfl)) dX3_init_69 ⟨Nat.le_of_ble_eq_true rfl, Nat.le_of_ble_eq_true rfl⟩) hS (fun q _ h => hFc q h) hFc (fun u t H1 locs ht hvm hw hB hz1 hk1 hS => ?_)
  obtain ⟨hP1, hK1, hD1⟩ := hB
  rw [ht] at hP1
  have hK1 := va_K.moved hvm.symm hK1
  obtain ⟨hP, hD⟩ := va_join (wr := [(q0, .inr (6, [.ref q1, .ref q2, .ref q3, .ref q4, .int 0, .ref q5, .ref q6, .null, .int 0, .int 0])), (q1, .inl (k0, 24, .inr (.inr (.inr (.inr (fun _ => none))))))]) (w1 := []) hP hD [2] [0, 1] rfl rfl (by decide) (by decide) hk1 hFc hP1 hD1
  have hK := (hK.sub (tys' := [(k0, (.object "Seekwell$Big"))]) [0] rfl).app hK1
  generalize H1 = H at hP hS ⊢
  have hP : va_P (dC, dI) vwCl [(q0, .inr (6, [.ref q1, .ref q2, .ref q3, .ref q4, .int 0, .ref q5, .ref q6, .null, .int 0, .int 0])), (q1, .inl (k0, 24, .inr (.inr (.inr (.inr (fun _ => none))))))] H := hP
  have hD : va_D A [(q0, .inr (6, [.ref q1, .ref q2, .ref q3, .ref q4, .int 0, .ref q5, .ref q6, .null, .int 0, .int 0])), (q1, .inl (k0, 24, .inr (.inr (.inr (.inr (fun _ => none))))))] := hD
  have hK : va_K (dC, dI) vwCl [(k0, (.object "Seekwell$Big"))] s := hK
  refine W.widen (k := 10) (n := 133) (Nat.le_of_ble_eq_true rfl) (Nat.le_of_ble_eq_true rfl) ?_
  refine va_putF (D := (dC, dI)) (ci := 6) (v := .ref q7) (ty := (.object "Seekwell$Big")) (C := RX3) (T := TX3) (N := 10) hx hb hts (fun _ h => List.mem_cons_of_mem _ (List.mem_append_left _ (List.mem_append_right _ h))) tyX3 tyX3_ok nmX3 hown hK hP hD hS 0 rfl rfl 7 (by decide) (hts (.fieldLink RX3 39 "Seekwell$Finder" "other" "LSeekwell$Big;") (by decide +kernel)) (fun _ h9 => h9) rfl hin rfl (by decide +kernel) rfl rfl (Nat.le_of_ble_eq_true rfl) dX3_init_72 (fun H locs hP hD hS => ?_)
  have hP : va_P (dC, dI) vwCl [(q0, .inr (6, [.ref q1, .ref q2, .ref q3, .ref q4, .int 0, .ref q5, .ref q6, .ref q7, .int 0, .int 0])), (q1, .inl (k0, 24, .inr (.inr (.inr (.inr (fun _ => none))))))] H := hP
  have hD : va_D A [(q0, .inr (6, [.ref q1, .ref q2, .ref q3, .ref q4, .int 0, .ref q5, .ref q6, .ref q7, .int 0, .int 0])), (q1, .inl (k0, 24, .inr (.inr (.inr (.inr (fun _ => none))))))] := hD
  refine lv_aload_n hx hb dX3_init_75 rfl (lv_at hl 0 rfl) ?_
  refine lv_iconst (v := 0) hx hb dX3_init_76 (by decide +kernel) ?_
  refine va_put (D := (dC, dI)) (ci := 6) (v := .int 0) (ty := .int) (C := RX3) (T := TX3) (N := 10) hx hb hts (fun _ h => List.mem_cons_of_mem _ (List.mem_append_left _ (List.mem_append_right _ h))) tyX3 tyX3_ok nmX3 hown hK hP hD hS 0 rfl rfl 8 (by decide) (hts (.fieldLink RX3 42 "Seekwell$Finder" "begin" "I") (by decide +kernel)) (fun _ h9 => h9) rfl (by decide +kernel) rfl rfl (Nat.le_of_ble_eq_true rfl) dX3_init_77 (fun H locs hP hD hS => ?_)
  have hP : va_P (dC, dI) vwCl [(q0, .inr (6, [.ref q1, .ref q2, .ref q3, .ref q4, .int 0, .ref q5, .ref q6, .ref q7, .int 0, .int 0])), (q1, .inl (k0, 24, .inr (.inr (.inr (.inr (fun _ => none))))))] H := hP
  have hD : va_D A [(q0, .inr (6, [.ref q1, .ref q2, .ref q3, .ref q4, .int 0, .ref q5, .ref q6, .ref q7, .int 0, .int 0])), (q1, .inl (k0, 24, .inr (.inr (.inr (.inr (fun _ => none))))))] := hD
  refine lv_aload_n hx hb dX3_init_80 rfl (lv_at hl 0 rfl) ?_
  refine lv_iconst (v := 0) hx hb dX3_init_81 (by decide +kernel) ?_
  refine va_put (D := (dC, dI)) (ci := 6) (v := .int 0) (ty := .int) (C := RX3) (T := TX3) (N := 10) hx hb hts (fun _ h => List.mem_cons_of_mem _ (List.mem_append_left _ (List.mem_append_right _ h))) tyX3 tyX3_ok nmX3 hown hK hP hD hS 0 rfl rfl 9 (by decide) (hts (.fieldLink RX3 45 "Seekwell$Finder" "width" "I") (by decide +kernel)) (fun _ h9 => h9) rfl (by decide +kernel) rfl rfl (Nat.le_of_ble_eq_true rfl) dX3_init_82 (fun H locs hP hD hS => ?_)
  have hP : va_P (dC, dI) vwCl [(q0, .inr (6, [.ref q1, .ref q2, .ref q3, .ref q4, .int 0, .ref q5, .ref q6, .ref q7, .int 0, .int 0])), (q1, .inl (k0, 24, .inr (.inr (.inr (.inr (fun _ => none))))))] H := hP
  have hD : va_D A [(q0, .inr (6, [.ref q1, .ref q2, .ref q3, .ref q4, .int 0, .ref q5, .ref q6, .ref q7, .int 0, .int 0])), (q1, .inl (k0, 24, .inr (.inr (.inr (.inr (fun _ => none))))))] := hD
  refine lv_iconst (v := 0) hx hb dX3_init_85 (by decide +kernel) ?_
  refine lv_istore_n (lv' := [(1, .int 0), (0, .ref q0)]) hx hb dX3_init_86 rfl hl (by decide) rfl (fun ls hl => ?_)
  refine lv_iload_n hx hb dX3_init_87 rfl (lv_at hl 0 rfl) ?_
  refine lv_aload_n hx hb dX3_init_88 rfl (lv_at hl 1 rfl) ?_
  refine va_get (D := (dC, dI)) (ci := 6) (v := .ref q1) (C := RX3) (T := TX3) (N := 10) hx hb hts (fun _ h => List.mem_cons_of_mem _ (List.mem_append_left _ (List.mem_append_right _ h))) hown hK hP 0 rfl rfl 0 (by decide) (hts (.fieldLink RX3 11 "Seekwell$Finder" "worths" "[LSeekwell$Big;") (by decide +kernel)) (fun _ h9 => h9) rfl dX3_init_89 ?_
  refine va_alen (D := (dC, dI)) (v := 24) hx hb hK hP 1 0 rfl rfl (show Int32.ofNat 24 = 24 by decide +kernel) dX3_init_92 ?_
  refine lv_icmp_ge (tgt := 115) hx hb dX3_init_93 (by decide) (fun h9 => absurd h9 (show ¬ (24 : Int32) ≤ (0 : Int32) by decide +kernel)) (fun _ => ?_)
  refine lv_aload_n hx hb dX3_init_96 rfl (lv_at hl 1 rfl) ?_
  refine va_get (D := (dC, dI)) (ci := 6) (v := .ref q1) (C := RX3) (T := TX3) (N := 10) hx hb hts (fun _ h => List.mem_cons_of_mem _ (List.mem_append_left _ (List.mem_append_right _ h))) hown hK hP 0 rfl rfl 0 (by decide) (hts (.fieldLink RX3 11 "Seekwell$Finder" "worths" "[LSeekwell$Big;") (by decide +kernel)) (fun _ h9 => h9) rfl dX3_init_97 ?_
  refine lv_iload_n hx hb dX3_init_100 rfl (lv_at hl 0 rfl) ?_
  refine va_new (D := (dC, dI)) (ci := 4) (fs := [.null]) (C := RX1) (T := TX1) (N := 1) hx hb hts (fun _ h => List.mem_cons_of_mem _ (List.mem_append_right _ h)) tyX1 tyX1_ok hown (hts (.classLink RX3 9 RX1) (by decide +kernel)) (hts (.instantiable RX1 1) (by decide +kernel)) (hts (.initialized RX1) (by decide +kernel)) hK hP hD hS hA rfl (zfs (by decide)) (Nat.le_of_ble_eq_true rfl) (Nat.le_of_ble_eq_true rfl) dX3_init_101 (fun q8 H hP hD hS => ?_)
  have hP : va_P (dC, dI) vwCl [(q0, .inr (6, [.ref q1, .ref q2, .ref q3, .ref q4, .int 0, .ref q5, .ref q6, .ref q7, .int 0, .int 0])), (q1, .inl (k0, 24, .inr (.inr (.inr (.inr (fun _ => none)))))), (q8, .inr (4, [.null]))] H := hP
  have hD : va_D A [(q0, .inr (6, [.ref q1, .ref q2, .ref q3, .ref q4, .int 0, .ref q5, .ref q6, .ref q7, .int 0, .int 0])), (q1, .inl (k0, 24, .inr (.inr (.inr (.inr (fun _ => none)))))), (q8, .inr (4, [.null]))] := hD
  refine W.widen (k := 11) (n := 134) (Nat.le_of_ble_eq_true rfl) (Nat.le_of_ble_eq_true rfl) ?_
  refine lv_dup hx hb dX3_init_104 rfl ?_
  have hPc := hP.sub (ws' := [(q8, .inr (4, [.null]))]) [2] rfl
  have hDc := hD.sub (ws' := [(q8, .inr (4, [.null]))]) [2] (by decide) rfl
  have hKc := hK.sub (tys' := []) [] rfl
  have hFc := va_free (wc := [(q8, .inr (4, [.null]))]) hD hS hA [2] rfl
  refine va_callv (va_runIN (As := []) (rest := [.ref q8, .int 0, .ref q1]) ⟨hx, hb, hml, hown, hts⟩ (c_X1_init_2 l dC dI q8 H.size  ) ⟨va_cnB (host := "Seekwell") 0 hts gX3_init_X1_init_n31 rfl rfl rfl (hN.1 (RX3, 31, yX1_init, "Seekwell") (by decide +kernel)) (hts (.initialized RX1) (by decide +kernel)) (by decide +kernel) ⟨Nat.le_of_ble_eq_true rfl, Nat.le_of_ble_eq_true rfl⟩, rfl, hts (.instanceMethod yX1_init) (by decide +kernel)⟩ ⟨zB_blind, (zPre hPc hDc hKc hS hFc hZ hN)⟩ rfl rfl hl.1 rfl (lv_room (Nat.le_of_ble_eq_true rfl)) dX3_init_105 ⟨Nat.le_of_ble_eq_true rfl, Nat.le_of_ble_eq_true rfl⟩) hS (fun q _ h => hFc q h) hFc (fun u t H1 locs ht hvm hw hB hz1 hk1 hS => ?_)
  obtain ⟨q9, hP1, hK1, hD1⟩ := hB
  rw [ht] at hP1
  have hK1 := va_K.moved hvm.symm hK1
  obtain ⟨hP, hD⟩ := va_join (wr := [(q0, .inr (6, [.ref q1, .ref q2, .ref q3, .ref q4, .int 0, .ref q5, .ref q6, .ref q7, .int 0, .int 0])), (q1, .inl (k0, 24, .inr (.inr (.inr (.inr (fun _ => none))))))]) (w1 := [(q8, .inr (4, [.ref q9]))]) hP hD [2] [0, 1] rfl rfl (by decide) (by decide) hk1 hFc hP1 hD1
  have hK := (hK.sub (tys' := [(k0, (.object "Seekwell$Big"))]) [0] rfl).app hK1
  generalize H1 = H at hP hS ⊢
  have hP : va_P (dC, dI) vwCl [(q0, .inr (6, [.ref q1, .ref q2, .ref q3, .ref q4, .int 0, .ref q5, .ref q6, .ref q7, .int 0, .int 0])), (q1, .inl (k0, 24, .inr (.inr (.inr (.inr (fun _ => none)))))), (q8, .inr (4, [.ref q9]))] H := hP
  have hD : va_D A [(q0, .inr (6, [.ref q1, .ref q2, .ref q3, .ref q4, .int 0, .ref q5, .ref q6, .ref q7, .int 0, .int 0])), (q1, .inl (k0, 24, .inr (.inr (.inr (.inr (fun _ => none)))))), (q8, .inr (4, [.ref q9]))] := hD
  have hK : va_K (dC, dI) vwCl [(k0, (.object "Seekwell$Big"))] s := hK
  refine W.widen (k := 12) (n := 150) (Nat.le_of_ble_eq_true rfl) (Nat.le_of_ble_eq_true rfl) ?_
  refine va_astq (D := (dC, dI)) hx hb hK hP hD hS 1 0 2 4 rfl rfl rfl rfl (i := 0) (zin (by decide +kernel)) dX3_init_108 (fun H locs hP hD hS => ?_)
  have hP : va_P (dC, dI) vwCl [(q0, .inr (6, [.ref q1, .ref q2, .ref q3, .ref q4, .int 0, .ref q5, .ref q6, .ref q7, .int 0, .int 0])), (q1, .inl (k0, 24, .inr (.inr (.inr (.inr (va_up (fun _ => none) (0 : Int32).toNatClampNeg (some q8))))))), (q8, .inr (4, [.ref q9]))] H := hP
  have hD : va_D A [(q0, .inr (6, [.ref q1, .ref q2, .ref q3, .ref q4, .int 0, .ref q5, .ref q6, .ref q7, .int 0, .int 0])), (q1, .inl (k0, 24, .inr (.inr (.inr (.inr (va_up (fun _ => none) (0 : Int32).toNatClampNeg (some q8))))))), (q8, .inr (4, [.ref q9]))] := hD
  refine lv_iinc (v := 1) (lv' := [(1, .int 1), (0, .ref q0)]) hx hb dX3_init_109 hl (k := 0) rfl (by decide +kernel) (by decide) rfl (fun ls hl => ?_)
  refine lv_goto (tgt := 87) hx hb dX3_init_112 (by decide) ?_
  refine lv_iload_n hx hb dX3_init_87 rfl (lv_at hl 0 rfl) ?_
  refine lv_aload_n hx hb dX3_init_88 rfl (lv_at hl 1 rfl) ?_
  refine va_get (D := (dC, dI)) (ci := 6) (v := .ref q1) (C := RX3) (T := TX3) (N := 10) hx hb hts (fun _ h => List.mem_cons_of_mem _ (List.mem_append_left _ (List.mem_append_right _ h))) hown hK hP 0 rfl rfl 0 (by decide) (hts (.fieldLink RX3 11 "Seekwell$Finder" "worths" "[LSeekwell$Big;") (by decide +kernel)) (fun _ h9 => h9) rfl dX3_init_89 ?_
  refine va_alen (D := (dC, dI)) (v := 24) hx hb hK hP 1 0 rfl rfl (show Int32.ofNat 24 = 24 by decide +kernel) dX3_init_92 ?_
  refine lv_icmp_ge (tgt := 115) hx hb dX3_init_93 (by decide) (fun h9 => absurd h9 (show ¬ (24 : Int32) ≤ (1 : Int32) by decide +kernel)) (fun _ => ?_)
  refine lv_aload_n hx hb dX3_init_96 rfl (lv_at hl 1 rfl) ?_
  refine va_get (D := (dC, dI)) (ci := 6) (v := .ref q1) (C := RX3) (T := TX3) (N := 10) hx hb hts (fun _ h => List.mem_cons_of_mem _ (List.mem_append_left _ (List.mem_append_right _ h))) hown hK hP 0 rfl rfl 0 (by decide) (hts (.fieldLink RX3 11 "Seekwell$Finder" "worths" "[LSeekwell$Big;") (by decide +kernel)) (fun _ h9 => h9) rfl dX3_init_97 ?_
  refine lv_iload_n hx hb dX3_init_100 rfl (lv_at hl 0 rfl) ?_
  refine va_new (D := (dC, dI)) (ci := 4) (fs := [.null]) (C := RX1) (T := TX1) (N := 1) hx hb hts (fun _ h => List.mem_cons_of_mem _ (List.mem_append_right _ h)) tyX1 tyX1_ok hown (hts (.classLink RX3 9 RX1) (by decide +kernel)) (hts (.instantiable RX1 1) (by decide +kernel)) (hts (.initialized RX1) (by decide +kernel)) hK hP hD hS hA rfl (zfs (by decide)) (Nat.le_of_ble_eq_true rfl) (Nat.le_of_ble_eq_true rfl) dX3_init_101 (fun q10 H hP hD hS => ?_)
  have hP : va_P (dC, dI) vwCl [(q0, .inr (6, [.ref q1, .ref q2, .ref q3, .ref q4, .int 0, .ref q5, .ref q6, .ref q7, .int 0, .int 0])), (q1, .inl (k0, 24, .inr (.inr (.inr (.inr (va_up (fun _ => none) (0 : Int32).toNatClampNeg (some q8))))))), (q8, .inr (4, [.ref q9])), (q10, .inr (4, [.null]))] H := hP
  have hD : va_D A [(q0, .inr (6, [.ref q1, .ref q2, .ref q3, .ref q4, .int 0, .ref q5, .ref q6, .ref q7, .int 0, .int 0])), (q1, .inl (k0, 24, .inr (.inr (.inr (.inr (va_up (fun _ => none) (0 : Int32).toNatClampNeg (some q8))))))), (q8, .inr (4, [.ref q9])), (q10, .inr (4, [.null]))] := hD
  refine W.widen (k := 13) (n := 151) (Nat.le_of_ble_eq_true rfl) (Nat.le_of_ble_eq_true rfl) ?_
  refine lv_dup hx hb dX3_init_104 rfl ?_
  have hPc := hP.sub (ws' := [(q10, .inr (4, [.null]))]) [3] rfl
  have hDc := hD.sub (ws' := [(q10, .inr (4, [.null]))]) [3] (by decide) rfl
  have hKc := hK.sub (tys' := []) [] rfl
  have hFc := va_free (wc := [(q10, .inr (4, [.null]))]) hD hS hA [3] rfl
  refine va_callv (va_runIN (As := []) (rest := [.ref q10, .int 1, .ref q1]) ⟨hx, hb, hml, hown, hts⟩ (c_X1_init_2 l dC dI q10 H.size  ) ⟨va_cnB (host := "Seekwell") 0 hts gX3_init_X1_init_n31 rfl rfl rfl (hN.1 (RX3, 31, yX1_init, "Seekwell") (by decide +kernel)) (hts (.initialized RX1) (by decide +kernel)) (by decide +kernel) ⟨Nat.le_of_ble_eq_true rfl, Nat.le_of_ble_eq_true rfl⟩, rfl, hts (.instanceMethod yX1_init) (by decide +kernel)⟩ ⟨zB_blind, (zPre hPc hDc hKc hS hFc hZ hN)⟩ rfl rfl hl.1 rfl (lv_room (Nat.le_of_ble_eq_true rfl)) dX3_init_105 ⟨Nat.le_of_ble_eq_true rfl, Nat.le_of_ble_eq_true rfl⟩) hS (fun q _ h => hFc q h) hFc (fun u t H1 locs ht hvm hw hB hz1 hk1 hS => ?_)
  obtain ⟨q11, hP1, hK1, hD1⟩ := hB
  rw [ht] at hP1
  have hK1 := va_K.moved hvm.symm hK1
  obtain ⟨hP, hD⟩ := va_join (wr := [(q0, .inr (6, [.ref q1, .ref q2, .ref q3, .ref q4, .int 0, .ref q5, .ref q6, .ref q7, .int 0, .int 0])), (q1, .inl (k0, 24, .inr (.inr (.inr (.inr (va_up (fun _ => none) (0 : Int32).toNatClampNeg (some q8)))))))]) (w1 := [(q10, .inr (4, [.ref q11]))]) hP hD [3] [0, 1] rfl rfl (by decide) (by decide) hk1 hFc hP1 hD1
  have hK := (hK.sub (tys' := [(k0, (.object "Seekwell$Big"))]) [0] rfl).app hK1
  generalize H1 = H at hP hS ⊢
  have hP : va_P (dC, dI) vwCl [(q0, .inr (6, [.ref q1, .ref q2, .ref q3, .ref q4, .int 0, .ref q5, .ref q6, .ref q7, .int 0, .int 0])), (q1, .inl (k0, 24, .inr (.inr (.inr (.inr (va_up (fun _ => none) (0 : Int32).toNatClampNeg (some q8))))))), (q10, .inr (4, [.ref q11]))] H := hP
  have hD : va_D A [(q0, .inr (6, [.ref q1, .ref q2, .ref q3, .ref q4, .int 0, .ref q5, .ref q6, .ref q7, .int 0, .int 0])), (q1, .inl (k0, 24, .inr (.inr (.inr (.inr (va_up (fun _ => none) (0 : Int32).toNatClampNeg (some q8))))))), (q10, .inr (4, [.ref q11]))] := hD
  have hK : va_K (dC, dI) vwCl [(k0, (.object "Seekwell$Big"))] s := hK
  refine W.widen (k := 14) (n := 167) (Nat.le_of_ble_eq_true rfl) (Nat.le_of_ble_eq_true rfl) ?_
  refine va_astq (D := (dC, dI)) hx hb hK hP hD hS 1 0 2 4 rfl rfl rfl rfl (i := 1) (zin (by decide +kernel)) dX3_init_108 (fun H locs hP hD hS => ?_)
  have hP : va_P (dC, dI) vwCl [(q0, .inr (6, [.ref q1, .ref q2, .ref q3, .ref q4, .int 0, .ref q5, .ref q6, .ref q7, .int 0, .int 0])), (q1, .inl (k0, 24, .inr (.inr (.inr (.inr (va_up (va_up (fun _ => none) (0 : Int32).toNatClampNeg (some q8)) (1 : Int32).toNatClampNeg (some q10))))))), (q10, .inr (4, [.ref q11]))] H := hP
  have hD : va_D A [(q0, .inr (6, [.ref q1, .ref q2, .ref q3, .ref q4, .int 0, .ref q5, .ref q6, .ref q7, .int 0, .int 0])), (q1, .inl (k0, 24, .inr (.inr (.inr (.inr (va_up (va_up (fun _ => none) (0 : Int32).toNatClampNeg (some q8)) (1 : Int32).toNatClampNeg (some q10))))))), (q10, .inr (4, [.ref q11]))] := hD
  refine lv_iinc (v := 2) (lv' := [(1, .int 2), (0, .ref q0)]) hx hb dX3_init_109 hl (k := 0) rfl (by decide +kernel) (by decide) rfl (fun ls hl => ?_)
  refine lv_goto (tgt := 87) hx hb dX3_init_112 (by decide) ?_
  refine lv_iload_n hx hb dX3_init_87 rfl (lv_at hl 0 rfl) ?_
  refine lv_aload_n hx hb dX3_init_88 rfl (lv_at hl 1 rfl) ?_
  refine va_get (D := (dC, dI)) (ci := 6) (v := .ref q1) (C := RX3) (T := TX3) (N := 10) hx hb hts (fun _ h => List.mem_cons_of_mem _ (List.mem_append_left _ (List.mem_append_right _ h))) hown hK hP 0 rfl rfl 0 (by decide) (hts (.fieldLink RX3 11 "Seekwell$Finder" "worths" "[LSeekwell$Big;") (by decide +kernel)) (fun _ h9 => h9) rfl dX3_init_89 ?_
  refine va_alen (D := (dC, dI)) (v := 24) hx hb hK hP 1 0 rfl rfl (show Int32.ofNat 24 = 24 by decide +kernel) dX3_init_92 ?_
  refine lv_icmp_ge (tgt := 115) hx hb dX3_init_93 (by decide) (fun h9 => absurd h9 (show ¬ (24 : Int32) ≤ (2 : Int32) by decide +kernel)) (fun _ => ?_)
  refine lv_aload_n hx hb dX3_init_96 rfl (lv_at hl 1 rfl) ?_
  refine va_get (D := (dC, dI)) (ci := 6) (v := .ref q1) (C := RX3) (T := TX3) (N := 10) hx hb hts (fun _ h => List.mem_cons_of_mem _ (List.mem_append_left _ (List.mem_append_right _ h))) hown hK hP 0 rfl rfl 0 (by decide) (hts (.fieldLink RX3 11 "Seekwell$Finder" "worths" "[LSeekwell$Big;") (by decide +kernel)) (fun _ h9 => h9) rfl dX3_init_97 ?_
  refine lv_iload_n hx hb dX3_init_100 rfl (lv_at hl 0 rfl) ?_
  refine va_new (D := (dC, dI)) (ci := 4) (fs := [.null]) (C := RX1) (T := TX1) (N := 1) hx hb hts (fun _ h => List.mem_cons_of_mem _ (List.mem_append_right _ h)) tyX1 tyX1_ok hown (hts (.classLink RX3 9 RX1) (by decide +kernel)) (hts (.instantiable RX1 1) (by decide +kernel)) (hts (.initialized RX1) (by decide +kernel)) hK hP hD hS hA rfl (zfs (by decide)) (Nat.le_of_ble_eq_true rfl) (Nat.le_of_ble_eq_true rfl) dX3_init_101 (fun q12 H hP hD hS => ?_)
  have hP : va_P (dC, dI) vwCl [(q0, .inr (6, [.ref q1, .ref q2, .ref q3, .ref q4, .int 0, .ref q5, .ref q6, .ref q7, .int 0, .int 0])), (q1, .inl (k0, 24, .inr (.inr (.inr (.inr (va_up (va_up (fun _ => none) (0 : Int32).toNatClampNeg (some q8)) (1 : Int32).toNatClampNeg (some q10))))))), (q10, .inr (4, [.ref q11])), (q12, .inr (4, [.null]))] H := hP
  have hD : va_D A [(q0, .inr (6, [.ref q1, .ref q2, .ref q3, .ref q4, .int 0, .ref q5, .ref q6, .ref q7, .int 0, .int 0])), (q1, .inl (k0, 24, .inr (.inr (.inr (.inr (va_up (va_up (fun _ => none) (0 : Int32).toNatClampNeg (some q8)) (1 : Int32).toNatClampNeg (some q10))))))), (q10, .inr (4, [.ref q11])), (q12, .inr (4, [.null]))] := hD
  refine W.widen (k := 15) (n := 168) (Nat.le_of_ble_eq_true rfl) (Nat.le_of_ble_eq_true rfl) ?_
  refine lv_dup hx hb dX3_init_104 rfl ?_
  have hPc := hP.sub (ws' := [(q12, .inr (4, [.null]))]) [3] rfl
  have hDc := hD.sub (ws' := [(q12, .inr (4, [.null]))]) [3] (by decide) rfl
  have hKc := hK.sub (tys' := []) [] rfl
  have hFc := va_free (wc := [(q12, .inr (4, [.null]))]) hD hS hA [3] rfl
  refine va_callv (va_runIN (As := []) (rest := [.ref q12, .int 2, .ref q1]) ⟨hx, hb, hml, hown, hts⟩ (c_X1_init_2 l dC dI q12 H.size  ) ⟨va_cnB (host := "Seekwell") 0 hts gX3_init_X1_init_n31 rfl rfl rfl (hN.1 (RX3, 31, yX1_init, "Seekwell") (by decide +kernel)) (hts (.initialized RX1) (by decide +kernel)) (by decide +kernel) ⟨Nat.le_of_ble_eq_true rfl, Nat.le_of_ble_eq_true rfl⟩, rfl, hts (.instanceMethod yX1_init) (by decide +kernel)⟩ ⟨zB_blind, (zPre hPc hDc hKc hS hFc hZ hN)⟩ rfl rfl hl.1 rfl (lv_room (Nat.le_of_ble_eq_true rfl)) dX3_init_105 ⟨Nat.le_of_ble_eq_true rfl, Nat.le_of_ble_eq_true rfl⟩) hS (fun q _ h => hFc q h) hFc (fun u t H1 locs ht hvm hw hB hz1 hk1 hS => ?_)
  obtain ⟨q13, hP1, hK1, hD1⟩ := hB
  rw [ht] at hP1
  have hK1 := va_K.moved hvm.symm hK1
  obtain ⟨hP, hD⟩ := va_join (wr := [(q0, .inr (6, [.ref q1, .ref q2, .ref q3, .ref q4, .int 0, .ref q5, .ref q6, .ref q7, .int 0, .int 0])), (q1, .inl (k0, 24, .inr (.inr (.inr (.inr (va_up (va_up (fun _ => none) (0 : Int32).toNatClampNeg (some q8)) (1 : Int32).toNatClampNeg (some q10)))))))]) (w1 := [(q12, .inr (4, [.ref q13]))]) hP hD [3] [0, 1] rfl rfl (by decide) (by decide) hk1 hFc hP1 hD1
  have hK := (hK.sub (tys' := [(k0, (.object "Seekwell$Big"))]) [0] rfl).app hK1
  generalize H1 = H at hP hS ⊢
  have hP : va_P (dC, dI) vwCl [(q0, .inr (6, [.ref q1, .ref q2, .ref q3, .ref q4, .int 0, .ref q5, .ref q6, .ref q7, .int 0, .int 0])), (q1, .inl (k0, 24, .inr (.inr (.inr (.inr (va_up (va_up (fun _ => none) (0 : Int32).toNatClampNeg (some q8)) (1 : Int32).toNatClampNeg (some q10))))))), (q12, .inr (4, [.ref q13]))] H := hP
  have hD : va_D A [(q0, .inr (6, [.ref q1, .ref q2, .ref q3, .ref q4, .int 0, .ref q5, .ref q6, .ref q7, .int 0, .int 0])), (q1, .inl (k0, 24, .inr (.inr (.inr (.inr (va_up (va_up (fun _ => none) (0 : Int32).toNatClampNeg (some q8)) (1 : Int32).toNatClampNeg (some q10))))))), (q12, .inr (4, [.ref q13]))] := hD
  have hK : va_K (dC, dI) vwCl [(k0, (.object "Seekwell$Big"))] s := hK
  refine W.widen (k := 16) (n := 184) (Nat.le_of_ble_eq_true rfl) (Nat.le_of_ble_eq_true rfl) ?_
  refine va_astq (D := (dC, dI)) hx hb hK hP hD hS 1 0 2 4 rfl rfl rfl rfl (i := 2) (zin (by decide +kernel)) dX3_init_108 (fun H locs hP hD hS => ?_)
  have hP : va_P (dC, dI) vwCl [(q0, .inr (6, [.ref q1, .ref q2, .ref q3, .ref q4, .int 0, .ref q5, .ref q6, .ref q7, .int 0, .int 0])), (q1, .inl (k0, 24, .inr (.inr (.inr (.inr (va_up (va_up (va_up (fun _ => none) (0 : Int32).toNatClampNeg (some q8)) (1 : Int32).toNatClampNeg (some q10)) (2 : Int32).toNatClampNeg (some q12))))))), (q12, .inr (4, [.ref q13]))] H := hP
  have hD : va_D A [(q0, .inr (6, [.ref q1, .ref q2, .ref q3, .ref q4, .int 0, .ref q5, .ref q6, .ref q7, .int 0, .int 0])), (q1, .inl (k0, 24, .inr (.inr (.inr (.inr (va_up (va_up (va_up (fun _ => none) (0 : Int32).toNatClampNeg (some q8)) (1 : Int32).toNatClampNeg (some q10)) (2 : Int32).toNatClampNeg (some q12))))))), (q12, .inr (4, [.ref q13]))] := hD
  refine lv_iinc (v := 3) (lv' := [(1, .int 3), (0, .ref q0)]) hx hb dX3_init_109 hl (k := 0) rfl (by decide +kernel) (by decide) rfl (fun ls hl => ?_)
  refine lv_goto (tgt := 87) hx hb dX3_init_112 (by decide) ?_
  refine lv_iload_n hx hb dX3_init_87 rfl (lv_at hl 0 rfl) ?_
  refine lv_aload_n hx hb dX3_init_88 rfl (lv_at hl 1 rfl) ?_
  refine va_get (D := (dC, dI)) (ci := 6) (v := .ref q1) (C := RX3) (T := TX3) (N := 10) hx hb hts (fun _ h => List.mem_cons_of_mem _ (List.mem_append_left _ (List.mem_append_right _ h))) hown hK hP 0 rfl rfl 0 (by decide) (hts (.fieldLink RX3 11 "Seekwell$Finder" "worths" "[LSeekwell$Big;") (by decide +kernel)) (fun _ h9 => h9) rfl dX3_init_89 ?_
  refine va_alen (D := (dC, dI)) (v := 24) hx hb hK hP 1 0 rfl rfl (show Int32.ofNat 24 = 24 by decide +kernel) dX3_init_92 ?_
  refine lv_icmp_ge (tgt := 115) hx hb dX3_init_93 (by decide) (fun h9 => absurd h9 (show ¬ (24 : Int32) ≤ (3 : Int32) by decide +kernel)) (fun _ => ?_)
  refine lv_aload_n hx hb dX3_init_96 rfl (lv_at hl 1 rfl) ?_
  refine va_get (D := (dC, dI)) (ci := 6) (v := .ref q1) (C := RX3) (T := TX3) (N := 10) hx hb hts (fun _ h => List.mem_cons_of_mem _ (List.mem_append_left _ (List.mem_append_right _ h))) hown hK hP 0 rfl rfl 0 (by decide) (hts (.fieldLink RX3 11 "Seekwell$Finder" "worths" "[LSeekwell$Big;") (by decide +kernel)) (fun _ h9 => h9) rfl dX3_init_97 ?_
  refine lv_iload_n hx hb dX3_init_100 rfl (lv_at hl 0 rfl) ?_
  refine va_new (D := (dC, dI)) (ci := 4) (fs := [.null]) (C := RX1) (T := TX1) (N := 1) hx hb hts (fun _ h => List.mem_cons_of_mem _ (List.mem_append_right _ h)) tyX1 tyX1_ok hown (hts (.classLink RX3 9 RX1) (by decide +kernel)) (hts (.instantiable RX1 1) (by decide +kernel)) (hts (.initialized RX1) (by decide +kernel)) hK hP hD hS hA rfl (zfs (by decide)) (Nat.le_of_ble_eq_true rfl) (Nat.le_of_ble_eq_true rfl) dX3_init_101 (fun q14 H hP hD hS => ?_)
  have hP : va_P (dC, dI) vwCl [(q0, .inr (6, [.ref q1, .ref q2, .ref q3, .ref q4, .int 0, .ref q5, .ref q6, .ref q7, .int 0, .int 0])), (q1, .inl (k0, 24, .inr (.inr (.inr (.inr (va_up (va_up (va_up (fun _ => none) (0 : Int32).toNatClampNeg (some q8)) (1 : Int32).toNatClampNeg (some q10)) (2 : Int32).toNatClampNeg (some q12))))))), (q12, .inr (4, [.ref q13])), (q14, .inr (4, [.null]))] H := hP
  have hD : va_D A [(q0, .inr (6, [.ref q1, .ref q2, .ref q3, .ref q4, .int 0, .ref q5, .ref q6, .ref q7, .int 0, .int 0])), (q1, .inl (k0, 24, .inr (.inr (.inr (.inr (va_up (va_up (va_up (fun _ => none) (0 : Int32).toNatClampNeg (some q8)) (1 : Int32).toNatClampNeg (some q10)) (2 : Int32).toNatClampNeg (some q12))))))), (q12, .inr (4, [.ref q13])), (q14, .inr (4, [.null]))] := hD
  refine W.widen (k := 17) (n := 185) (Nat.le_of_ble_eq_true rfl) (Nat.le_of_ble_eq_true rfl) ?_
  refine lv_dup hx hb dX3_init_104 rfl ?_
  have hPc := hP.sub (ws' := [(q14, .inr (4, [.null]))]) [3] rfl
  have hDc := hD.sub (ws' := [(q14, .inr (4, [.null]))]) [3] (by decide) rfl
  have hKc := hK.sub (tys' := []) [] rfl
  have hFc := va_free (wc := [(q14, .inr (4, [.null]))]) hD hS hA [3] rfl
  refine va_callv (va_runIN (As := []) (rest := [.ref q14, .int 3, .ref q1]) ⟨hx, hb, hml, hown, hts⟩ (c_X1_init_2 l dC dI q14 H.size  ) ⟨va_cnB (host := "Seekwell") 0 hts gX3_init_X1_init_n31 rfl rfl rfl (hN.1 (RX3, 31, yX1_init, "Seekwell") (by decide +kernel)) (hts (.initialized RX1) (by decide +kernel)) (by decide +kernel) ⟨Nat.le_of_ble_eq_true rfl, Nat.le_of_ble_eq_true rfl⟩, rfl, hts (.instanceMethod yX1_init) (by decide +kernel)⟩ ⟨zB_blind, (zPre hPc hDc hKc hS hFc hZ hN)⟩ rfl rfl hl.1 rfl (lv_room (Nat.le_of_ble_eq_true rfl)) dX3_init_105 ⟨Nat.le_of_ble_eq_true rfl, Nat.le_of_ble_eq_true rfl⟩) hS (fun q _ h => hFc q h) hFc (fun u t H1 locs ht hvm hw hB hz1 hk1 hS => ?_)
  obtain ⟨q15, hP1, hK1, hD1⟩ := hB
  rw [ht] at hP1
  have hK1 := va_K.moved hvm.symm hK1
  obtain ⟨hP, hD⟩ := va_join (wr := [(q0, .inr (6, [.ref q1, .ref q2, .ref q3, .ref q4, .int 0, .ref q5, .ref q6, .ref q7, .int 0, .int 0])), (q1, .inl (k0, 24, .inr (.inr (.inr (.inr (va_up (va_up (va_up (fun _ => none) (0 : Int32).toNatClampNeg (some q8)) (1 : Int32).toNatClampNeg (some q10)) (2 : Int32).toNatClampNeg (some q12)))))))]) (w1 := [(q14, .inr (4, [.ref q15]))]) hP hD [3] [0, 1] rfl rfl (by decide) (by decide) hk1 hFc hP1 hD1
  have hK := (hK.sub (tys' := [(k0, (.object "Seekwell$Big"))]) [0] rfl).app hK1
  generalize H1 = H at hP hS ⊢
  have hP : va_P (dC, dI) vwCl [(q0, .inr (6, [.ref q1, .ref q2, .ref q3, .ref q4, .int 0, .ref q5, .ref q6, .ref q7, .int 0, .int 0])), (q1, .inl (k0, 24, .inr (.inr (.inr (.inr (va_up (va_up (va_up (fun _ => none) (0 : Int32).toNatClampNeg (some q8)) (1 : Int32).toNatClampNeg (some q10)) (2 : Int32).toNatClampNeg (some q12))))))), (q14, .inr (4, [.ref q15]))] H := hP
  have hD : va_D A [(q0, .inr (6, [.ref q1, .ref q2, .ref q3, .ref q4, .int 0, .ref q5, .ref q6, .ref q7, .int 0, .int 0])), (q1, .inl (k0, 24, .inr (.inr (.inr (.inr (va_up (va_up (va_up (fun _ => none) (0 : Int32).toNatClampNeg (some q8)) (1 : Int32).toNatClampNeg (some q10)) (2 : Int32).toNatClampNeg (some q12))))))), (q14, .inr (4, [.ref q15]))] := hD
  have hK : va_K (dC, dI) vwCl [(k0, (.object "Seekwell$Big"))] s := hK
  refine W.widen (k := 18) (n := 201) (Nat.le_of_ble_eq_true rfl) (Nat.le_of_ble_eq_true rfl) ?_
  refine va_astq (D := (dC, dI)) hx hb hK hP hD hS 1 0 2 4 rfl rfl rfl rfl (i := 3) (zin (by decide +kernel)) dX3_init_108 (fun H locs hP hD hS => ?_)
  have hP : va_P (dC, dI) vwCl [(q0, .inr (6, [.ref q1, .ref q2, .ref q3, .ref q4, .int 0, .ref q5, .ref q6, .ref q7, .int 0, .int 0])), (q1, .inl (k0, 24, .inr (.inr (.inr (.inr (va_up (va_up (va_up (va_up (fun _ => none) (0 : Int32).toNatClampNeg (some q8)) (1 : Int32).toNatClampNeg (some q10)) (2 : Int32).toNatClampNeg (some q12)) (3 : Int32).toNatClampNeg (some q14))))))), (q14, .inr (4, [.ref q15]))] H := hP
  have hD : va_D A [(q0, .inr (6, [.ref q1, .ref q2, .ref q3, .ref q4, .int 0, .ref q5, .ref q6, .ref q7, .int 0, .int 0])), (q1, .inl (k0, 24, .inr (.inr (.inr (.inr (va_up (va_up (va_up (va_up (fun _ => none) (0 : Int32).toNatClampNeg (some q8)) (1 : Int32).toNatClampNeg (some q10)) (2 : Int32).toNatClampNeg (some q12)) (3 : Int32).toNatClampNeg (some q14))))))), (q14, .inr (4, [.ref q15]))] := hD
  refine lv_iinc (v := 4) (lv' := [(1, .int 4), (0, .ref q0)]) hx hb dX3_init_109 hl (k := 0) rfl (by decide +kernel) (by decide) rfl (fun ls hl => ?_)
  refine lv_goto (tgt := 87) hx hb dX3_init_112 (by decide) ?_
  refine lv_iload_n hx hb dX3_init_87 rfl (lv_at hl 0 rfl) ?_
  refine lv_aload_n hx hb dX3_init_88 rfl (lv_at hl 1 rfl) ?_
  refine va_get (D := (dC, dI)) (ci := 6) (v := .ref q1) (C := RX3) (T := TX3) (N := 10) hx hb hts (fun _ h => List.mem_cons_of_mem _ (List.mem_append_left _ (List.mem_append_right _ h))) hown hK hP 0 rfl rfl 0 (by decide) (hts (.fieldLink RX3 11 "Seekwell$Finder" "worths" "[LSeekwell$Big;") (by decide +kernel)) (fun _ h9 => h9) rfl dX3_init_89 ?_
  refine va_alen (D := (dC, dI)) (v := 24) hx hb hK hP 1 0 rfl rfl (show Int32.ofNat 24 = 24 by decide +kernel) dX3_init_92 ?_
  refine lv_icmp_ge (tgt := 115) hx hb dX3_init_93 (by decide) (fun h9 => absurd h9 (show ¬ (24 : Int32) ≤ (4 : Int32) by decide +kernel)) (fun _ => ?_)
  refine lv_aload_n hx hb dX3_init_96 rfl (lv_at hl 1 rfl) ?_
  refine va_get (D := (dC, dI)) (ci := 6) (v := .ref q1) (C := RX3) (T := TX3) (N := 10) hx hb hts (fun _ h => List.mem_cons_of_mem _ (List.mem_append_left _ (List.mem_append_right _ h))) hown hK hP 0 rfl rfl 0 (by decide) (hts (.fieldLink RX3 11 "Seekwell$Finder" "worths" "[LSeekwell$Big;") (by decide +kernel)) (fun _ h9 => h9) rfl dX3_init_97 ?_
  refine lv_iload_n hx hb dX3_init_100 rfl (lv_at hl 0 rfl) ?_
  refine va_new (D := (dC, dI)) (ci := 4) (fs := [.null]) (C := RX1) (T := TX1) (N := 1) hx hb hts (fun _ h => List.mem_cons_of_mem _ (List.mem_append_right _ h)) tyX1 tyX1_ok hown (hts (.classLink RX3 9 RX1) (by decide +kernel)) (hts (.instantiable RX1 1) (by decide +kernel)) (hts (.initialized RX1) (by decide +kernel)) hK hP hD hS hA rfl (zfs (by decide)) (Nat.le_of_ble_eq_true rfl) (Nat.le_of_ble_eq_true rfl) dX3_init_101 (fun q16 H hP hD hS => ?_)
  have hP : va_P (dC, dI) vwCl [(q0, .inr (6, [.ref q1, .ref q2, .ref q3, .ref q4, .int 0, .ref q5, .ref q6, .ref q7, .int 0, .int 0])), (q1, .inl (k0, 24, .inr (.inr (.inr (.inr (va_up (va_up (va_up (va_up (fun _ => none) (0 : Int32).toNatClampNeg (some q8)) (1 : Int32).toNatClampNeg (some q10)) (2 : Int32).toNatClampNeg (some q12)) (3 : Int32).toNatClampNeg (some q14))))))), (q14, .inr (4, [.ref q15])), (q16, .inr (4, [.null]))] H := hP
  have hD : va_D A [(q0, .inr (6, [.ref q1, .ref q2, .ref q3, .ref q4, .int 0, .ref q5, .ref q6, .ref q7, .int 0, .int 0])), (q1, .inl (k0, 24, .inr (.inr (.inr (.inr (va_up (va_up (va_up (va_up (fun _ => none) (0 : Int32).toNatClampNeg (some q8)) (1 : Int32).toNatClampNeg (some q10)) (2 : Int32).toNatClampNeg (some q12)) (3 : Int32).toNatClampNeg (some q14))))))), (q14, .inr (4, [.ref q15])), (q16, .inr (4, [.null]))] := hD
  refine W.widen (k := 19) (n := 202) (Nat.le_of_ble_eq_true rfl) (Nat.le_of_ble_eq_true rfl) ?_
  refine lv_dup hx hb dX3_init_104 rfl ?_
  have hPc := hP.sub (ws' := [(q16, .inr (4, [.null]))]) [3] rfl
  have hDc := hD.sub (ws' := [(q16, .inr (4, [.null]))]) [3] (by decide) rfl
  have hKc := hK.sub (tys' := []) [] rfl
  have hFc := va_free (wc := [(q16, .inr (4, [.null]))]) hD hS hA [3] rfl
  refine va_callv (va_runIN (As := []) (rest := [.ref q16, .int 4, .ref q1]) ⟨hx, hb, hml, hown, hts⟩ (c_X1_init_2 l dC dI q16 H.size  ) ⟨va_cnB (host := "Seekwell") 0 hts gX3_init_X1_init_n31 rfl rfl rfl (hN.1 (RX3, 31, yX1_init, "Seekwell") (by decide +kernel)) (hts (.initialized RX1) (by decide +kernel)) (by decide +kernel) ⟨Nat.le_of_ble_eq_true rfl, Nat.le_of_ble_eq_true rfl⟩, rfl, hts (.instanceMethod yX1_init) (by decide +kernel)⟩ ⟨zB_blind, (zPre hPc hDc hKc hS hFc hZ hN)⟩ rfl rfl hl.1 rfl (lv_room (Nat.le_of_ble_eq_true rfl)) dX3_init_105 ⟨Nat.le_of_ble_eq_true rfl, Nat.le_of_ble_eq_true rfl⟩) hS (fun q _ h => hFc q h) hFc (fun u t H1 locs ht hvm hw hB hz1 hk1 hS => ?_)
  obtain ⟨q17, hP1, hK1, hD1⟩ := hB
  rw [ht] at hP1
  have hK1 := va_K.moved hvm.symm hK1
  obtain ⟨hP, hD⟩ := va_join (wr := [(q0, .inr (6, [.ref q1, .ref q2, .ref q3, .ref q4, .int 0, .ref q5, .ref q6, .ref q7, .int 0, .int 0])), (q1, .inl (k0, 24, .inr (.inr (.inr (.inr (va_up (va_up (va_up (va_up (fun _ => none) (0 : Int32).toNatClampNeg (some q8)) (1 : Int32).toNatClampNeg (some q10)) (2 : Int32).toNatClampNeg (some q12)) (3 : Int32).toNatClampNeg (some q14)))))))]) (w1 := [(q16, .inr (4, [.ref q17]))]) hP hD [3] [0, 1] rfl rfl (by decide) (by decide) hk1 hFc hP1 hD1
  have hK := (hK.sub (tys' := [(k0, (.object "Seekwell$Big"))]) [0] rfl).app hK1
  generalize H1 = H at hP hS ⊢
  have hP : va_P (dC, dI) vwCl [(q0, .inr (6, [.ref q1, .ref q2, .ref q3, .ref q4, .int 0, .ref q5, .ref q6, .ref q7, .int 0, .int 0])), (q1, .inl (k0, 24, .inr (.inr (.inr (.inr (va_up (va_up (va_up (va_up (fun _ => none) (0 : Int32).toNatClampNeg (some q8)) (1 : Int32).toNatClampNeg (some q10)) (2 : Int32).toNatClampNeg (some q12)) (3 : Int32).toNatClampNeg (some q14))))))), (q16, .inr (4, [.ref q17]))] H := hP
  have hD : va_D A [(q0, .inr (6, [.ref q1, .ref q2, .ref q3, .ref q4, .int 0, .ref q5, .ref q6, .ref q7, .int 0, .int 0])), (q1, .inl (k0, 24, .inr (.inr (.inr (.inr (va_up (va_up (va_up (va_up (fun _ => none) (0 : Int32).toNatClampNeg (some q8)) (1 : Int32).toNatClampNeg (some q10)) (2 : Int32).toNatClampNeg (some q12)) (3 : Int32).toNatClampNeg (some q14))))))), (q16, .inr (4, [.ref q17]))] := hD
  have hK : va_K (dC, dI) vwCl [(k0, (.object "Seekwell$Big"))] s := hK
  refine W.widen (k := 20) (n := 218) (Nat.le_of_ble_eq_true rfl) (Nat.le_of_ble_eq_true rfl) ?_
  refine va_astq (D := (dC, dI)) hx hb hK hP hD hS 1 0 2 4 rfl rfl rfl rfl (i := 4) (zin (by decide +kernel)) dX3_init_108 (fun H locs hP hD hS => ?_)
  have hP : va_P (dC, dI) vwCl [(q0, .inr (6, [.ref q1, .ref q2, .ref q3, .ref q4, .int 0, .ref q5, .ref q6, .ref q7, .int 0, .int 0])), (q1, .inl (k0, 24, .inr (.inr (.inr (.inr (va_up (va_up (va_up (va_up (va_up (fun _ => none) (0 : Int32).toNatClampNeg (some q8)) (1 : Int32).toNatClampNeg (some q10)) (2 : Int32).toNatClampNeg (some q12)) (3 : Int32).toNatClampNeg (some q14)) (4 : Int32).toNatClampNeg (some q16))))))), (q16, .inr (4, [.ref q17]))] H := hP
  have hD : va_D A [(q0, .inr (6, [.ref q1, .ref q2, .ref q3, .ref q4, .int 0, .ref q5, .ref q6, .ref q7, .int 0, .int 0])), (q1, .inl (k0, 24, .inr (.inr (.inr (.inr (va_up (va_up (va_up (va_up (va_up (fun _ => none) (0 : Int32).toNatClampNeg (some q8)) (1 : Int32).toNatClampNeg (some q10)) (2 : Int32).toNatClampNeg (some q12)) (3 : Int32).toNatClampNeg (some q14)) (4 : Int32).toNatClampNeg (some q16))))))), (q16, .inr (4, [.ref q17]))] := hD
  refine lv_iinc (v := 5) (lv' := [(1, .int 5), (0, .ref q0)]) hx hb dX3_init_109 hl (k := 0) rfl (by decide +kernel) (by decide) rfl (fun ls hl => ?_)
  refine lv_goto (tgt := 87) hx hb dX3_init_112 (by decide) ?_
  refine lv_iload_n hx hb dX3_init_87 rfl (lv_at hl 0 rfl) ?_
  refine lv_aload_n hx hb dX3_init_88 rfl (lv_at hl 1 rfl) ?_
  refine va_get (D := (dC, dI)) (ci := 6) (v := .ref q1) (C := RX3) (T := TX3) (N := 10) hx hb hts (fun _ h => List.mem_cons_of_mem _ (List.mem_append_left _ (List.mem_append_right _ h))) hown hK hP 0 rfl rfl 0 (by decide) (hts (.fieldLink RX3 11 "Seekwell$Finder" "worths" "[LSeekwell$Big;") (by decide +kernel)) (fun _ h9 => h9) rfl dX3_init_89 ?_
  refine va_alen (D := (dC, dI)) (v := 24) hx hb hK hP 1 0 rfl rfl (show Int32.ofNat 24 = 24 by decide +kernel) dX3_init_92 ?_
  refine lv_icmp_ge (tgt := 115) hx hb dX3_init_93 (by decide) (fun h9 => absurd h9 (show ¬ (24 : Int32) ≤ (5 : Int32) by decide +kernel)) (fun _ => ?_)
  refine lv_aload_n hx hb dX3_init_96 rfl (lv_at hl 1 rfl) ?_
  refine va_get (D := (dC, dI)) (ci := 6) (v := .ref q1) (C := RX3) (T := TX3) (N := 10) hx hb hts (fun _ h => List.mem_cons_of_mem _ (List.mem_append_left _ (List.mem_append_right _ h))) hown hK hP 0 rfl rfl 0 (by decide) (hts (.fieldLink RX3 11 "Seekwell$Finder" "worths" "[LSeekwell$Big;") (by decide +kernel)) (fun _ h9 => h9) rfl dX3_init_97 ?_
  refine lv_iload_n hx hb dX3_init_100 rfl (lv_at hl 0 rfl) ?_
  refine va_new (D := (dC, dI)) (ci := 4) (fs := [.null]) (C := RX1) (T := TX1) (N := 1) hx hb hts (fun _ h => List.mem_cons_of_mem _ (List.mem_append_right _ h)) tyX1 tyX1_ok hown (hts (.classLink RX3 9 RX1) (by decide +kernel)) (hts (.instantiable RX1 1) (by decide +kernel)) (hts (.initialized RX1) (by decide +kernel)) hK hP hD hS hA rfl (zfs (by decide)) (Nat.le_of_ble_eq_true rfl) (Nat.le_of_ble_eq_true rfl) dX3_init_101 (fun q18 H hP hD hS => ?_)
  have hP : va_P (dC, dI) vwCl [(q0, .inr (6, [.ref q1, .ref q2, .ref q3, .ref q4, .int 0, .ref q5, .ref q6, .ref q7, .int 0, .int 0])), (q1, .inl (k0, 24, .inr (.inr (.inr (.inr (va_up (va_up (va_up (va_up (va_up (fun _ => none) (0 : Int32).toNatClampNeg (some q8)) (1 : Int32).toNatClampNeg (some q10)) (2 : Int32).toNatClampNeg (some q12)) (3 : Int32).toNatClampNeg (some q14)) (4 : Int32).toNatClampNeg (some q16))))))), (q16, .inr (4, [.ref q17])), (q18, .inr (4, [.null]))] H := hP
  have hD : va_D A [(q0, .inr (6, [.ref q1, .ref q2, .ref q3, .ref q4, .int 0, .ref q5, .ref q6, .ref q7, .int 0, .int 0])), (q1, .inl (k0, 24, .inr (.inr (.inr (.inr (va_up (va_up (va_up (va_up (va_up (fun _ => none) (0 : Int32).toNatClampNeg (some q8)) (1 : Int32).toNatClampNeg (some q10)) (2 : Int32).toNatClampNeg (some q12)) (3 : Int32).toNatClampNeg (some q14)) (4 : Int32).toNatClampNeg (some q16))))))), (q16, .inr (4, [.ref q17])), (q18, .inr (4, [.null]))] := hD
  refine W.widen (k := 21) (n := 219) (Nat.le_of_ble_eq_true rfl) (Nat.le_of_ble_eq_true rfl) ?_
  refine lv_dup hx hb dX3_init_104 rfl ?_
  have hPc := hP.sub (ws' := [(q18, .inr (4, [.null]))]) [3] rfl
  have hDc := hD.sub (ws' := [(q18, .inr (4, [.null]))]) [3] (by decide) rfl
  have hKc := hK.sub (tys' := []) [] rfl
  have hFc := va_free (wc := [(q18, .inr (4, [.null]))]) hD hS hA [3] rfl
  refine va_callv (va_runIN (As := []) (rest := [.ref q18, .int 5, .ref q1]) ⟨hx, hb, hml, hown, hts⟩ (c_X1_init_2 l dC dI q18 H.size  ) ⟨va_cnB (host := "Seekwell") 0 hts gX3_init_X1_init_n31 rfl rfl rfl (hN.1 (RX3, 31, yX1_init, "Seekwell") (by decide +kernel)) (hts (.initialized RX1) (by decide +kernel)) (by decide +kernel) ⟨Nat.le_of_ble_eq_true rfl, Nat.le_of_ble_eq_true rfl⟩, rfl, hts (.instanceMethod yX1_init) (by decide +kernel)⟩ ⟨zB_blind, (zPre hPc hDc hKc hS hFc hZ hN)⟩ rfl rfl hl.1 rfl (lv_room (Nat.le_of_ble_eq_true rfl)) dX3_init_105 ⟨Nat.le_of_ble_eq_true rfl, Nat.le_of_ble_eq_true rfl⟩) hS (fun q _ h => hFc q h) hFc (fun u t H1 locs ht hvm hw hB hz1 hk1 hS => ?_)
  obtain ⟨q19, hP1, hK1, hD1⟩ := hB
  rw [ht] at hP1
  have hK1 := va_K.moved hvm.symm hK1
  obtain ⟨hP, hD⟩ := va_join (wr := [(q0, .inr (6, [.ref q1, .ref q2, .ref q3, .ref q4, .int 0, .ref q5, .ref q6, .ref q7, .int 0, .int 0])), (q1, .inl (k0, 24, .inr (.inr (.inr (.inr (va_up (va_up (va_up (va_up (va_up (fun _ => none) (0 : Int32).toNatClampNeg (some q8)) (1 : Int32).toNatClampNeg (some q10)) (2 : Int32).toNatClampNeg (some q12)) (3 : Int32).toNatClampNeg (some q14)) (4 : Int32).toNatClampNeg (some q16)))))))]) (w1 := [(q18, .inr (4, [.ref q19]))]) hP hD [3] [0, 1] rfl rfl (by decide) (by decide) hk1 hFc hP1 hD1
  have hK := (hK.sub (tys' := [(k0, (.object "Seekwell$Big"))]) [0] rfl).app hK1
  generalize H1 = H at hP hS ⊢
  have hP : va_P (dC, dI) vwCl [(q0, .inr (6, [.ref q1, .ref q2, .ref q3, .ref q4, .int 0, .ref q5, .ref q6, .ref q7, .int 0, .int 0])), (q1, .inl (k0, 24, .inr (.inr (.inr (.inr (va_up (va_up (va_up (va_up (va_up (fun _ => none) (0 : Int32).toNatClampNeg (some q8)) (1 : Int32).toNatClampNeg (some q10)) (2 : Int32).toNatClampNeg (some q12)) (3 : Int32).toNatClampNeg (some q14)) (4 : Int32).toNatClampNeg (some q16))))))), (q18, .inr (4, [.ref q19]))] H := hP
  have hD : va_D A [(q0, .inr (6, [.ref q1, .ref q2, .ref q3, .ref q4, .int 0, .ref q5, .ref q6, .ref q7, .int 0, .int 0])), (q1, .inl (k0, 24, .inr (.inr (.inr (.inr (va_up (va_up (va_up (va_up (va_up (fun _ => none) (0 : Int32).toNatClampNeg (some q8)) (1 : Int32).toNatClampNeg (some q10)) (2 : Int32).toNatClampNeg (some q12)) (3 : Int32).toNatClampNeg (some q14)) (4 : Int32).toNatClampNeg (some q16))))))), (q18, .inr (4, [.ref q19]))] := hD
  have hK : va_K (dC, dI) vwCl [(k0, (.object "Seekwell$Big"))] s := hK
  refine W.widen (k := 22) (n := 235) (Nat.le_of_ble_eq_true rfl) (Nat.le_of_ble_eq_true rfl) ?_
  refine va_astq (D := (dC, dI)) hx hb hK hP hD hS 1 0 2 4 rfl rfl rfl rfl (i := 5) (zin (by decide +kernel)) dX3_init_108 (fun H locs hP hD hS => ?_)
  have hP : va_P (dC, dI) vwCl [(q0, .inr (6, [.ref q1, .ref q2, .ref q3, .ref q4, .int 0, .ref q5, .ref q6, .ref q7, .int 0, .int 0])), (q1, .inl (k0, 24, .inr (.inr (.inr (.inr (va_up (va_up (va_up (va_up (va_up (va_up (fun _ => none) (0 : Int32).toNatClampNeg (some q8)) (1 : Int32).toNatClampNeg (some q10)) (2 : Int32).toNatClampNeg (some q12)) (3 : Int32).toNatClampNeg (some q14)) (4 : Int32).toNatClampNeg (some q16)) (5 : Int32).toNatClampNeg (some q18))))))), (q18, .inr (4, [.ref q19]))] H := hP
  have hD : va_D A [(q0, .inr (6, [.ref q1, .ref q2, .ref q3, .ref q4, .int 0, .ref q5, .ref q6, .ref q7, .int 0, .int 0])), (q1, .inl (k0, 24, .inr (.inr (.inr (.inr (va_up (va_up (va_up (va_up (va_up (va_up (fun _ => none) (0 : Int32).toNatClampNeg (some q8)) (1 : Int32).toNatClampNeg (some q10)) (2 : Int32).toNatClampNeg (some q12)) (3 : Int32).toNatClampNeg (some q14)) (4 : Int32).toNatClampNeg (some q16)) (5 : Int32).toNatClampNeg (some q18))))))), (q18, .inr (4, [.ref q19]))] := hD
  refine lv_iinc (v := 6) (lv' := [(1, .int 6), (0, .ref q0)]) hx hb dX3_init_109 hl (k := 0) rfl (by decide +kernel) (by decide) rfl (fun ls hl => ?_)
  refine lv_goto (tgt := 87) hx hb dX3_init_112 (by decide) ?_
  refine lv_iload_n hx hb dX3_init_87 rfl (lv_at hl 0 rfl) ?_
  refine lv_aload_n hx hb dX3_init_88 rfl (lv_at hl 1 rfl) ?_
  refine va_get (D := (dC, dI)) (ci := 6) (v := .ref q1) (C := RX3) (T := TX3) (N := 10) hx hb hts (fun _ h => List.mem_cons_of_mem _ (List.mem_append_left _ (List.mem_append_right _ h))) hown hK hP 0 rfl rfl 0 (by decide) (hts (.fieldLink RX3 11 "Seekwell$Finder" "worths" "[LSeekwell$Big;") (by decide +kernel)) (fun _ h9 => h9) rfl dX3_init_89 ?_
  refine va_alen (D := (dC, dI)) (v := 24) hx hb hK hP 1 0 rfl rfl (show Int32.ofNat 24 = 24 by decide +kernel) dX3_init_92 ?_
  refine lv_icmp_ge (tgt := 115) hx hb dX3_init_93 (by decide) (fun h9 => absurd h9 (show ¬ (24 : Int32) ≤ (6 : Int32) by decide +kernel)) (fun _ => ?_)
  refine lv_aload_n hx hb dX3_init_96 rfl (lv_at hl 1 rfl) ?_
  refine va_get (D := (dC, dI)) (ci := 6) (v := .ref q1) (C := RX3) (T := TX3) (N := 10) hx hb hts (fun _ h => List.mem_cons_of_mem _ (List.mem_append_left _ (List.mem_append_right _ h))) hown hK hP 0 rfl rfl 0 (by decide) (hts (.fieldLink RX3 11 "Seekwell$Finder" "worths" "[LSeekwell$Big;") (by decide +kernel)) (fun _ h9 => h9) rfl dX3_init_97 ?_
  refine lv_iload_n hx hb dX3_init_100 rfl (lv_at hl 0 rfl) ?_
  refine va_new (D := (dC, dI)) (ci := 4) (fs := [.null]) (C := RX1) (T := TX1) (N := 1) hx hb hts (fun _ h => List.mem_cons_of_mem _ (List.mem_append_right _ h)) tyX1 tyX1_ok hown (hts (.classLink RX3 9 RX1) (by decide +kernel)) (hts (.instantiable RX1 1) (by decide +kernel)) (hts (.initialized RX1) (by decide +kernel)) hK hP hD hS hA rfl (zfs (by decide)) (Nat.le_of_ble_eq_true rfl) (Nat.le_of_ble_eq_true rfl) dX3_init_101 (fun q20 H hP hD hS => ?_)
  have hP : va_P (dC, dI) vwCl [(q0, .inr (6, [.ref q1, .ref q2, .ref q3, .ref q4, .int 0, .ref q5, .ref q6, .ref q7, .int 0, .int 0])), (q1, .inl (k0, 24, .inr (.inr (.inr (.inr (va_up (va_up (va_up (va_up (va_up (va_up (fun _ => none) (0 : Int32).toNatClampNeg (some q8)) (1 : Int32).toNatClampNeg (some q10)) (2 : Int32).toNatClampNeg (some q12)) (3 : Int32).toNatClampNeg (some q14)) (4 : Int32).toNatClampNeg (some q16)) (5 : Int32).toNatClampNeg (some q18))))))), (q18, .inr (4, [.ref q19])), (q20, .inr (4, [.null]))] H := hP
  have hD : va_D A [(q0, .inr (6, [.ref q1, .ref q2, .ref q3, .ref q4, .int 0, .ref q5, .ref q6, .ref q7, .int 0, .int 0])), (q1, .inl (k0, 24, .inr (.inr (.inr (.inr (va_up (va_up (va_up (va_up (va_up (va_up (fun _ => none) (0 : Int32).toNatClampNeg (some q8)) (1 : Int32).toNatClampNeg (some q10)) (2 : Int32).toNatClampNeg (some q12)) (3 : Int32).toNatClampNeg (some q14)) (4 : Int32).toNatClampNeg (some q16)) (5 : Int32).toNatClampNeg (some q18))))))), (q18, .inr (4, [.ref q19])), (q20, .inr (4, [.null]))] := hD
  refine W.widen (k := 23) (n := 236) (Nat.le_of_ble_eq_true rfl) (Nat.le_of_ble_eq_true rfl) ?_
  refine lv_dup hx hb dX3_init_104 rfl ?_
  have hPc := hP.sub (ws' := [(q20, .inr (4, [.null]))]) [3] rfl
  have hDc := hD.sub (ws' := [(q20, .inr (4, [.null]))]) [3] (by decide) rfl
  have hKc := hK.sub (tys' := []) [] rfl
  have hFc := va_free (wc := [(q20, .inr (4, [.null]))]) hD hS hA [3] rfl
  refine va_callv (va_runIN (As := []) (rest := [.ref q20, .int 6, .ref q1]) ⟨hx, hb, hml, hown, hts⟩ (c_X1_init_2 l dC dI q20 H.size  ) ⟨va_cnB (host := "Seekwell") 0 hts gX3_init_X1_init_n31 rfl rfl rfl (hN.1 (RX3, 31, yX1_init, "Seekwell") (by decide +kernel)) (hts (.initialized RX1) (by decide +kernel)) (by decide +kernel) ⟨Nat.le_of_ble_eq_true rfl, Nat.le_of_ble_eq_true rfl⟩, rfl, hts (.instanceMethod yX1_init) (by decide +kernel)⟩ ⟨zB_blind, (zPre hPc hDc hKc hS hFc hZ hN)⟩ rfl rfl hl.1 rfl (lv_room (Nat.le_of_ble_eq_true rfl)) dX3_init_105 ⟨Nat.le_of_ble_eq_true rfl, Nat.le_of_ble_eq_true rfl⟩) hS (fun q _ h => hFc q h) hFc (fun u t H1 locs ht hvm hw hB hz1 hk1 hS => ?_)
  obtain ⟨q21, hP1, hK1, hD1⟩ := hB
  rw [ht] at hP1
  have hK1 := va_K.moved hvm.symm hK1
  obtain ⟨hP, hD⟩ := va_join (wr := [(q0, .inr (6, [.ref q1, .ref q2, .ref q3, .ref q4, .int 0, .ref q5, .ref q6, .ref q7, .int 0, .int 0])), (q1, .inl (k0, 24, .inr (.inr (.inr (.inr (va_up (va_up (va_up (va_up (va_up (va_up (fun _ => none) (0 : Int32).toNatClampNeg (some q8)) (1 : Int32).toNatClampNeg (some q10)) (2 : Int32).toNatClampNeg (some q12)) (3 : Int32).toNatClampNeg (some q14)) (4 : Int32).toNatClampNeg (some q16)) (5 : Int32).toNatClampNeg (some q18)))))))]) (w1 := [(q20, .inr (4, [.ref q21]))]) hP hD [3] [0, 1] rfl rfl (by decide) (by decide) hk1 hFc hP1 hD1
  have hK := (hK.sub (tys' := [(k0, (.object "Seekwell$Big"))]) [0] rfl).app hK1
  generalize H1 = H at hP hS ⊢
  have hP : va_P (dC, dI) vwCl [(q0, .inr (6, [.ref q1, .ref q2, .ref q3, .ref q4, .int 0, .ref q5, .ref q6, .ref q7, .int 0, .int 0])), (q1, .inl (k0, 24, .inr (.inr (.inr (.inr (va_up (va_up (va_up (va_up (va_up (va_up (fun _ => none) (0 : Int32).toNatClampNeg (some q8)) (1 : Int32).toNatClampNeg (some q10)) (2 : Int32).toNatClampNeg (some q12)) (3 : Int32).toNatClampNeg (some q14)) (4 : Int32).toNatClampNeg (some q16)) (5 : Int32).toNatClampNeg (some q18))))))), (q20, .inr (4, [.ref q21]))] H := hP
  have hD : va_D A [(q0, .inr (6, [.ref q1, .ref q2, .ref q3, .ref q4, .int 0, .ref q5, .ref q6, .ref q7, .int 0, .int 0])), (q1, .inl (k0, 24, .inr (.inr (.inr (.inr (va_up (va_up (va_up (va_up (va_up (va_up (fun _ => none) (0 : Int32).toNatClampNeg (some q8)) (1 : Int32).toNatClampNeg (some q10)) (2 : Int32).toNatClampNeg (some q12)) (3 : Int32).toNatClampNeg (some q14)) (4 : Int32).toNatClampNeg (some q16)) (5 : Int32).toNatClampNeg (some q18))))))), (q20, .inr (4, [.ref q21]))] := hD
  have hK : va_K (dC, dI) vwCl [(k0, (.object "Seekwell$Big"))] s := hK
  refine W.widen (k := 24) (n := 252) (Nat.le_of_ble_eq_true rfl) (Nat.le_of_ble_eq_true rfl) ?_
  refine va_astq (D := (dC, dI)) hx hb hK hP hD hS 1 0 2 4 rfl rfl rfl rfl (i := 6) (zin (by decide +kernel)) dX3_init_108 (fun H locs hP hD hS => ?_)
  have hP : va_P (dC, dI) vwCl [(q0, .inr (6, [.ref q1, .ref q2, .ref q3, .ref q4, .int 0, .ref q5, .ref q6, .ref q7, .int 0, .int 0])), (q1, .inl (k0, 24, .inr (.inr (.inr (.inr (va_up (va_up (va_up (va_up (va_up (va_up (va_up (fun _ => none) (0 : Int32).toNatClampNeg (some q8)) (1 : Int32).toNatClampNeg (some q10)) (2 : Int32).toNatClampNeg (some q12)) (3 : Int32).toNatClampNeg (some q14)) (4 : Int32).toNatClampNeg (some q16)) (5 : Int32).toNatClampNeg (some q18)) (6 : Int32).toNatClampNeg (some q20))))))), (q20, .inr (4, [.ref q21]))] H := hP
  have hD : va_D A [(q0, .inr (6, [.ref q1, .ref q2, .ref q3, .ref q4, .int 0, .ref q5, .ref q6, .ref q7, .int 0, .int 0])), (q1, .inl (k0, 24, .inr (.inr (.inr (.inr (va_up (va_up (va_up (va_up (va_up (va_up (va_up (fun _ => none) (0 : Int32).toNatClampNeg (some q8)) (1 : Int32).toNatClampNeg (some q10)) (2 : Int32).toNatClampNeg (some q12)) (3 : Int32).toNatClampNeg (some q14)) (4 : Int32).toNatClampNeg (some q16)) (5 : Int32).toNatClampNeg (some q18)) (6 : Int32).toNatClampNeg (some q20))))))), (q20, .inr (4, [.ref q21]))] := hD
  refine lv_iinc (v := 7) (lv' := [(1, .int 7), (0, .ref q0)]) hx hb dX3_init_109 hl (k := 0) rfl (by decide +kernel) (by decide) rfl (fun ls hl => ?_)
  refine lv_goto (tgt := 87) hx hb dX3_init_112 (by decide) ?_
  refine lv_iload_n hx hb dX3_init_87 rfl (lv_at hl 0 rfl) ?_
  refine lv_aload_n hx hb dX3_init_88 rfl (lv_at hl 1 rfl) ?_
  refine va_get (D := (dC, dI)) (ci := 6) (v := .ref q1) (C := RX3) (T := TX3) (N := 10) hx hb hts (fun _ h => List.mem_cons_of_mem _ (List.mem_append_left _ (List.mem_append_right _ h))) hown hK hP 0 rfl rfl 0 (by decide) (hts (.fieldLink RX3 11 "Seekwell$Finder" "worths" "[LSeekwell$Big;") (by decide +kernel)) (fun _ h9 => h9) rfl dX3_init_89 ?_
  refine va_alen (D := (dC, dI)) (v := 24) hx hb hK hP 1 0 rfl rfl (show Int32.ofNat 24 = 24 by decide +kernel) dX3_init_92 ?_
  refine lv_icmp_ge (tgt := 115) hx hb dX3_init_93 (by decide) (fun h9 => absurd h9 (show ¬ (24 : Int32) ≤ (7 : Int32) by decide +kernel)) (fun _ => ?_)
  refine lv_aload_n hx hb dX3_init_96 rfl (lv_at hl 1 rfl) ?_
  refine va_get (D := (dC, dI)) (ci := 6) (v := .ref q1) (C := RX3) (T := TX3) (N := 10) hx hb hts (fun _ h => List.mem_cons_of_mem _ (List.mem_append_left _ (List.mem_append_right _ h))) hown hK hP 0 rfl rfl 0 (by decide) (hts (.fieldLink RX3 11 "Seekwell$Finder" "worths" "[LSeekwell$Big;") (by decide +kernel)) (fun _ h9 => h9) rfl dX3_init_97 ?_
  refine lv_iload_n hx hb dX3_init_100 rfl (lv_at hl 0 rfl) ?_
  refine va_new (D := (dC, dI)) (ci := 4) (fs := [.null]) (C := RX1) (T := TX1) (N := 1) hx hb hts (fun _ h => List.mem_cons_of_mem _ (List.mem_append_right _ h)) tyX1 tyX1_ok hown (hts (.classLink RX3 9 RX1) (by decide +kernel)) (hts (.instantiable RX1 1) (by decide +kernel)) (hts (.initialized RX1) (by decide +kernel)) hK hP hD hS hA rfl (zfs (by decide)) (Nat.le_of_ble_eq_true rfl) (Nat.le_of_ble_eq_true rfl) dX3_init_101 (fun q22 H hP hD hS => ?_)
  have hP : va_P (dC, dI) vwCl [(q0, .inr (6, [.ref q1, .ref q2, .ref q3, .ref q4, .int 0, .ref q5, .ref q6, .ref q7, .int 0, .int 0])), (q1, .inl (k0, 24, .inr (.inr (.inr (.inr (va_up (va_up (va_up (va_up (va_up (va_up (va_up (fun _ => none) (0 : Int32).toNatClampNeg (some q8)) (1 : Int32).toNatClampNeg (some q10)) (2 : Int32).toNatClampNeg (some q12)) (3 : Int32).toNatClampNeg (some q14)) (4 : Int32).toNatClampNeg (some q16)) (5 : Int32).toNatClampNeg (some q18)) (6 : Int32).toNatClampNeg (some q20))))))), (q20, .inr (4, [.ref q21])), (q22, .inr (4, [.null]))] H := hP
  have hD : va_D A [(q0, .inr (6, [.ref q1, .ref q2, .ref q3, .ref q4, .int 0, .ref q5, .ref q6, .ref q7, .int 0, .int 0])), (q1, .inl (k0, 24, .inr (.inr (.inr (.inr (va_up (va_up (va_up (va_up (va_up (va_up (va_up (fun _ => none) (0 : Int32).toNatClampNeg (some q8)) (1 : Int32).toNatClampNeg (some q10)) (2 : Int32).toNatClampNeg (some q12)) (3 : Int32).toNatClampNeg (some q14)) (4 : Int32).toNatClampNeg (some q16)) (5 : Int32).toNatClampNeg (some q18)) (6 : Int32).toNatClampNeg (some q20))))))), (q20, .inr (4, [.ref q21])), (q22, .inr (4, [.null]))] := hD
  refine W.widen (k := 25) (n := 253) (Nat.le_of_ble_eq_true rfl) (Nat.le_of_ble_eq_true rfl) ?_
  refine lv_dup hx hb dX3_init_104 rfl ?_
  have hPc := hP.sub (ws' := [(q22, .inr (4, [.null]))]) [3] rfl
  have hDc := hD.sub (ws' := [(q22, .inr (4, [.null]))]) [3] (by decide) rfl
  have hKc := hK.sub (tys' := []) [] rfl
  have hFc := va_free (wc := [(q22, .inr (4, [.null]))]) hD hS hA [3] rfl
  refine va_callv (va_runIN (As := []) (rest := [.ref q22, .int 7, .ref q1]) ⟨hx, hb, hml, hown, hts⟩ (c_X1_init_2 l dC dI q22 H.size  ) ⟨va_cnB (host := "Seekwell") 0 hts gX3_init_X1_init_n31 rfl rfl rfl (hN.1 (RX3, 31, yX1_init, "Seekwell") (by decide +kernel)) (hts (.initialized RX1) (by decide +kernel)) (by decide +kernel) ⟨Nat.le_of_ble_eq_true rfl, Nat.le_of_ble_eq_true rfl⟩, rfl, hts (.instanceMethod yX1_init) (by decide +kernel)⟩ ⟨zB_blind, (zPre hPc hDc hKc hS hFc hZ hN)⟩ rfl rfl hl.1 rfl (lv_room (Nat.le_of_ble_eq_true rfl)) dX3_init_105 ⟨Nat.le_of_ble_eq_true rfl, Nat.le_of_ble_eq_true rfl⟩) hS (fun q _ h => hFc q h) hFc (fun u t H1 locs ht hvm hw hB hz1 hk1 hS => ?_)
  obtain ⟨q23, hP1, hK1, hD1⟩ := hB
  rw [ht] at hP1
  have hK1 := va_K.moved hvm.symm hK1
  obtain ⟨hP, hD⟩ := va_join (wr := [(q0, .inr (6, [.ref q1, .ref q2, .ref q3, .ref q4, .int 0, .ref q5, .ref q6, .ref q7, .int 0, .int 0])), (q1, .inl (k0, 24, .inr (.inr (.inr (.inr (va_up (va_up (va_up (va_up (va_up (va_up (va_up (fun _ => none) (0 : Int32).toNatClampNeg (some q8)) (1 : Int32).toNatClampNeg (some q10)) (2 : Int32).toNatClampNeg (some q12)) (3 : Int32).toNatClampNeg (some q14)) (4 : Int32).toNatClampNeg (some q16)) (5 : Int32).toNatClampNeg (some q18)) (6 : Int32).toNatClampNeg (some q20)))))))]) (w1 := [(q22, .inr (4, [.ref q23]))]) hP hD [3] [0, 1] rfl rfl (by decide) (by decide) hk1 hFc hP1 hD1
  have hK := (hK.sub (tys' := [(k0, (.object "Seekwell$Big"))]) [0] rfl).app hK1
  generalize H1 = H at hP hS ⊢
  have hP : va_P (dC, dI) vwCl [(q0, .inr (6, [.ref q1, .ref q2, .ref q3, .ref q4, .int 0, .ref q5, .ref q6, .ref q7, .int 0, .int 0])), (q1, .inl (k0, 24, .inr (.inr (.inr (.inr (va_up (va_up (va_up (va_up (va_up (va_up (va_up (fun _ => none) (0 : Int32).toNatClampNeg (some q8)) (1 : Int32).toNatClampNeg (some q10)) (2 : Int32).toNatClampNeg (some q12)) (3 : Int32).toNatClampNeg (some q14)) (4 : Int32).toNatClampNeg (some q16)) (5 : Int32).toNatClampNeg (some q18)) (6 : Int32).toNatClampNeg (some q20))))))), (q22, .inr (4, [.ref q23]))] H := hP
  have hD : va_D A [(q0, .inr (6, [.ref q1, .ref q2, .ref q3, .ref q4, .int 0, .ref q5, .ref q6, .ref q7, .int 0, .int 0])), (q1, .inl (k0, 24, .inr (.inr (.inr (.inr (va_up (va_up (va_up (va_up (va_up (va_up (va_up (fun _ => none) (0 : Int32).toNatClampNeg (some q8)) (1 : Int32).toNatClampNeg (some q10)) (2 : Int32).toNatClampNeg (some q12)) (3 : Int32).toNatClampNeg (some q14)) (4 : Int32).toNatClampNeg (some q16)) (5 : Int32).toNatClampNeg (some q18)) (6 : Int32).toNatClampNeg (some q20))))))), (q22, .inr (4, [.ref q23]))] := hD
  have hK : va_K (dC, dI) vwCl [(k0, (.object "Seekwell$Big"))] s := hK
  refine W.widen (k := 26) (n := 269) (Nat.le_of_ble_eq_true rfl) (Nat.le_of_ble_eq_true rfl) ?_
  refine va_astq (D := (dC, dI)) hx hb hK hP hD hS 1 0 2 4 rfl rfl rfl rfl (i := 7) (zin (by decide +kernel)) dX3_init_108 (fun H locs hP hD hS => ?_)
  have hP : va_P (dC, dI) vwCl [(q0, .inr (6, [.ref q1, .ref q2, .ref q3, .ref q4, .int 0, .ref q5, .ref q6, .ref q7, .int 0, .int 0])), (q1, .inl (k0, 24, .inr (.inr (.inr (.inr (va_up (va_up (va_up (va_up (va_up (va_up (va_up (va_up (fun _ => none) (0 : Int32).toNatClampNeg (some q8)) (1 : Int32).toNatClampNeg (some q10)) (2 : Int32).toNatClampNeg (some q12)) (3 : Int32).toNatClampNeg (some q14)) (4 : Int32).toNatClampNeg (some q16)) (5 : Int32).toNatClampNeg (some q18)) (6 : Int32).toNatClampNeg (some q20)) (7 : Int32).toNatClampNeg (some q22))))))), (q22, .inr (4, [.ref q23]))] H := hP
  have hD : va_D A [(q0, .inr (6, [.ref q1, .ref q2, .ref q3, .ref q4, .int 0, .ref q5, .ref q6, .ref q7, .int 0, .int 0])), (q1, .inl (k0, 24, .inr (.inr (.inr (.inr (va_up (va_up (va_up (va_up (va_up (va_up (va_up (va_up (fun _ => none) (0 : Int32).toNatClampNeg (some q8)) (1 : Int32).toNatClampNeg (some q10)) (2 : Int32).toNatClampNeg (some q12)) (3 : Int32).toNatClampNeg (some q14)) (4 : Int32).toNatClampNeg (some q16)) (5 : Int32).toNatClampNeg (some q18)) (6 : Int32).toNatClampNeg (some q20)) (7 : Int32).toNatClampNeg (some q22))))))), (q22, .inr (4, [.ref q23]))] := hD
  refine lv_iinc (v := 8) (lv' := [(1, .int 8), (0, .ref q0)]) hx hb dX3_init_109 hl (k := 0) rfl (by decide +kernel) (by decide) rfl (fun ls hl => ?_)
  refine lv_goto (tgt := 87) hx hb dX3_init_112 (by decide) ?_
  refine lv_iload_n hx hb dX3_init_87 rfl (lv_at hl 0 rfl) ?_
  refine lv_aload_n hx hb dX3_init_88 rfl (lv_at hl 1 rfl) ?_
  refine va_get (D := (dC, dI)) (ci := 6) (v := .ref q1) (C := RX3) (T := TX3) (N := 10) hx hb hts (fun _ h => List.mem_cons_of_mem _ (List.mem_append_left _ (List.mem_append_right _ h))) hown hK hP 0 rfl rfl 0 (by decide) (hts (.fieldLink RX3 11 "Seekwell$Finder" "worths" "[LSeekwell$Big;") (by decide +kernel)) (fun _ h9 => h9) rfl dX3_init_89 ?_
  refine va_alen (D := (dC, dI)) (v := 24) hx hb hK hP 1 0 rfl rfl (show Int32.ofNat 24 = 24 by decide +kernel) dX3_init_92 ?_
  refine lv_icmp_ge (tgt := 115) hx hb dX3_init_93 (by decide) (fun h9 => absurd h9 (show ¬ (24 : Int32) ≤ (8 : Int32) by decide +kernel)) (fun _ => ?_)
  refine lv_aload_n hx hb dX3_init_96 rfl (lv_at hl 1 rfl) ?_
  refine va_get (D := (dC, dI)) (ci := 6) (v := .ref q1) (C := RX3) (T := TX3) (N := 10) hx hb hts (fun _ h => List.mem_cons_of_mem _ (List.mem_append_left _ (List.mem_append_right _ h))) hown hK hP 0 rfl rfl 0 (by decide) (hts (.fieldLink RX3 11 "Seekwell$Finder" "worths" "[LSeekwell$Big;") (by decide +kernel)) (fun _ h9 => h9) rfl dX3_init_97 ?_
  refine lv_iload_n hx hb dX3_init_100 rfl (lv_at hl 0 rfl) ?_
  refine va_new (D := (dC, dI)) (ci := 4) (fs := [.null]) (C := RX1) (T := TX1) (N := 1) hx hb hts (fun _ h => List.mem_cons_of_mem _ (List.mem_append_right _ h)) tyX1 tyX1_ok hown (hts (.classLink RX3 9 RX1) (by decide +kernel)) (hts (.instantiable RX1 1) (by decide +kernel)) (hts (.initialized RX1) (by decide +kernel)) hK hP hD hS hA rfl (zfs (by decide)) (Nat.le_of_ble_eq_true rfl) (Nat.le_of_ble_eq_true rfl) dX3_init_101 (fun q24 H hP hD hS => ?_)
  have hP : va_P (dC, dI) vwCl [(q0, .inr (6, [.ref q1, .ref q2, .ref q3, .ref q4, .int 0, .ref q5, .ref q6, .ref q7, .int 0, .int 0])), (q1, .inl (k0, 24, .inr (.inr (.inr (.inr (va_up (va_up (va_up (va_up (va_up (va_up (va_up (va_up (fun _ => none) (0 : Int32).toNatClampNeg (some q8)) (1 : Int32).toNatClampNeg (some q10)) (2 : Int32).toNatClampNeg (some q12)) (3 : Int32).toNatClampNeg (some q14)) (4 : Int32).toNatClampNeg (some q16)) (5 : Int32).toNatClampNeg (some q18)) (6 : Int32).toNatClampNeg (some q20)) (7 : Int32).toNatClampNeg (some q22))))))), (q22, .inr (4, [.ref q23])), (q24, .inr (4, [.null]))] H := hP
  have hD : va_D A [(q0, .inr (6, [.ref q1, .ref q2, .ref q3, .ref q4, .int 0, .ref q5, .ref q6, .ref q7, .int 0, .int 0])), (q1, .inl (k0, 24, .inr (.inr (.inr (.inr (va_up (va_up (va_up (va_up (va_up (va_up (va_up (va_up (fun _ => none) (0 : Int32).toNatClampNeg (some q8)) (1 : Int32).toNatClampNeg (some q10)) (2 : Int32).toNatClampNeg (some q12)) (3 : Int32).toNatClampNeg (some q14)) (4 : Int32).toNatClampNeg (some q16)) (5 : Int32).toNatClampNeg (some q18)) (6 : Int32).toNatClampNeg (some q20)) (7 : Int32).toNatClampNeg (some q22))))))), (q22, .inr (4, [.ref q23])), (q24, .inr (4, [.null]))] := hD
  refine W.widen (k := 27) (n := 270) (Nat.le_of_ble_eq_true rfl) (Nat.le_of_ble_eq_true rfl) ?_
  refine lv_dup hx hb dX3_init_104 rfl ?_
  have hPc := hP.sub (ws' := [(q24, .inr (4, [.null]))]) [3] rfl
  have hDc := hD.sub (ws' := [(q24, .inr (4, [.null]))]) [3] (by decide) rfl
  have hKc := hK.sub (tys' := []) [] rfl
  have hFc := va_free (wc := [(q24, .inr (4, [.null]))]) hD hS hA [3] rfl
  refine va_callv (va_runIN (As := []) (rest := [.ref q24, .int 8, .ref q1]) ⟨hx, hb, hml, hown, hts⟩ (c_X1_init_2 l dC dI q24 H.size  ) ⟨va_cnB (host := "Seekwell") 0 hts gX3_init_X1_init_n31 rfl rfl rfl (hN.1 (RX3, 31, yX1_init, "Seekwell") (by decide +kernel)) (hts (.initialized RX1) (by decide +kernel)) (by decide +kernel) ⟨Nat.le_of_ble_eq_true rfl, Nat.le_of_ble_eq_true rfl⟩, rfl, hts (.instanceMethod yX1_init) (by decide +kernel)⟩ ⟨zB_blind, (zPre hPc hDc hKc hS hFc hZ hN)⟩ rfl rfl hl.1 rfl (lv_room (Nat.le_of_ble_eq_true rfl)) dX3_init_105 ⟨Nat.le_of_ble_eq_true rfl, Nat.le_of_ble_eq_true rfl⟩) hS (fun q _ h => hFc q h) hFc (fun u t H1 locs ht hvm hw hB hz1 hk1 hS => ?_)
  obtain ⟨q25, hP1, hK1, hD1⟩ := hB
  rw [ht] at hP1
  have hK1 := va_K.moved hvm.symm hK1
  obtain ⟨hP, hD⟩ := va_join (wr := [(q0, .inr (6, [.ref q1, .ref q2, .ref q3, .ref q4, .int 0, .ref q5, .ref q6, .ref q7, .int 0, .int 0])), (q1, .inl (k0, 24, .inr (.inr (.inr (.inr (va_up (va_up (va_up (va_up (va_up (va_up (va_up (va_up (fun _ => none) (0 : Int32).toNatClampNeg (some q8)) (1 : Int32).toNatClampNeg (some q10)) (2 : Int32).toNatClampNeg (some q12)) (3 : Int32).toNatClampNeg (some q14)) (4 : Int32).toNatClampNeg (some q16)) (5 : Int32).toNatClampNeg (some q18)) (6 : Int32).toNatClampNeg (some q20)) (7 : Int32).toNatClampNeg (some q22)))))))]) (w1 := [(q24, .inr (4, [.ref q25]))]) hP hD [3] [0, 1] rfl rfl (by decide) (by decide) hk1 hFc hP1 hD1
  have hK := (hK.sub (tys' := [(k0, (.object "Seekwell$Big"))]) [0] rfl).app hK1
  generalize H1 = H at hP hS ⊢
  have hP : va_P (dC, dI) vwCl [(q0, .inr (6, [.ref q1, .ref q2, .ref q3, .ref q4, .int 0, .ref q5, .ref q6, .ref q7, .int 0, .int 0])), (q1, .inl (k0, 24, .inr (.inr (.inr (.inr (va_up (va_up (va_up (va_up (va_up (va_up (va_up (va_up (fun _ => none) (0 : Int32).toNatClampNeg (some q8)) (1 : Int32).toNatClampNeg (some q10)) (2 : Int32).toNatClampNeg (some q12)) (3 : Int32).toNatClampNeg (some q14)) (4 : Int32).toNatClampNeg (some q16)) (5 : Int32).toNatClampNeg (some q18)) (6 : Int32).toNatClampNeg (some q20)) (7 : Int32).toNatClampNeg (some q22))))))), (q24, .inr (4, [.ref q25]))] H := hP
  have hD : va_D A [(q0, .inr (6, [.ref q1, .ref q2, .ref q3, .ref q4, .int 0, .ref q5, .ref q6, .ref q7, .int 0, .int 0])), (q1, .inl (k0, 24, .inr (.inr (.inr (.inr (va_up (va_up (va_up (va_up (va_up (va_up (va_up (va_up (fun _ => none) (0 : Int32).toNatClampNeg (some q8)) (1 : Int32).toNatClampNeg (some q10)) (2 : Int32).toNatClampNeg (some q12)) (3 : Int32).toNatClampNeg (some q14)) (4 : Int32).toNatClampNeg (some q16)) (5 : Int32).toNatClampNeg (some q18)) (6 : Int32).toNatClampNeg (some q20)) (7 : Int32).toNatClampNeg (some q22))))))), (q24, .inr (4, [.ref q25]))] := hD
  have hK : va_K (dC, dI) vwCl [(k0, (.object "Seekwell$Big"))] s := hK
  refine W.widen (k := 28) (n := 286) (Nat.le_of_ble_eq_true rfl) (Nat.le_of_ble_eq_true rfl) ?_
  refine va_astq (D := (dC, dI)) hx hb hK hP hD hS 1 0 2 4 rfl rfl rfl rfl (i := 8) (zin (by decide +kernel)) dX3_init_108 (fun H locs hP hD hS => ?_)
  have hP : va_P (dC, dI) vwCl [(q0, .inr (6, [.ref q1, .ref q2, .ref q3, .ref q4, .int 0, .ref q5, .ref q6, .ref q7, .int 0, .int 0])), (q1, .inl (k0, 24, .inr (.inr (.inr (.inr (va_up (va_up (va_up (va_up (va_up (va_up (va_up (va_up (va_up (fun _ => none) (0 : Int32).toNatClampNeg (some q8)) (1 : Int32).toNatClampNeg (some q10)) (2 : Int32).toNatClampNeg (some q12)) (3 : Int32).toNatClampNeg (some q14)) (4 : Int32).toNatClampNeg (some q16)) (5 : Int32).toNatClampNeg (some q18)) (6 : Int32).toNatClampNeg (some q20)) (7 : Int32).toNatClampNeg (some q22)) (8 : Int32).toNatClampNeg (some q24))))))), (q24, .inr (4, [.ref q25]))] H := hP
  have hD : va_D A [(q0, .inr (6, [.ref q1, .ref q2, .ref q3, .ref q4, .int 0, .ref q5, .ref q6, .ref q7, .int 0, .int 0])), (q1, .inl (k0, 24, .inr (.inr (.inr (.inr (va_up (va_up (va_up (va_up (va_up (va_up (va_up (va_up (va_up (fun _ => none) (0 : Int32).toNatClampNeg (some q8)) (1 : Int32).toNatClampNeg (some q10)) (2 : Int32).toNatClampNeg (some q12)) (3 : Int32).toNatClampNeg (some q14)) (4 : Int32).toNatClampNeg (some q16)) (5 : Int32).toNatClampNeg (some q18)) (6 : Int32).toNatClampNeg (some q20)) (7 : Int32).toNatClampNeg (some q22)) (8 : Int32).toNatClampNeg (some q24))))))), (q24, .inr (4, [.ref q25]))] := hD
  refine lv_iinc (v := 9) (lv' := [(1, .int 9), (0, .ref q0)]) hx hb dX3_init_109 hl (k := 0) rfl (by decide +kernel) (by decide) rfl (fun ls hl => ?_)
  refine lv_goto (tgt := 87) hx hb dX3_init_112 (by decide) ?_
  refine lv_iload_n hx hb dX3_init_87 rfl (lv_at hl 0 rfl) ?_
  refine lv_aload_n hx hb dX3_init_88 rfl (lv_at hl 1 rfl) ?_
  refine va_get (D := (dC, dI)) (ci := 6) (v := .ref q1) (C := RX3) (T := TX3) (N := 10) hx hb hts (fun _ h => List.mem_cons_of_mem _ (List.mem_append_left _ (List.mem_append_right _ h))) hown hK hP 0 rfl rfl 0 (by decide) (hts (.fieldLink RX3 11 "Seekwell$Finder" "worths" "[LSeekwell$Big;") (by decide +kernel)) (fun _ h9 => h9) rfl dX3_init_89 ?_
  refine va_alen (D := (dC, dI)) (v := 24) hx hb hK hP 1 0 rfl rfl (show Int32.ofNat 24 = 24 by decide +kernel) dX3_init_92 ?_
  refine lv_icmp_ge (tgt := 115) hx hb dX3_init_93 (by decide) (fun h9 => absurd h9 (show ¬ (24 : Int32) ≤ (9 : Int32) by decide +kernel)) (fun _ => ?_)
  refine lv_aload_n hx hb dX3_init_96 rfl (lv_at hl 1 rfl) ?_
  refine va_get (D := (dC, dI)) (ci := 6) (v := .ref q1) (C := RX3) (T := TX3) (N := 10) hx hb hts (fun _ h => List.mem_cons_of_mem _ (List.mem_append_left _ (List.mem_append_right _ h))) hown hK hP 0 rfl rfl 0 (by decide) (hts (.fieldLink RX3 11 "Seekwell$Finder" "worths" "[LSeekwell$Big;") (by decide +kernel)) (fun _ h9 => h9) rfl dX3_init_97 ?_
  refine lv_iload_n hx hb dX3_init_100 rfl (lv_at hl 0 rfl) ?_
  refine va_new (D := (dC, dI)) (ci := 4) (fs := [.null]) (C := RX1) (T := TX1) (N := 1) hx hb hts (fun _ h => List.mem_cons_of_mem _ (List.mem_append_right _ h)) tyX1 tyX1_ok hown (hts (.classLink RX3 9 RX1) (by decide +kernel)) (hts (.instantiable RX1 1) (by decide +kernel)) (hts (.initialized RX1) (by decide +kernel)) hK hP hD hS hA rfl (zfs (by decide)) (Nat.le_of_ble_eq_true rfl) (Nat.le_of_ble_eq_true rfl) dX3_init_101 (fun q26 H hP hD hS => ?_)
  have hP : va_P (dC, dI) vwCl [(q0, .inr (6, [.ref q1, .ref q2, .ref q3, .ref q4, .int 0, .ref q5, .ref q6, .ref q7, .int 0, .int 0])), (q1, .inl (k0, 24, .inr (.inr (.inr (.inr (va_up (va_up (va_up (va_up (va_up (va_up (va_up (va_up (va_up (fun _ => none) (0 : Int32).toNatClampNeg (some q8)) (1 : Int32).toNatClampNeg (some q10)) (2 : Int32).toNatClampNeg (some q12)) (3 : Int32).toNatClampNeg (some q14)) (4 : Int32).toNatClampNeg (some q16)) (5 : Int32).toNatClampNeg (some q18)) (6 : Int32).toNatClampNeg (some q20)) (7 : Int32).toNatClampNeg (some q22)) (8 : Int32).toNatClampNeg (some q24))))))), (q24, .inr (4, [.ref q25])), (q26, .inr (4, [.null]))] H := hP
  have hD : va_D A [(q0, .inr (6, [.ref q1, .ref q2, .ref q3, .ref q4, .int 0, .ref q5, .ref q6, .ref q7, .int 0, .int 0])), (q1, .inl (k0, 24, .inr (.inr (.inr (.inr (va_up (va_up (va_up (va_up (va_up (va_up (va_up (va_up (va_up (fun _ => none) (0 : Int32).toNatClampNeg (some q8)) (1 : Int32).toNatClampNeg (some q10)) (2 : Int32).toNatClampNeg (some q12)) (3 : Int32).toNatClampNeg (some q14)) (4 : Int32).toNatClampNeg (some q16)) (5 : Int32).toNatClampNeg (some q18)) (6 : Int32).toNatClampNeg (some q20)) (7 : Int32).toNatClampNeg (some q22)) (8 : Int32).toNatClampNeg (some q24))))))), (q24, .inr (4, [.ref q25])), (q26, .inr (4, [.null]))] := hD
  refine W.widen (k := 29) (n := 287) (Nat.le_of_ble_eq_true rfl) (Nat.le_of_ble_eq_true rfl) ?_
  refine lv_dup hx hb dX3_init_104 rfl ?_
  have hPc := hP.sub (ws' := [(q26, .inr (4, [.null]))]) [3] rfl
  have hDc := hD.sub (ws' := [(q26, .inr (4, [.null]))]) [3] (by decide) rfl
  have hKc := hK.sub (tys' := []) [] rfl
  have hFc := va_free (wc := [(q26, .inr (4, [.null]))]) hD hS hA [3] rfl
  refine va_callv (va_runIN (As := []) (rest := [.ref q26, .int 9, .ref q1]) ⟨hx, hb, hml, hown, hts⟩ (c_X1_init_2 l dC dI q26 H.size  ) ⟨va_cnB (host := "Seekwell") 0 hts gX3_init_X1_init_n31 rfl rfl rfl (hN.1 (RX3, 31, yX1_init, "Seekwell") (by decide +kernel)) (hts (.initialized RX1) (by decide +kernel)) (by decide +kernel) ⟨Nat.le_of_ble_eq_true rfl, Nat.le_of_ble_eq_true rfl⟩, rfl, hts (.instanceMethod yX1_init) (by decide +kernel)⟩ ⟨zB_blind, (zPre hPc hDc hKc hS hFc hZ hN)⟩ rfl rfl hl.1 rfl (lv_room (Nat.le_of_ble_eq_true rfl)) dX3_init_105 ⟨Nat.le_of_ble_eq_true rfl, Nat.le_of_ble_eq_true rfl⟩) hS (fun q _ h => hFc q h) hFc (fun u t H1 locs ht hvm hw hB hz1 hk1 hS => ?_)
  obtain ⟨q27, hP1, hK1, hD1⟩ := hB
  rw [ht] at hP1
  have hK1 := va_K.moved hvm.symm hK1
  obtain ⟨hP, hD⟩ := va_join (wr := [(q0, .inr (6, [.ref q1, .ref q2, .ref q3, .ref q4, .int 0, .ref q5, .ref q6, .ref q7, .int 0, .int 0])), (q1, .inl (k0, 24, .inr (.inr (.inr (.inr (va_up (va_up (va_up (va_up (va_up (va_up (va_up (va_up (va_up (fun _ => none) (0 : Int32).toNatClampNeg (some q8)) (1 : Int32).toNatClampNeg (some q10)) (2 : Int32).toNatClampNeg (some q12)) (3 : Int32).toNatClampNeg (some q14)) (4 : Int32).toNatClampNeg (some q16)) (5 : Int32).toNatClampNeg (some q18)) (6 : Int32).toNatClampNeg (some q20)) (7 : Int32).toNatClampNeg (some q22)) (8 : Int32).toNatClampNeg (some q24)))))))]) (w1 := [(q26, .inr (4, [.ref q27]))]) hP hD [3] [0, 1] rfl rfl (by decide) (by decide) hk1 hFc hP1 hD1
  have hK := (hK.sub (tys' := [(k0, (.object "Seekwell$Big"))]) [0] rfl).app hK1
  generalize H1 = H at hP hS ⊢
  have hP : va_P (dC, dI) vwCl [(q0, .inr (6, [.ref q1, .ref q2, .ref q3, .ref q4, .int 0, .ref q5, .ref q6, .ref q7, .int 0, .int 0])), (q1, .inl (k0, 24, .inr (.inr (.inr (.inr (va_up (va_up (va_up (va_up (va_up (va_up (va_up (va_up (va_up (fun _ => none) (0 : Int32).toNatClampNeg (some q8)) (1 : Int32).toNatClampNeg (some q10)) (2 : Int32).toNatClampNeg (some q12)) (3 : Int32).toNatClampNeg (some q14)) (4 : Int32).toNatClampNeg (some q16)) (5 : Int32).toNatClampNeg (some q18)) (6 : Int32).toNatClampNeg (some q20)) (7 : Int32).toNatClampNeg (some q22)) (8 : Int32).toNatClampNeg (some q24))))))), (q26, .inr (4, [.ref q27]))] H := hP
  have hD : va_D A [(q0, .inr (6, [.ref q1, .ref q2, .ref q3, .ref q4, .int 0, .ref q5, .ref q6, .ref q7, .int 0, .int 0])), (q1, .inl (k0, 24, .inr (.inr (.inr (.inr (va_up (va_up (va_up (va_up (va_up (va_up (va_up (va_up (va_up (fun _ => none) (0 : Int32).toNatClampNeg (some q8)) (1 : Int32).toNatClampNeg (some q10)) (2 : Int32).toNatClampNeg (some q12)) (3 : Int32).toNatClampNeg (some q14)) (4 : Int32).toNatClampNeg (some q16)) (5 : Int32).toNatClampNeg (some q18)) (6 : Int32).toNatClampNeg (some q20)) (7 : Int32).toNatClampNeg (some q22)) (8 : Int32).toNatClampNeg (some q24))))))), (q26, .inr (4, [.ref q27]))] := hD
  have hK : va_K (dC, dI) vwCl [(k0, (.object "Seekwell$Big"))] s := hK
  refine W.widen (k := 30) (n := 303) (Nat.le_of_ble_eq_true rfl) (Nat.le_of_ble_eq_true rfl) ?_
  refine va_astq (D := (dC, dI)) hx hb hK hP hD hS 1 0 2 4 rfl rfl rfl rfl (i := 9) (zin (by decide +kernel)) dX3_init_108 (fun H locs hP hD hS => ?_)
  have hP : va_P (dC, dI) vwCl [(q0, .inr (6, [.ref q1, .ref q2, .ref q3, .ref q4, .int 0, .ref q5, .ref q6, .ref q7, .int 0, .int 0])), (q1, .inl (k0, 24, .inr (.inr (.inr (.inr (va_up (va_up (va_up (va_up (va_up (va_up (va_up (va_up (va_up (va_up (fun _ => none) (0 : Int32).toNatClampNeg (some q8)) (1 : Int32).toNatClampNeg (some q10)) (2 : Int32).toNatClampNeg (some q12)) (3 : Int32).toNatClampNeg (some q14)) (4 : Int32).toNatClampNeg (some q16)) (5 : Int32).toNatClampNeg (some q18)) (6 : Int32).toNatClampNeg (some q20)) (7 : Int32).toNatClampNeg (some q22)) (8 : Int32).toNatClampNeg (some q24)) (9 : Int32).toNatClampNeg (some q26))))))), (q26, .inr (4, [.ref q27]))] H := hP
  have hD : va_D A [(q0, .inr (6, [.ref q1, .ref q2, .ref q3, .ref q4, .int 0, .ref q5, .ref q6, .ref q7, .int 0, .int 0])), (q1, .inl (k0, 24, .inr (.inr (.inr (.inr (va_up (va_up (va_up (va_up (va_up (va_up (va_up (va_up (va_up (va_up (fun _ => none) (0 : Int32).toNatClampNeg (some q8)) (1 : Int32).toNatClampNeg (some q10)) (2 : Int32).toNatClampNeg (some q12)) (3 : Int32).toNatClampNeg (some q14)) (4 : Int32).toNatClampNeg (some q16)) (5 : Int32).toNatClampNeg (some q18)) (6 : Int32).toNatClampNeg (some q20)) (7 : Int32).toNatClampNeg (some q22)) (8 : Int32).toNatClampNeg (some q24)) (9 : Int32).toNatClampNeg (some q26))))))), (q26, .inr (4, [.ref q27]))] := hD
  refine lv_iinc (v := 10) (lv' := [(1, .int 10), (0, .ref q0)]) hx hb dX3_init_109 hl (k := 0) rfl (by decide +kernel) (by decide) rfl (fun ls hl => ?_)
  refine lv_goto (tgt := 87) hx hb dX3_init_112 (by decide) ?_
  refine lv_iload_n hx hb dX3_init_87 rfl (lv_at hl 0 rfl) ?_
  refine lv_aload_n hx hb dX3_init_88 rfl (lv_at hl 1 rfl) ?_
  refine va_get (D := (dC, dI)) (ci := 6) (v := .ref q1) (C := RX3) (T := TX3) (N := 10) hx hb hts (fun _ h => List.mem_cons_of_mem _ (List.mem_append_left _ (List.mem_append_right _ h))) hown hK hP 0 rfl rfl 0 (by decide) (hts (.fieldLink RX3 11 "Seekwell$Finder" "worths" "[LSeekwell$Big;") (by decide +kernel)) (fun _ h9 => h9) rfl dX3_init_89 ?_
  refine va_alen (D := (dC, dI)) (v := 24) hx hb hK hP 1 0 rfl rfl (show Int32.ofNat 24 = 24 by decide +kernel) dX3_init_92 ?_
  refine lv_icmp_ge (tgt := 115) hx hb dX3_init_93 (by decide) (fun h9 => absurd h9 (show ¬ (24 : Int32) ≤ (10 : Int32) by decide +kernel)) (fun _ => ?_)
  refine lv_aload_n hx hb dX3_init_96 rfl (lv_at hl 1 rfl) ?_
  refine va_get (D := (dC, dI)) (ci := 6) (v := .ref q1) (C := RX3) (T := TX3) (N := 10) hx hb hts (fun _ h => List.mem_cons_of_mem _ (List.mem_append_left _ (List.mem_append_right _ h))) hown hK hP 0 rfl rfl 0 (by decide) (hts (.fieldLink RX3 11 "Seekwell$Finder" "worths" "[LSeekwell$Big;") (by decide +kernel)) (fun _ h9 => h9) rfl dX3_init_97 ?_
  refine lv_iload_n hx hb dX3_init_100 rfl (lv_at hl 0 rfl) ?_
  refine va_new (D := (dC, dI)) (ci := 4) (fs := [.null]) (C := RX1) (T := TX1) (N := 1) hx hb hts (fun _ h => List.mem_cons_of_mem _ (List.mem_append_right _ h)) tyX1 tyX1_ok hown (hts (.classLink RX3 9 RX1) (by decide +kernel)) (hts (.instantiable RX1 1) (by decide +kernel)) (hts (.initialized RX1) (by decide +kernel)) hK hP hD hS hA rfl (zfs (by decide)) (Nat.le_of_ble_eq_true rfl) (Nat.le_of_ble_eq_true rfl) dX3_init_101 (fun q28 H hP hD hS => ?_)
  have hP : va_P (dC, dI) vwCl [(q0, .inr (6, [.ref q1, .ref q2, .ref q3, .ref q4, .int 0, .ref q5, .ref q6, .ref q7, .int 0, .int 0])), (q1, .inl (k0, 24, .inr (.inr (.inr (.inr (va_up (va_up (va_up (va_up (va_up (va_up (va_up (va_up (va_up (va_up (fun _ => none) (0 : Int32).toNatClampNeg (some q8)) (1 : Int32).toNatClampNeg (some q10)) (2 : Int32).toNatClampNeg (some q12)) (3 : Int32).toNatClampNeg (some q14)) (4 : Int32).toNatClampNeg (some q16)) (5 : Int32).toNatClampNeg (some q18)) (6 : Int32).toNatClampNeg (some q20)) (7 : Int32).toNatClampNeg (some q22)) (8 : Int32).toNatClampNeg (some q24)) (9 : Int32).toNatClampNeg (some q26))))))), (q26, .inr (4, [.ref q27])), (q28, .inr (4, [.null]))] H := hP
  have hD : va_D A [(q0, .inr (6, [.ref q1, .ref q2, .ref q3, .ref q4, .int 0, .ref q5, .ref q6, .ref q7, .int 0, .int 0])), (q1, .inl (k0, 24, .inr (.inr (.inr (.inr (va_up (va_up (va_up (va_up (va_up (va_up (va_up (va_up (va_up (va_up (fun _ => none) (0 : Int32).toNatClampNeg (some q8)) (1 : Int32).toNatClampNeg (some q10)) (2 : Int32).toNatClampNeg (some q12)) (3 : Int32).toNatClampNeg (some q14)) (4 : Int32).toNatClampNeg (some q16)) (5 : Int32).toNatClampNeg (some q18)) (6 : Int32).toNatClampNeg (some q20)) (7 : Int32).toNatClampNeg (some q22)) (8 : Int32).toNatClampNeg (some q24)) (9 : Int32).toNatClampNeg (some q26))))))), (q26, .inr (4, [.ref q27])), (q28, .inr (4, [.null]))] := hD
  refine W.widen (k := 31) (n := 304) (Nat.le_of_ble_eq_true rfl) (Nat.le_of_ble_eq_true rfl) ?_
  refine lv_dup hx hb dX3_init_104 rfl ?_
  have hPc := hP.sub (ws' := [(q28, .inr (4, [.null]))]) [3] rfl
  have hDc := hD.sub (ws' := [(q28, .inr (4, [.null]))]) [3] (by decide) rfl
  have hKc := hK.sub (tys' := []) [] rfl
  have hFc := va_free (wc := [(q28, .inr (4, [.null]))]) hD hS hA [3] rfl
  refine va_callv (va_runIN (As := []) (rest := [.ref q28, .int 10, .ref q1]) ⟨hx, hb, hml, hown, hts⟩ (c_X1_init_2 l dC dI q28 H.size  ) ⟨va_cnB (host := "Seekwell") 0 hts gX3_init_X1_init_n31 rfl rfl rfl (hN.1 (RX3, 31, yX1_init, "Seekwell") (by decide +kernel)) (hts (.initialized RX1) (by decide +kernel)) (by decide +kernel) ⟨Nat.le_of_ble_eq_true rfl, Nat.le_of_ble_eq_true rfl⟩, rfl, hts (.instanceMethod yX1_init) (by decide +kernel)⟩ ⟨zB_blind, (zPre hPc hDc hKc hS hFc hZ hN)⟩ rfl rfl hl.1 rfl (lv_room (Nat.le_of_ble_eq_true rfl)) dX3_init_105 ⟨Nat.le_of_ble_eq_true rfl, Nat.le_of_ble_eq_true rfl⟩) hS (fun q _ h => hFc q h) hFc (fun u t H1 locs ht hvm hw hB hz1 hk1 hS => ?_)
  obtain ⟨q29, hP1, hK1, hD1⟩ := hB
  rw [ht] at hP1
  have hK1 := va_K.moved hvm.symm hK1
  obtain ⟨hP, hD⟩ := va_join (wr := [(q0, .inr (6, [.ref q1, .ref q2, .ref q3, .ref q4, .int 0, .ref q5, .ref q6, .ref q7, .int 0, .int 0])), (q1, .inl (k0, 24, .inr (.inr (.inr (.inr (va_up (va_up (va_up (va_up (va_up (va_up (va_up (va_up (va_up (va_up (fun _ => none) (0 : Int32).toNatClampNeg (some q8)) (1 : Int32).toNatClampNeg (some q10)) (2 : Int32).toNatClampNeg (some q12)) (3 : Int32).toNatClampNeg (some q14)) (4 : Int32).toNatClampNeg (some q16)) (5 : Int32).toNatClampNeg (some q18)) (6 : Int32).toNatClampNeg (some q20)) (7 : Int32).toNatClampNeg (some q22)) (8 : Int32).toNatClampNeg (some q24)) (9 : Int32).toNatClampNeg (some q26)))))))]) (w1 := [(q28, .inr (4, [.ref q29]))]) hP hD [3] [0, 1] rfl rfl (by decide) (by decide) hk1 hFc hP1 hD1
  have hK := (hK.sub (tys' := [(k0, (.object "Seekwell$Big"))]) [0] rfl).app hK1
  generalize H1 = H at hP hS ⊢
  have hP : va_P (dC, dI) vwCl [(q0, .inr (6, [.ref q1, .ref q2, .ref q3, .ref q4, .int 0, .ref q5, .ref q6, .ref q7, .int 0, .int 0])), (q1, .inl (k0, 24, .inr (.inr (.inr (.inr (va_up (va_up (va_up (va_up (va_up (va_up (va_up (va_up (va_up (va_up (fun _ => none) (0 : Int32).toNatClampNeg (some q8)) (1 : Int32).toNatClampNeg (some q10)) (2 : Int32).toNatClampNeg (some q12)) (3 : Int32).toNatClampNeg (some q14)) (4 : Int32).toNatClampNeg (some q16)) (5 : Int32).toNatClampNeg (some q18)) (6 : Int32).toNatClampNeg (some q20)) (7 : Int32).toNatClampNeg (some q22)) (8 : Int32).toNatClampNeg (some q24)) (9 : Int32).toNatClampNeg (some q26))))))), (q28, .inr (4, [.ref q29]))] H := hP
  have hD : va_D A [(q0, .inr (6, [.ref q1, .ref q2, .ref q3, .ref q4, .int 0, .ref q5, .ref q6, .ref q7, .int 0, .int 0])), (q1, .inl (k0, 24, .inr (.inr (.inr (.inr (va_up (va_up (va_up (va_up (va_up (va_up (va_up (va_up (va_up (va_up (fun _ => none) (0 : Int32).toNatClampNeg (some q8)) (1 : Int32).toNatClampNeg (some q10)) (2 : Int32).toNatClampNeg (some q12)) (3 : Int32).toNatClampNeg (some q14)) (4 : Int32).toNatClampNeg (some q16)) (5 : Int32).toNatClampNeg (some q18)) (6 : Int32).toNatClampNeg (some q20)) (7 : Int32).toNatClampNeg (some q22)) (8 : Int32).toNatClampNeg (some q24)) (9 : Int32).toNatClampNeg (some q26))))))), (q28, .inr (4, [.ref q29]))] := hD
  have hK : va_K (dC, dI) vwCl [(k0, (.object "Seekwell$Big"))] s := hK
  refine W.widen (k := 32) (n := 320) (Nat.le_of_ble_eq_true rfl) (Nat.le_of_ble_eq_true rfl) ?_
  refine va_astq (D := (dC, dI)) hx hb hK hP hD hS 1 0 2 4 rfl rfl rfl rfl (i := 10) (zin (by decide +kernel)) dX3_init_108 (fun H locs hP hD hS => ?_)
  have hP : va_P (dC, dI) vwCl [(q0, .inr (6, [.ref q1, .ref q2, .ref q3, .ref q4, .int 0, .ref q5, .ref q6, .ref q7, .int 0, .int 0])), (q1, .inl (k0, 24, .inr (.inr (.inr (.inr (va_up (va_up (va_up (va_up (va_up (va_up (va_up (va_up (va_up (va_up (va_up (fun _ => none) (0 : Int32).toNatClampNeg (some q8)) (1 : Int32).toNatClampNeg (some q10)) (2 : Int32).toNatClampNeg (some q12)) (3 : Int32).toNatClampNeg (some q14)) (4 : Int32).toNatClampNeg (some q16)) (5 : Int32).toNatClampNeg (some q18)) (6 : Int32).toNatClampNeg (some q20)) (7 : Int32).toNatClampNeg (some q22)) (8 : Int32).toNatClampNeg (some q24)) (9 : Int32).toNatClampNeg (some q26)) (10 : Int32).toNatClampNeg (some q28))))))), (q28, .inr (4, [.ref q29]))] H := hP
  have hD : va_D A [(q0, .inr (6, [.ref q1, .ref q2, .ref q3, .ref q4, .int 0, .ref q5, .ref q6, .ref q7, .int 0, .int 0])), (q1, .inl (k0, 24, .inr (.inr (.inr (.inr (va_up (va_up (va_up (va_up (va_up (va_up (va_up (va_up (va_up (va_up (va_up (fun _ => none) (0 : Int32).toNatClampNeg (some q8)) (1 : Int32).toNatClampNeg (some q10)) (2 : Int32).toNatClampNeg (some q12)) (3 : Int32).toNatClampNeg (some q14)) (4 : Int32).toNatClampNeg (some q16)) (5 : Int32).toNatClampNeg (some q18)) (6 : Int32).toNatClampNeg (some q20)) (7 : Int32).toNatClampNeg (some q22)) (8 : Int32).toNatClampNeg (some q24)) (9 : Int32).toNatClampNeg (some q26)) (10 : Int32).toNatClampNeg (some q28))))))), (q28, .inr (4, [.ref q29]))] := hD
  refine lv_iinc (v := 11) (lv' := [(1, .int 11), (0, .ref q0)]) hx hb dX3_init_109 hl (k := 0) rfl (by decide +kernel) (by decide) rfl (fun ls hl => ?_)
  refine lv_goto (tgt := 87) hx hb dX3_init_112 (by decide) ?_
  refine lv_iload_n hx hb dX3_init_87 rfl (lv_at hl 0 rfl) ?_
  refine lv_aload_n hx hb dX3_init_88 rfl (lv_at hl 1 rfl) ?_
  refine va_get (D := (dC, dI)) (ci := 6) (v := .ref q1) (C := RX3) (T := TX3) (N := 10) hx hb hts (fun _ h => List.mem_cons_of_mem _ (List.mem_append_left _ (List.mem_append_right _ h))) hown hK hP 0 rfl rfl 0 (by decide) (hts (.fieldLink RX3 11 "Seekwell$Finder" "worths" "[LSeekwell$Big;") (by decide +kernel)) (fun _ h9 => h9) rfl dX3_init_89 ?_
  refine va_alen (D := (dC, dI)) (v := 24) hx hb hK hP 1 0 rfl rfl (show Int32.ofNat 24 = 24 by decide +kernel) dX3_init_92 ?_
  refine lv_icmp_ge (tgt := 115) hx hb dX3_init_93 (by decide) (fun h9 => absurd h9 (show ¬ (24 : Int32) ≤ (11 : Int32) by decide +kernel)) (fun _ => ?_)
  refine lv_aload_n hx hb dX3_init_96 rfl (lv_at hl 1 rfl) ?_
  refine va_get (D := (dC, dI)) (ci := 6) (v := .ref q1) (C := RX3) (T := TX3) (N := 10) hx hb hts (fun _ h => List.mem_cons_of_mem _ (List.mem_append_left _ (List.mem_append_right _ h))) hown hK hP 0 rfl rfl 0 (by decide) (hts (.fieldLink RX3 11 "Seekwell$Finder" "worths" "[LSeekwell$Big;") (by decide +kernel)) (fun _ h9 => h9) rfl dX3_init_97 ?_
  refine lv_iload_n hx hb dX3_init_100 rfl (lv_at hl 0 rfl) ?_
  refine va_new (D := (dC, dI)) (ci := 4) (fs := [.null]) (C := RX1) (T := TX1) (N := 1) hx hb hts (fun _ h => List.mem_cons_of_mem _ (List.mem_append_right _ h)) tyX1 tyX1_ok hown (hts (.classLink RX3 9 RX1) (by decide +kernel)) (hts (.instantiable RX1 1) (by decide +kernel)) (hts (.initialized RX1) (by decide +kernel)) hK hP hD hS hA rfl (zfs (by decide)) (Nat.le_of_ble_eq_true rfl) (Nat.le_of_ble_eq_true rfl) dX3_init_101 (fun q30 H hP hD hS => ?_)
  have hP : va_P (dC, dI) vwCl [(q0, .inr (6, [.ref q1, .ref q2, .ref q3, .ref q4, .int 0, .ref q5, .ref q6, .ref q7, .int 0, .int 0])), (q1, .inl (k0, 24, .inr (.inr (.inr (.inr (va_up (va_up (va_up (va_up (va_up (va_up (va_up (va_up (va_up (va_up (va_up (fun _ => none) (0 : Int32).toNatClampNeg (some q8)) (1 : Int32).toNatClampNeg (some q10)) (2 : Int32).toNatClampNeg (some q12)) (3 : Int32).toNatClampNeg (some q14)) (4 : Int32).toNatClampNeg (some q16)) (5 : Int32).toNatClampNeg (some q18)) (6 : Int32).toNatClampNeg (some q20)) (7 : Int32).toNatClampNeg (some q22)) (8 : Int32).toNatClampNeg (some q24)) (9 : Int32).toNatClampNeg (some q26)) (10 : Int32).toNatClampNeg (some q28))))))), (q28, .inr (4, [.ref q29])), (q30, .inr (4, [.null]))] H := hP
  have hD : va_D A [(q0, .inr (6, [.ref q1, .ref q2, .ref q3, .ref q4, .int 0, .ref q5, .ref q6, .ref q7, .int 0, .int 0])), (q1, .inl (k0, 24, .inr (.inr (.inr (.inr (va_up (va_up (va_up (va_up (va_up (va_up (va_up (va_up (va_up (va_up (va_up (fun _ => none) (0 : Int32).toNatClampNeg (some q8)) (1 : Int32).toNatClampNeg (some q10)) (2 : Int32).toNatClampNeg (some q12)) (3 : Int32).toNatClampNeg (some q14)) (4 : Int32).toNatClampNeg (some q16)) (5 : Int32).toNatClampNeg (some q18)) (6 : Int32).toNatClampNeg (some q20)) (7 : Int32).toNatClampNeg (some q22)) (8 : Int32).toNatClampNeg (some q24)) (9 : Int32).toNatClampNeg (some q26)) (10 : Int32).toNatClampNeg (some q28))))))), (q28, .inr (4, [.ref q29])), (q30, .inr (4, [.null]))] := hD
  refine W.widen (k := 33) (n := 321) (Nat.le_of_ble_eq_true rfl) (Nat.le_of_ble_eq_true rfl) ?_
  refine lv_dup hx hb dX3_init_104 rfl ?_
  have hPc := hP.sub (ws' := [(q30, .inr (4, [.null]))]) [3] rfl
  have hDc := hD.sub (ws' := [(q30, .inr (4, [.null]))]) [3] (by decide) rfl
  have hKc := hK.sub (tys' := []) [] rfl
  have hFc := va_free (wc := [(q30, .inr (4, [.null]))]) hD hS hA [3] rfl
  refine va_callv (va_runIN (As := []) (rest := [.ref q30, .int 11, .ref q1]) ⟨hx, hb, hml, hown, hts⟩ (c_X1_init_2 l dC dI q30 H.size  ) ⟨va_cnB (host := "Seekwell") 0 hts gX3_init_X1_init_n31 rfl rfl rfl (hN.1 (RX3, 31, yX1_init, "Seekwell") (by decide +kernel)) (hts (.initialized RX1) (by decide +kernel)) (by decide +kernel) ⟨Nat.le_of_ble_eq_true rfl, Nat.le_of_ble_eq_true rfl⟩, rfl, hts (.instanceMethod yX1_init) (by decide +kernel)⟩ ⟨zB_blind, (zPre hPc hDc hKc hS hFc hZ hN)⟩ rfl rfl hl.1 rfl (lv_room (Nat.le_of_ble_eq_true rfl)) dX3_init_105 ⟨Nat.le_of_ble_eq_true rfl, Nat.le_of_ble_eq_true rfl⟩) hS (fun q _ h => hFc q h) hFc (fun u t H1 locs ht hvm hw hB hz1 hk1 hS => ?_)
  obtain ⟨q31, hP1, hK1, hD1⟩ := hB
  rw [ht] at hP1
  have hK1 := va_K.moved hvm.symm hK1
  obtain ⟨hP, hD⟩ := va_join (wr := [(q0, .inr (6, [.ref q1, .ref q2, .ref q3, .ref q4, .int 0, .ref q5, .ref q6, .ref q7, .int 0, .int 0])), (q1, .inl (k0, 24, .inr (.inr (.inr (.inr (va_up (va_up (va_up (va_up (va_up (va_up (va_up (va_up (va_up (va_up (va_up (fun _ => none) (0 : Int32).toNatClampNeg (some q8)) (1 : Int32).toNatClampNeg (some q10)) (2 : Int32).toNatClampNeg (some q12)) (3 : Int32).toNatClampNeg (some q14)) (4 : Int32).toNatClampNeg (some q16)) (5 : Int32).toNatClampNeg (some q18)) (6 : Int32).toNatClampNeg (some q20)) (7 : Int32).toNatClampNeg (some q22)) (8 : Int32).toNatClampNeg (some q24)) (9 : Int32).toNatClampNeg (some q26)) (10 : Int32).toNatClampNeg (some q28)))))))]) (w1 := [(q30, .inr (4, [.ref q31]))]) hP hD [3] [0, 1] rfl rfl (by decide) (by decide) hk1 hFc hP1 hD1
  have hK := (hK.sub (tys' := [(k0, (.object "Seekwell$Big"))]) [0] rfl).app hK1
  generalize H1 = H at hP hS ⊢
  have hP : va_P (dC, dI) vwCl [(q0, .inr (6, [.ref q1, .ref q2, .ref q3, .ref q4, .int 0, .ref q5, .ref q6, .ref q7, .int 0, .int 0])), (q1, .inl (k0, 24, .inr (.inr (.inr (.inr (va_up (va_up (va_up (va_up (va_up (va_up (va_up (va_up (va_up (va_up (va_up (fun _ => none) (0 : Int32).toNatClampNeg (some q8)) (1 : Int32).toNatClampNeg (some q10)) (2 : Int32).toNatClampNeg (some q12)) (3 : Int32).toNatClampNeg (some q14)) (4 : Int32).toNatClampNeg (some q16)) (5 : Int32).toNatClampNeg (some q18)) (6 : Int32).toNatClampNeg (some q20)) (7 : Int32).toNatClampNeg (some q22)) (8 : Int32).toNatClampNeg (some q24)) (9 : Int32).toNatClampNeg (some q26)) (10 : Int32).toNatClampNeg (some q28))))))), (q30, .inr (4, [.ref q31]))] H := hP
  have hD : va_D A [(q0, .inr (6, [.ref q1, .ref q2, .ref q3, .ref q4, .int 0, .ref q5, .ref q6, .ref q7, .int 0, .int 0])), (q1, .inl (k0, 24, .inr (.inr (.inr (.inr (va_up (va_up (va_up (va_up (va_up (va_up (va_up (va_up (va_up (va_up (va_up (fun _ => none) (0 : Int32).toNatClampNeg (some q8)) (1 : Int32).toNatClampNeg (some q10)) (2 : Int32).toNatClampNeg (some q12)) (3 : Int32).toNatClampNeg (some q14)) (4 : Int32).toNatClampNeg (some q16)) (5 : Int32).toNatClampNeg (some q18)) (6 : Int32).toNatClampNeg (some q20)) (7 : Int32).toNatClampNeg (some q22)) (8 : Int32).toNatClampNeg (some q24)) (9 : Int32).toNatClampNeg (some q26)) (10 : Int32).toNatClampNeg (some q28))))))), (q30, .inr (4, [.ref q31]))] := hD
  have hK : va_K (dC, dI) vwCl [(k0, (.object "Seekwell$Big"))] s := hK
  refine W.widen (k := 34) (n := 337) (Nat.le_of_ble_eq_true rfl) (Nat.le_of_ble_eq_true rfl) ?_
  refine va_astq (D := (dC, dI)) hx hb hK hP hD hS 1 0 2 4 rfl rfl rfl rfl (i := 11) (zin (by decide +kernel)) dX3_init_108 (fun H locs hP hD hS => ?_)
  have hP : va_P (dC, dI) vwCl [(q0, .inr (6, [.ref q1, .ref q2, .ref q3, .ref q4, .int 0, .ref q5, .ref q6, .ref q7, .int 0, .int 0])), (q1, .inl (k0, 24, .inr (.inr (.inr (.inr (va_up (va_up (va_up (va_up (va_up (va_up (va_up (va_up (va_up (va_up (va_up (va_up (fun _ => none) (0 : Int32).toNatClampNeg (some q8)) (1 : Int32).toNatClampNeg (some q10)) (2 : Int32).toNatClampNeg (some q12)) (3 : Int32).toNatClampNeg (some q14)) (4 : Int32).toNatClampNeg (some q16)) (5 : Int32).toNatClampNeg (some q18)) (6 : Int32).toNatClampNeg (some q20)) (7 : Int32).toNatClampNeg (some q22)) (8 : Int32).toNatClampNeg (some q24)) (9 : Int32).toNatClampNeg (some q26)) (10 : Int32).toNatClampNeg (some q28)) (11 : Int32).toNatClampNeg (some q30))))))), (q30, .inr (4, [.ref q31]))] H := hP
  have hD : va_D A [(q0, .inr (6, [.ref q1, .ref q2, .ref q3, .ref q4, .int 0, .ref q5, .ref q6, .ref q7, .int 0, .int 0])), (q1, .inl (k0, 24, .inr (.inr (.inr (.inr (va_up (va_up (va_up (va_up (va_up (va_up (va_up (va_up (va_up (va_up (va_up (va_up (fun _ => none) (0 : Int32).toNatClampNeg (some q8)) (1 : Int32).toNatClampNeg (some q10)) (2 : Int32).toNatClampNeg (some q12)) (3 : Int32).toNatClampNeg (some q14)) (4 : Int32).toNatClampNeg (some q16)) (5 : Int32).toNatClampNeg (some q18)) (6 : Int32).toNatClampNeg (some q20)) (7 : Int32).toNatClampNeg (some q22)) (8 : Int32).toNatClampNeg (some q24)) (9 : Int32).toNatClampNeg (some q26)) (10 : Int32).toNatClampNeg (some q28)) (11 : Int32).toNatClampNeg (some q30))))))), (q30, .inr (4, [.ref q31]))] := hD
  refine lv_iinc (v := 12) (lv' := [(1, .int 12), (0, .ref q0)]) hx hb dX3_init_109 hl (k := 0) rfl (by decide +kernel) (by decide) rfl (fun ls hl => ?_)
  refine lv_goto (tgt := 87) hx hb dX3_init_112 (by decide) ?_
  refine lv_iload_n hx hb dX3_init_87 rfl (lv_at hl 0 rfl) ?_
  refine lv_aload_n hx hb dX3_init_88 rfl (lv_at hl 1 rfl) ?_
  refine va_get (D := (dC, dI)) (ci := 6) (v := .ref q1) (C := RX3) (T := TX3) (N := 10) hx hb hts (fun _ h => List.mem_cons_of_mem _ (List.mem_append_left _ (List.mem_append_right _ h))) hown hK hP 0 rfl rfl 0 (by decide) (hts (.fieldLink RX3 11 "Seekwell$Finder" "worths" "[LSeekwell$Big;") (by decide +kernel)) (fun _ h9 => h9) rfl dX3_init_89 ?_
  refine va_alen (D := (dC, dI)) (v := 24) hx hb hK hP 1 0 rfl rfl (show Int32.ofNat 24 = 24 by decide +kernel) dX3_init_92 ?_
  refine lv_icmp_ge (tgt := 115) hx hb dX3_init_93 (by decide) (fun h9 => absurd h9 (show ¬ (24 : Int32) ≤ (12 : Int32) by decide +kernel)) (fun _ => ?_)
  refine lv_aload_n hx hb dX3_init_96 rfl (lv_at hl 1 rfl) ?_
  refine va_get (D := (dC, dI)) (ci := 6) (v := .ref q1) (C := RX3) (T := TX3) (N := 10) hx hb hts (fun _ h => List.mem_cons_of_mem _ (List.mem_append_left _ (List.mem_append_right _ h))) hown hK hP 0 rfl rfl 0 (by decide) (hts (.fieldLink RX3 11 "Seekwell$Finder" "worths" "[LSeekwell$Big;") (by decide +kernel)) (fun _ h9 => h9) rfl dX3_init_97 ?_
  refine lv_iload_n hx hb dX3_init_100 rfl (lv_at hl 0 rfl) ?_
  refine va_new (D := (dC, dI)) (ci := 4) (fs := [.null]) (C := RX1) (T := TX1) (N := 1) hx hb hts (fun _ h => List.mem_cons_of_mem _ (List.mem_append_right _ h)) tyX1 tyX1_ok hown (hts (.classLink RX3 9 RX1) (by decide +kernel)) (hts (.instantiable RX1 1) (by decide +kernel)) (hts (.initialized RX1) (by decide +kernel)) hK hP hD hS hA rfl (zfs (by decide)) (Nat.le_of_ble_eq_true rfl) (Nat.le_of_ble_eq_true rfl) dX3_init_101 (fun q32 H hP hD hS => ?_)
  have hP : va_P (dC, dI) vwCl [(q0, .inr (6, [.ref q1, .ref q2, .ref q3, .ref q4, .int 0, .ref q5, .ref q6, .ref q7, .int 0, .int 0])), (q1, .inl (k0, 24, .inr (.inr (.inr (.inr (va_up (va_up (va_up (va_up (va_up (va_up (va_up (va_up (va_up (va_up (va_up (va_up (fun _ => none) (0 : Int32).toNatClampNeg (some q8)) (1 : Int32).toNatClampNeg (some q10)) (2 : Int32).toNatClampNeg (some q12)) (3 : Int32).toNatClampNeg (some q14)) (4 : Int32).toNatClampNeg (some q16)) (5 : Int32).toNatClampNeg (some q18)) (6 : Int32).toNatClampNeg (some q20)) (7 : Int32).toNatClampNeg (some q22)) (8 : Int32).toNatClampNeg (some q24)) (9 : Int32).toNatClampNeg (some q26)) (10 : Int32).toNatClampNeg (some q28)) (11 : Int32).toNatClampNeg (some q30))))))), (q30, .inr (4, [.ref q31])), (q32, .inr (4, [.null]))] H := hP
  have hD : va_D A [(q0, .inr (6, [.ref q1, .ref q2, .ref q3, .ref q4, .int 0, .ref q5, .ref q6, .ref q7, .int 0, .int 0])), (q1, .inl (k0, 24, .inr (.inr (.inr (.inr (va_up (va_up (va_up (va_up (va_up (va_up (va_up (va_up (va_up (va_up (va_up (va_up (fun _ => none) (0 : Int32).toNatClampNeg (some q8)) (1 : Int32).toNatClampNeg (some q10)) (2 : Int32).toNatClampNeg (some q12)) (3 : Int32).toNatClampNeg (some q14)) (4 : Int32).toNatClampNeg (some q16)) (5 : Int32).toNatClampNeg (some q18)) (6 : Int32).toNatClampNeg (some q20)) (7 : Int32).toNatClampNeg (some q22)) (8 : Int32).toNatClampNeg (some q24)) (9 : Int32).toNatClampNeg (some q26)) (10 : Int32).toNatClampNeg (some q28)) (11 : Int32).toNatClampNeg (some q30))))))), (q30, .inr (4, [.ref q31])), (q32, .inr (4, [.null]))] := hD
  refine W.widen (k := 35) (n := 338) (Nat.le_of_ble_eq_true rfl) (Nat.le_of_ble_eq_true rfl) ?_
  refine lv_dup hx hb dX3_init_104 rfl ?_
  have hPc := hP.sub (ws' := [(q32, .inr (4, [.null]))]) [3] rfl
  have hDc := hD.sub (ws' := [(q32, .inr (4, [.null]))]) [3] (by decide) rfl
  have hKc := hK.sub (tys' := []) [] rfl
  have hFc := va_free (wc := [(q32, .inr (4, [.null]))]) hD hS hA [3] rfl
  refine va_callv (va_runIN (As := []) (rest := [.ref q32, .int 12, .ref q1]) ⟨hx, hb, hml, hown, hts⟩ (c_X1_init_2 l dC dI q32 H.size  ) ⟨va_cnB (host := "Seekwell") 0 hts gX3_init_X1_init_n31 rfl rfl rfl (hN.1 (RX3, 31, yX1_init, "Seekwell") (by decide +kernel)) (hts (.initialized RX1) (by decide +kernel)) (by decide +kernel) ⟨Nat.le_of_ble_eq_true rfl, Nat.le_of_ble_eq_true rfl⟩, rfl, hts (.instanceMethod yX1_init) (by decide +kernel)⟩ ⟨zB_blind, (zPre hPc hDc hKc hS hFc hZ hN)⟩ rfl rfl hl.1 rfl (lv_room (Nat.le_of_ble_eq_true rfl)) dX3_init_105 ⟨Nat.le_of_ble_eq_true rfl, Nat.le_of_ble_eq_true rfl⟩) hS (fun q _ h => hFc q h) hFc (fun u t H1 locs ht hvm hw hB hz1 hk1 hS => ?_)
  obtain ⟨q33, hP1, hK1, hD1⟩ := hB
  rw [ht] at hP1
  have hK1 := va_K.moved hvm.symm hK1
  obtain ⟨hP, hD⟩ := va_join (wr := [(q0, .inr (6, [.ref q1, .ref q2, .ref q3, .ref q4, .int 0, .ref q5, .ref q6, .ref q7, .int 0, .int 0])), (q1, .inl (k0, 24, .inr (.inr (.inr (.inr (va_up (va_up (va_up (va_up (va_up (va_up (va_up (va_up (va_up (va_up (va_up (va_up (fun _ => none) (0 : Int32).toNatClampNeg (some q8)) (1 : Int32).toNatClampNeg (some q10)) (2 : Int32).toNatClampNeg (some q12)) (3 : Int32).toNatClampNeg (some q14)) (4 : Int32).toNatClampNeg (some q16)) (5 : Int32).toNatClampNeg (some q18)) (6 : Int32).toNatClampNeg (some q20)) (7 : Int32).toNatClampNeg (some q22)) (8 : Int32).toNatClampNeg (some q24)) (9 : Int32).toNatClampNeg (some q26)) (10 : Int32).toNatClampNeg (some q28)) (11 : Int32).toNatClampNeg (some q30)))))))]) (w1 := [(q32, .inr (4, [.ref q33]))]) hP hD [3] [0, 1] rfl rfl (by decide) (by decide) hk1 hFc hP1 hD1
  have hK := (hK.sub (tys' := [(k0, (.object "Seekwell$Big"))]) [0] rfl).app hK1
  generalize H1 = H at hP hS ⊢
  have hP : va_P (dC, dI) vwCl [(q0, .inr (6, [.ref q1, .ref q2, .ref q3, .ref q4, .int 0, .ref q5, .ref q6, .ref q7, .int 0, .int 0])), (q1, .inl (k0, 24, .inr (.inr (.inr (.inr (va_up (va_up (va_up (va_up (va_up (va_up (va_up (va_up (va_up (va_up (va_up (va_up (fun _ => none) (0 : Int32).toNatClampNeg (some q8)) (1 : Int32).toNatClampNeg (some q10)) (2 : Int32).toNatClampNeg (some q12)) (3 : Int32).toNatClampNeg (some q14)) (4 : Int32).toNatClampNeg (some q16)) (5 : Int32).toNatClampNeg (some q18)) (6 : Int32).toNatClampNeg (some q20)) (7 : Int32).toNatClampNeg (some q22)) (8 : Int32).toNatClampNeg (some q24)) (9 : Int32).toNatClampNeg (some q26)) (10 : Int32).toNatClampNeg (some q28)) (11 : Int32).toNatClampNeg (some q30))))))), (q32, .inr (4, [.ref q33]))] H := hP
  have hD : va_D A [(q0, .inr (6, [.ref q1, .ref q2, .ref q3, .ref q4, .int 0, .ref q5, .ref q6, .ref q7, .int 0, .int 0])), (q1, .inl (k0, 24, .inr (.inr (.inr (.inr (va_up (va_up (va_up (va_up (va_up (va_up (va_up (va_up (va_up (va_up (va_up (va_up (fun _ => none) (0 : Int32).toNatClampNeg (some q8)) (1 : Int32).toNatClampNeg (some q10)) (2 : Int32).toNatClampNeg (some q12)) (3 : Int32).toNatClampNeg (some q14)) (4 : Int32).toNatClampNeg (some q16)) (5 : Int32).toNatClampNeg (some q18)) (6 : Int32).toNatClampNeg (some q20)) (7 : Int32).toNatClampNeg (some q22)) (8 : Int32).toNatClampNeg (some q24)) (9 : Int32).toNatClampNeg (some q26)) (10 : Int32).toNatClampNeg (some q28)) (11 : Int32).toNatClampNeg (some q30))))))), (q32, .inr (4, [.ref q33]))] := hD
  have hK : va_K (dC, dI) vwCl [(k0, (.object "Seekwell$Big"))] s := hK
  refine W.widen (k := 36) (n := 354) (Nat.le_of_ble_eq_true rfl) (Nat.le_of_ble_eq_true rfl) ?_
  refine va_astq (D := (dC, dI)) hx hb hK hP hD hS 1 0 2 4 rfl rfl rfl rfl (i := 12) (zin (by decide +kernel)) dX3_init_108 (fun H locs hP hD hS => ?_)
  have hP : va_P (dC, dI) vwCl [(q0, .inr (6, [.ref q1, .ref q2, .ref q3, .ref q4, .int 0, .ref q5, .ref q6, .ref q7, .int 0, .int 0])), (q1, .inl (k0, 24, .inr (.inr (.inr (.inr (va_up (va_up (va_up (va_up (va_up (va_up (va_up (va_up (va_up (va_up (va_up (va_up (va_up (fun _ => none) (0 : Int32).toNatClampNeg (some q8)) (1 : Int32).toNatClampNeg (some q10)) (2 : Int32).toNatClampNeg (some q12)) (3 : Int32).toNatClampNeg (some q14)) (4 : Int32).toNatClampNeg (some q16)) (5 : Int32).toNatClampNeg (some q18)) (6 : Int32).toNatClampNeg (some q20)) (7 : Int32).toNatClampNeg (some q22)) (8 : Int32).toNatClampNeg (some q24)) (9 : Int32).toNatClampNeg (some q26)) (10 : Int32).toNatClampNeg (some q28)) (11 : Int32).toNatClampNeg (some q30)) (12 : Int32).toNatClampNeg (some q32))))))), (q32, .inr (4, [.ref q33]))] H := hP
  have hD : va_D A [(q0, .inr (6, [.ref q1, .ref q2, .ref q3, .ref q4, .int 0, .ref q5, .ref q6, .ref q7, .int 0, .int 0])), (q1, .inl (k0, 24, .inr (.inr (.inr (.inr (va_up (va_up (va_up (va_up (va_up (va_up (va_up (va_up (va_up (va_up (va_up (va_up (va_up (fun _ => none) (0 : Int32).toNatClampNeg (some q8)) (1 : Int32).toNatClampNeg (some q10)) (2 : Int32).toNatClampNeg (some q12)) (3 : Int32).toNatClampNeg (some q14)) (4 : Int32).toNatClampNeg (some q16)) (5 : Int32).toNatClampNeg (some q18)) (6 : Int32).toNatClampNeg (some q20)) (7 : Int32).toNatClampNeg (some q22)) (8 : Int32).toNatClampNeg (some q24)) (9 : Int32).toNatClampNeg (some q26)) (10 : Int32).toNatClampNeg (some q28)) (11 : Int32).toNatClampNeg (some q30)) (12 : Int32).toNatClampNeg (some q32))))))), (q32, .inr (4, [.ref q33]))] := hD
  refine lv_iinc (v := 13) (lv' := [(1, .int 13), (0, .ref q0)]) hx hb dX3_init_109 hl (k := 0) rfl (by decide +kernel) (by decide) rfl (fun ls hl => ?_)
  refine lv_goto (tgt := 87) hx hb dX3_init_112 (by decide) ?_
  refine lv_iload_n hx hb dX3_init_87 rfl (lv_at hl 0 rfl) ?_
  refine lv_aload_n hx hb dX3_init_88 rfl (lv_at hl 1 rfl) ?_
  refine va_get (D := (dC, dI)) (ci := 6) (v := .ref q1) (C := RX3) (T := TX3) (N := 10) hx hb hts (fun _ h => List.mem_cons_of_mem _ (List.mem_append_left _ (List.mem_append_right _ h))) hown hK hP 0 rfl rfl 0 (by decide) (hts (.fieldLink RX3 11 "Seekwell$Finder" "worths" "[LSeekwell$Big;") (by decide +kernel)) (fun _ h9 => h9) rfl dX3_init_89 ?_
  refine va_alen (D := (dC, dI)) (v := 24) hx hb hK hP 1 0 rfl rfl (show Int32.ofNat 24 = 24 by decide +kernel) dX3_init_92 ?_
  refine lv_icmp_ge (tgt := 115) hx hb dX3_init_93 (by decide) (fun h9 => absurd h9 (show ¬ (24 : Int32) ≤ (13 : Int32) by decide +kernel)) (fun _ => ?_)
  refine lv_aload_n hx hb dX3_init_96 rfl (lv_at hl 1 rfl) ?_
  refine va_get (D := (dC, dI)) (ci := 6) (v := .ref q1) (C := RX3) (T := TX3) (N := 10) hx hb hts (fun _ h => List.mem_cons_of_mem _ (List.mem_append_left _ (List.mem_append_right _ h))) hown hK hP 0 rfl rfl 0 (by decide) (hts (.fieldLink RX3 11 "Seekwell$Finder" "worths" "[LSeekwell$Big;") (by decide +kernel)) (fun _ h9 => h9) rfl dX3_init_97 ?_
  refine lv_iload_n hx hb dX3_init_100 rfl (lv_at hl 0 rfl) ?_
  refine va_new (D := (dC, dI)) (ci := 4) (fs := [.null]) (C := RX1) (T := TX1) (N := 1) hx hb hts (fun _ h => List.mem_cons_of_mem _ (List.mem_append_right _ h)) tyX1 tyX1_ok hown (hts (.classLink RX3 9 RX1) (by decide +kernel)) (hts (.instantiable RX1 1) (by decide +kernel)) (hts (.initialized RX1) (by decide +kernel)) hK hP hD hS hA rfl (zfs (by decide)) (Nat.le_of_ble_eq_true rfl) (Nat.le_of_ble_eq_true rfl) dX3_init_101 (fun q34 H hP hD hS => ?_)
  have hP : va_P (dC, dI) vwCl [(q0, .inr (6, [.ref q1, .ref q2, .ref q3, .ref q4, .int 0, .ref q5, .ref q6, .ref q7, .int 0, .int 0])), (q1, .inl (k0, 24, .inr (.inr (.inr (.inr (va_up (va_up (va_up (va_up (va_up (va_up (va_up (va_up (va_up (va_up (va_up (va_up (va_up (fun _ => none) (0 : Int32).toNatClampNeg (some q8)) (1 : Int32).toNatClampNeg (some q10)) (2 : Int32).toNatClampNeg (some q12)) (3 : Int32).toNatClampNeg (some q14)) (4 : Int32).toNatClampNeg (some q16)) (5 : Int32).toNatClampNeg (some q18)) (6 : Int32).toNatClampNeg (some q20)) (7 : Int32).toNatClampNeg (some q22)) (8 : Int32).toNatClampNeg (some q24)) (9 : Int32).toNatClampNeg (some q26)) (10 : Int32).toNatClampNeg (some q28)) (11 : Int32).toNatClampNeg (some q30)) (12 : Int32).toNatClampNeg (some q32))))))), (q32, .inr (4, [.ref q33])), (q34, .inr (4, [.null]))] H := hP
  have hD : va_D A [(q0, .inr (6, [.ref q1, .ref q2, .ref q3, .ref q4, .int 0, .ref q5, .ref q6, .ref q7, .int 0, .int 0])), (q1, .inl (k0, 24, .inr (.inr (.inr (.inr (va_up (va_up (va_up (va_up (va_up (va_up (va_up (va_up (va_up (va_up (va_up (va_up (va_up (fun _ => none) (0 : Int32).toNatClampNeg (some q8)) (1 : Int32).toNatClampNeg (some q10)) (2 : Int32).toNatClampNeg (some q12)) (3 : Int32).toNatClampNeg (some q14)) (4 : Int32).toNatClampNeg (some q16)) (5 : Int32).toNatClampNeg (some q18)) (6 : Int32).toNatClampNeg (some q20)) (7 : Int32).toNatClampNeg (some q22)) (8 : Int32).toNatClampNeg (some q24)) (9 : Int32).toNatClampNeg (some q26)) (10 : Int32).toNatClampNeg (some q28)) (11 : Int32).toNatClampNeg (some q30)) (12 : Int32).toNatClampNeg (some q32))))))), (q32, .inr (4, [.ref q33])), (q34, .inr (4, [.null]))] := hD
  refine W.widen (k := 37) (n := 355) (Nat.le_of_ble_eq_true rfl) (Nat.le_of_ble_eq_true rfl) ?_
  refine lv_dup hx hb dX3_init_104 rfl ?_
  have hPc := hP.sub (ws' := [(q34, .inr (4, [.null]))]) [3] rfl
  have hDc := hD.sub (ws' := [(q34, .inr (4, [.null]))]) [3] (by decide) rfl
  have hKc := hK.sub (tys' := []) [] rfl
  have hFc := va_free (wc := [(q34, .inr (4, [.null]))]) hD hS hA [3] rfl
  refine va_callv (va_runIN (As := []) (rest := [.ref q34, .int 13, .ref q1]) ⟨hx, hb, hml, hown, hts⟩ (c_X1_init_2 l dC dI q34 H.size  ) ⟨va_cnB (host := "Seekwell") 0 hts gX3_init_X1_init_n31 rfl rfl rfl (hN.1 (RX3, 31, yX1_init, "Seekwell") (by decide +kernel)) (hts (.initialized RX1) (by decide +kernel)) (by decide +kernel) ⟨Nat.le_of_ble_eq_true rfl, Nat.le_of_ble_eq_true rfl⟩, rfl, hts (.instanceMethod yX1_init) (by decide +kernel)⟩ ⟨zB_blind, (zPre hPc hDc hKc hS hFc hZ hN)⟩ rfl rfl hl.1 rfl (lv_room (Nat.le_of_ble_eq_true rfl)) dX3_init_105 ⟨Nat.le_of_ble_eq_true rfl, Nat.le_of_ble_eq_true rfl⟩) hS (fun q _ h => hFc q h) hFc (fun u t H1 locs ht hvm hw hB hz1 hk1 hS => ?_)
  obtain ⟨q35, hP1, hK1, hD1⟩ := hB
  rw [ht] at hP1
  have hK1 := va_K.moved hvm.symm hK1
  obtain ⟨hP, hD⟩ := va_join (wr := [(q0, .inr (6, [.ref q1, .ref q2, .ref q3, .ref q4, .int 0, .ref q5, .ref q6, .ref q7, .int 0, .int 0])), (q1, .inl (k0, 24, .inr (.inr (.inr (.inr (va_up (va_up (va_up (va_up (va_up (va_up (va_up (va_up (va_up (va_up (va_up (va_up (va_up (fun _ => none) (0 : Int32).toNatClampNeg (some q8)) (1 : Int32).toNatClampNeg (some q10)) (2 : Int32).toNatClampNeg (some q12)) (3 : Int32).toNatClampNeg (some q14)) (4 : Int32).toNatClampNeg (some q16)) (5 : Int32).toNatClampNeg (some q18)) (6 : Int32).toNatClampNeg (some q20)) (7 : Int32).toNatClampNeg (some q22)) (8 : Int32).toNatClampNeg (some q24)) (9 : Int32).toNatClampNeg (some q26)) (10 : Int32).toNatClampNeg (some q28)) (11 : Int32).toNatClampNeg (some q30)) (12 : Int32).toNatClampNeg (some q32)))))))]) (w1 := [(q34, .inr (4, [.ref q35]))]) hP hD [3] [0, 1] rfl rfl (by decide) (by decide) hk1 hFc hP1 hD1
  have hK := (hK.sub (tys' := [(k0, (.object "Seekwell$Big"))]) [0] rfl).app hK1
  generalize H1 = H at hP hS ⊢
  have hP : va_P (dC, dI) vwCl [(q0, .inr (6, [.ref q1, .ref q2, .ref q3, .ref q4, .int 0, .ref q5, .ref q6, .ref q7, .int 0, .int 0])), (q1, .inl (k0, 24, .inr (.inr (.inr (.inr (va_up (va_up (va_up (va_up (va_up (va_up (va_up (va_up (va_up (va_up (va_up (va_up (va_up (fun _ => none) (0 : Int32).toNatClampNeg (some q8)) (1 : Int32).toNatClampNeg (some q10)) (2 : Int32).toNatClampNeg (some q12)) (3 : Int32).toNatClampNeg (some q14)) (4 : Int32).toNatClampNeg (some q16)) (5 : Int32).toNatClampNeg (some q18)) (6 : Int32).toNatClampNeg (some q20)) (7 : Int32).toNatClampNeg (some q22)) (8 : Int32).toNatClampNeg (some q24)) (9 : Int32).toNatClampNeg (some q26)) (10 : Int32).toNatClampNeg (some q28)) (11 : Int32).toNatClampNeg (some q30)) (12 : Int32).toNatClampNeg (some q32))))))), (q34, .inr (4, [.ref q35]))] H := hP
  have hD : va_D A [(q0, .inr (6, [.ref q1, .ref q2, .ref q3, .ref q4, .int 0, .ref q5, .ref q6, .ref q7, .int 0, .int 0])), (q1, .inl (k0, 24, .inr (.inr (.inr (.inr (va_up (va_up (va_up (va_up (va_up (va_up (va_up (va_up (va_up (va_up (va_up (va_up (va_up (fun _ => none) (0 : Int32).toNatClampNeg (some q8)) (1 : Int32).toNatClampNeg (some q10)) (2 : Int32).toNatClampNeg (some q12)) (3 : Int32).toNatClampNeg (some q14)) (4 : Int32).toNatClampNeg (some q16)) (5 : Int32).toNatClampNeg (some q18)) (6 : Int32).toNatClampNeg (some q20)) (7 : Int32).toNatClampNeg (some q22)) (8 : Int32).toNatClampNeg (some q24)) (9 : Int32).toNatClampNeg (some q26)) (10 : Int32).toNatClampNeg (some q28)) (11 : Int32).toNatClampNeg (some q30)) (12 : Int32).toNatClampNeg (some q32))))))), (q34, .inr (4, [.ref q35]))] := hD
  have hK : va_K (dC, dI) vwCl [(k0, (.object "Seekwell$Big"))] s := hK
  refine W.widen (k := 38) (n := 371) (Nat.le_of_ble_eq_true rfl) (Nat.le_of_ble_eq_true rfl) ?_
  refine va_astq (D := (dC, dI)) hx hb hK hP hD hS 1 0 2 4 rfl rfl rfl rfl (i := 13) (zin (by decide +kernel)) dX3_init_108 (fun H locs hP hD hS => ?_)
  have hP : va_P (dC, dI) vwCl [(q0, .inr (6, [.ref q1, .ref q2, .ref q3, .ref q4, .int 0, .ref q5, .ref q6, .ref q7, .int 0, .int 0])), (q1, .inl (k0, 24, .inr (.inr (.inr (.inr (va_up (va_up (va_up (va_up (va_up (va_up (va_up (va_up (va_up (va_up (va_up (va_up (va_up (va_up (fun _ => none) (0 : Int32).toNatClampNeg (some q8)) (1 : Int32).toNatClampNeg (some q10)) (2 : Int32).toNatClampNeg (some q12)) (3 : Int32).toNatClampNeg (some q14)) (4 : Int32).toNatClampNeg (some q16)) (5 : Int32).toNatClampNeg (some q18)) (6 : Int32).toNatClampNeg (some q20)) (7 : Int32).toNatClampNeg (some q22)) (8 : Int32).toNatClampNeg (some q24)) (9 : Int32).toNatClampNeg (some q26)) (10 : Int32).toNatClampNeg (some q28)) (11 : Int32).toNatClampNeg (some q30)) (12 : Int32).toNatClampNeg (some q32)) (13 : Int32).toNatClampNeg (some q34))))))), (q34, .inr (4, [.ref q35]))] H := hP
  have hD : va_D A [(q0, .inr (6, [.ref q1, .ref q2, .ref q3, .ref q4, .int 0, .ref q5, .ref q6, .ref q7, .int 0, .int 0])), (q1, .inl (k0, 24, .inr (.inr (.inr (.inr (va_up (va_up (va_up (va_up (va_up (va_up (va_up (va_up (va_up (va_up (va_up (va_up (va_up (va_up (fun _ => none) (0 : Int32).toNatClampNeg (some q8)) (1 : Int32).toNatClampNeg (some q10)) (2 : Int32).toNatClampNeg (some q12)) (3 : Int32).toNatClampNeg (some q14)) (4 : Int32).toNatClampNeg (some q16)) (5 : Int32).toNatClampNeg (some q18)) (6 : Int32).toNatClampNeg (some q20)) (7 : Int32).toNatClampNeg (some q22)) (8 : Int32).toNatClampNeg (some q24)) (9 : Int32).toNatClampNeg (some q26)) (10 : Int32).toNatClampNeg (some q28)) (11 : Int32).toNatClampNeg (some q30)) (12 : Int32).toNatClampNeg (some q32)) (13 : Int32).toNatClampNeg (some q34))))))), (q34, .inr (4, [.ref q35]))] := hD
  refine lv_iinc (v := 14) (lv' := [(1, .int 14), (0, .ref q0)]) hx hb dX3_init_109 hl (k := 0) rfl (by decide +kernel) (by decide) rfl (fun ls hl => ?_)
  refine lv_goto (tgt := 87) hx hb dX3_init_112 (by decide) ?_
  refine lv_iload_n hx hb dX3_init_87 rfl (lv_at hl 0 rfl) ?_
  refine lv_aload_n hx hb dX3_init_88 rfl (lv_at hl 1 rfl) ?_
  refine va_get (D := (dC, dI)) (ci := 6) (v := .ref q1) (C := RX3) (T := TX3) (N := 10) hx hb hts (fun _ h => List.mem_cons_of_mem _ (List.mem_append_left _ (List.mem_append_right _ h))) hown hK hP 0 rfl rfl 0 (by decide) (hts (.fieldLink RX3 11 "Seekwell$Finder" "worths" "[LSeekwell$Big;") (by decide +kernel)) (fun _ h9 => h9) rfl dX3_init_89 ?_
  refine va_alen (D := (dC, dI)) (v := 24) hx hb hK hP 1 0 rfl rfl (show Int32.ofNat 24 = 24 by decide +kernel) dX3_init_92 ?_
  refine lv_icmp_ge (tgt := 115) hx hb dX3_init_93 (by decide) (fun h9 => absurd h9 (show ¬ (24 : Int32) ≤ (14 : Int32) by decide +kernel)) (fun _ => ?_)
  refine lv_aload_n hx hb dX3_init_96 rfl (lv_at hl 1 rfl) ?_
  refine va_get (D := (dC, dI)) (ci := 6) (v := .ref q1) (C := RX3) (T := TX3) (N := 10) hx hb hts (fun _ h => List.mem_cons_of_mem _ (List.mem_append_left _ (List.mem_append_right _ h))) hown hK hP 0 rfl rfl 0 (by decide) (hts (.fieldLink RX3 11 "Seekwell$Finder" "worths" "[LSeekwell$Big;") (by decide +kernel)) (fun _ h9 => h9) rfl dX3_init_97 ?_
  refine lv_iload_n hx hb dX3_init_100 rfl (lv_at hl 0 rfl) ?_
  refine va_new (D := (dC, dI)) (ci := 4) (fs := [.null]) (C := RX1) (T := TX1) (N := 1) hx hb hts (fun _ h => List.mem_cons_of_mem _ (List.mem_append_right _ h)) tyX1 tyX1_ok hown (hts (.classLink RX3 9 RX1) (by decide +kernel)) (hts (.instantiable RX1 1) (by decide +kernel)) (hts (.initialized RX1) (by decide +kernel)) hK hP hD hS hA rfl (zfs (by decide)) (Nat.le_of_ble_eq_true rfl) (Nat.le_of_ble_eq_true rfl) dX3_init_101 (fun q36 H hP hD hS => ?_)
  have hP : va_P (dC, dI) vwCl [(q0, .inr (6, [.ref q1, .ref q2, .ref q3, .ref q4, .int 0, .ref q5, .ref q6, .ref q7, .int 0, .int 0])), (q1, .inl (k0, 24, .inr (.inr (.inr (.inr (va_up (va_up (va_up (va_up (va_up (va_up (va_up (va_up (va_up (va_up (va_up (va_up (va_up (va_up (fun _ => none) (0 : Int32).toNatClampNeg (some q8)) (1 : Int32).toNatClampNeg (some q10)) (2 : Int32).toNatClampNeg (some q12)) (3 : Int32).toNatClampNeg (some q14)) (4 : Int32).toNatClampNeg (some q16)) (5 : Int32).toNatClampNeg (some q18)) (6 : Int32).toNatClampNeg (some q20)) (7 : Int32).toNatClampNeg (some q22)) (8 : Int32).toNatClampNeg (some q24)) (9 : Int32).toNatClampNeg (some q26)) (10 : Int32).toNatClampNeg (some q28)) (11 : Int32).toNatClampNeg (some q30)) (12 : Int32).toNatClampNeg (some q32)) (13 : Int32).toNatClampNeg (some q34))))))), (q34, .inr (4, [.ref q35])), (q36, .inr (4, [.null]))] H := hP
  have hD : va_D A [(q0, .inr (6, [.ref q1, .ref q2, .ref q3, .ref q4, .int 0, .ref q5, .ref q6, .ref q7, .int 0, .int 0])), (q1, .inl (k0, 24, .inr (.inr (.inr (.inr (va_up (va_up (va_up (va_up (va_up (va_up (va_up (va_up (va_up (va_up (va_up (va_up (va_up (va_up (fun _ => none) (0 : Int32).toNatClampNeg (some q8)) (1 : Int32).toNatClampNeg (some q10)) (2 : Int32).toNatClampNeg (some q12)) (3 : Int32).toNatClampNeg (some q14)) (4 : Int32).toNatClampNeg (some q16)) (5 : Int32).toNatClampNeg (some q18)) (6 : Int32).toNatClampNeg (some q20)) (7 : Int32).toNatClampNeg (some q22)) (8 : Int32).toNatClampNeg (some q24)) (9 : Int32).toNatClampNeg (some q26)) (10 : Int32).toNatClampNeg (some q28)) (11 : Int32).toNatClampNeg (some q30)) (12 : Int32).toNatClampNeg (some q32)) (13 : Int32).toNatClampNeg (some q34))))))), (q34, .inr (4, [.ref q35])), (q36, .inr (4, [.null]))] := hD
  refine W.widen (k := 39) (n := 372) (Nat.le_of_ble_eq_true rfl) (Nat.le_of_ble_eq_true rfl) ?_
  refine lv_dup hx hb dX3_init_104 rfl ?_
  have hPc := hP.sub (ws' := [(q36, .inr (4, [.null]))]) [3] rfl
  have hDc := hD.sub (ws' := [(q36, .inr (4, [.null]))]) [3] (by decide) rfl
  have hKc := hK.sub (tys' := []) [] rfl
  have hFc := va_free (wc := [(q36, .inr (4, [.null]))]) hD hS hA [3] rfl
  refine va_callv (va_runIN (As := []) (rest := [.ref q36, .int 14, .ref q1]) ⟨hx, hb, hml, hown, hts⟩ (c_X1_init_2 l dC dI q36 H.size  ) ⟨va_cnB (host := "Seekwell") 0 hts gX3_init_X1_init_n31 rfl rfl rfl (hN.1 (RX3, 31, yX1_init, "Seekwell") (by decide +kernel)) (hts (.initialized RX1) (by decide +kernel)) (by decide +kernel) ⟨Nat.le_of_ble_eq_true rfl, Nat.le_of_ble_eq_true rfl⟩, rfl, hts (.instanceMethod yX1_init) (by decide +kernel)⟩ ⟨zB_blind, (zPre hPc hDc hKc hS hFc hZ hN)⟩ rfl rfl hl.1 rfl (lv_room (Nat.le_of_ble_eq_true rfl)) dX3_init_105 ⟨Nat.le_of_ble_eq_true rfl, Nat.le_of_ble_eq_true rfl⟩) hS (fun q _ h => hFc q h) hFc (fun u t H1 locs ht hvm hw hB hz1 hk1 hS => ?_)
  obtain ⟨q37, hP1, hK1, hD1⟩ := hB
  rw [ht] at hP1
  have hK1 := va_K.moved hvm.symm hK1
  obtain ⟨hP, hD⟩ := va_join (wr := [(q0, .inr (6, [.ref q1, .ref q2, .ref q3, .ref q4, .int 0, .ref q5, .ref q6, .ref q7, .int 0, .int 0])), (q1, .inl (k0, 24, .inr (.inr (.inr (.inr (va_up (va_up (va_up (va_up (va_up (va_up (va_up (va_up (va_up (va_up (va_up (va_up (va_up (va_up (fun _ => none) (0 : Int32).toNatClampNeg (some q8)) (1 : Int32).toNatClampNeg (some q10)) (2 : Int32).toNatClampNeg (some q12)) (3 : Int32).toNatClampNeg (some q14)) (4 : Int32).toNatClampNeg (some q16)) (5 : Int32).toNatClampNeg (some q18)) (6 : Int32).toNatClampNeg (some q20)) (7 : Int32).toNatClampNeg (some q22)) (8 : Int32).toNatClampNeg (some q24)) (9 : Int32).toNatClampNeg (some q26)) (10 : Int32).toNatClampNeg (some q28)) (11 : Int32).toNatClampNeg (some q30)) (12 : Int32).toNatClampNeg (some q32)) (13 : Int32).toNatClampNeg (some q34)))))))]) (w1 := [(q36, .inr (4, [.ref q37]))]) hP hD [3] [0, 1] rfl rfl (by decide) (by decide) hk1 hFc hP1 hD1
  have hK := (hK.sub (tys' := [(k0, (.object "Seekwell$Big"))]) [0] rfl).app hK1
  generalize H1 = H at hP hS ⊢
  have hP : va_P (dC, dI) vwCl [(q0, .inr (6, [.ref q1, .ref q2, .ref q3, .ref q4, .int 0, .ref q5, .ref q6, .ref q7, .int 0, .int 0])), (q1, .inl (k0, 24, .inr (.inr (.inr (.inr (va_up (va_up (va_up (va_up (va_up (va_up (va_up (va_up (va_up (va_up (va_up (va_up (va_up (va_up (fun _ => none) (0 : Int32).toNatClampNeg (some q8)) (1 : Int32).toNatClampNeg (some q10)) (2 : Int32).toNatClampNeg (some q12)) (3 : Int32).toNatClampNeg (some q14)) (4 : Int32).toNatClampNeg (some q16)) (5 : Int32).toNatClampNeg (some q18)) (6 : Int32).toNatClampNeg (some q20)) (7 : Int32).toNatClampNeg (some q22)) (8 : Int32).toNatClampNeg (some q24)) (9 : Int32).toNatClampNeg (some q26)) (10 : Int32).toNatClampNeg (some q28)) (11 : Int32).toNatClampNeg (some q30)) (12 : Int32).toNatClampNeg (some q32)) (13 : Int32).toNatClampNeg (some q34))))))), (q36, .inr (4, [.ref q37]))] H := hP
  have hD : va_D A [(q0, .inr (6, [.ref q1, .ref q2, .ref q3, .ref q4, .int 0, .ref q5, .ref q6, .ref q7, .int 0, .int 0])), (q1, .inl (k0, 24, .inr (.inr (.inr (.inr (va_up (va_up (va_up (va_up (va_up (va_up (va_up (va_up (va_up (va_up (va_up (va_up (va_up (va_up (fun _ => none) (0 : Int32).toNatClampNeg (some q8)) (1 : Int32).toNatClampNeg (some q10)) (2 : Int32).toNatClampNeg (some q12)) (3 : Int32).toNatClampNeg (some q14)) (4 : Int32).toNatClampNeg (some q16)) (5 : Int32).toNatClampNeg (some q18)) (6 : Int32).toNatClampNeg (some q20)) (7 : Int32).toNatClampNeg (some q22)) (8 : Int32).toNatClampNeg (some q24)) (9 : Int32).toNatClampNeg (some q26)) (10 : Int32).toNatClampNeg (some q28)) (11 : Int32).toNatClampNeg (some q30)) (12 : Int32).toNatClampNeg (some q32)) (13 : Int32).toNatClampNeg (some q34))))))), (q36, .inr (4, [.ref q37]))] := hD
  have hK : va_K (dC, dI) vwCl [(k0, (.object "Seekwell$Big"))] s := hK
  refine W.widen (k := 40) (n := 388) (Nat.le_of_ble_eq_true rfl) (Nat.le_of_ble_eq_true rfl) ?_
  refine va_astq (D := (dC, dI)) hx hb hK hP hD hS 1 0 2 4 rfl rfl rfl rfl (i := 14) (zin (by decide +kernel)) dX3_init_108 (fun H locs hP hD hS => ?_)
  have hP : va_P (dC, dI) vwCl [(q0, .inr (6, [.ref q1, .ref q2, .ref q3, .ref q4, .int 0, .ref q5, .ref q6, .ref q7, .int 0, .int 0])), (q1, .inl (k0, 24, .inr (.inr (.inr (.inr (va_up (va_up (va_up (va_up (va_up (va_up (va_up (va_up (va_up (va_up (va_up (va_up (va_up (va_up (va_up (fun _ => none) (0 : Int32).toNatClampNeg (some q8)) (1 : Int32).toNatClampNeg (some q10)) (2 : Int32).toNatClampNeg (some q12)) (3 : Int32).toNatClampNeg (some q14)) (4 : Int32).toNatClampNeg (some q16)) (5 : Int32).toNatClampNeg (some q18)) (6 : Int32).toNatClampNeg (some q20)) (7 : Int32).toNatClampNeg (some q22)) (8 : Int32).toNatClampNeg (some q24)) (9 : Int32).toNatClampNeg (some q26)) (10 : Int32).toNatClampNeg (some q28)) (11 : Int32).toNatClampNeg (some q30)) (12 : Int32).toNatClampNeg (some q32)) (13 : Int32).toNatClampNeg (some q34)) (14 : Int32).toNatClampNeg (some q36))))))), (q36, .inr (4, [.ref q37]))] H := hP
  have hD : va_D A [(q0, .inr (6, [.ref q1, .ref q2, .ref q3, .ref q4, .int 0, .ref q5, .ref q6, .ref q7, .int 0, .int 0])), (q1, .inl (k0, 24, .inr (.inr (.inr (.inr (va_up (va_up (va_up (va_up (va_up (va_up (va_up (va_up (va_up (va_up (va_up (va_up (va_up (va_up (va_up (fun _ => none) (0 : Int32).toNatClampNeg (some q8)) (1 : Int32).toNatClampNeg (some q10)) (2 : Int32).toNatClampNeg (some q12)) (3 : Int32).toNatClampNeg (some q14)) (4 : Int32).toNatClampNeg (some q16)) (5 : Int32).toNatClampNeg (some q18)) (6 : Int32).toNatClampNeg (some q20)) (7 : Int32).toNatClampNeg (some q22)) (8 : Int32).toNatClampNeg (some q24)) (9 : Int32).toNatClampNeg (some q26)) (10 : Int32).toNatClampNeg (some q28)) (11 : Int32).toNatClampNeg (some q30)) (12 : Int32).toNatClampNeg (some q32)) (13 : Int32).toNatClampNeg (some q34)) (14 : Int32).toNatClampNeg (some q36))))))), (q36, .inr (4, [.ref q37]))] := hD
  refine lv_iinc (v := 15) (lv' := [(1, .int 15), (0, .ref q0)]) hx hb dX3_init_109 hl (k := 0) rfl (by decide +kernel) (by decide) rfl (fun ls hl => ?_)
  refine lv_goto (tgt := 87) hx hb dX3_init_112 (by decide) ?_
  refine lv_iload_n hx hb dX3_init_87 rfl (lv_at hl 0 rfl) ?_
  refine lv_aload_n hx hb dX3_init_88 rfl (lv_at hl 1 rfl) ?_
  refine va_get (D := (dC, dI)) (ci := 6) (v := .ref q1) (C := RX3) (T := TX3) (N := 10) hx hb hts (fun _ h => List.mem_cons_of_mem _ (List.mem_append_left _ (List.mem_append_right _ h))) hown hK hP 0 rfl rfl 0 (by decide) (hts (.fieldLink RX3 11 "Seekwell$Finder" "worths" "[LSeekwell$Big;") (by decide +kernel)) (fun _ h9 => h9) rfl dX3_init_89 ?_
  refine va_alen (D := (dC, dI)) (v := 24) hx hb hK hP 1 0 rfl rfl (show Int32.ofNat 24 = 24 by decide +kernel) dX3_init_92 ?_
  refine lv_icmp_ge (tgt := 115) hx hb dX3_init_93 (by decide) (fun h9 => absurd h9 (show ¬ (24 : Int32) ≤ (15 : Int32) by decide +kernel)) (fun _ => ?_)
  refine lv_aload_n hx hb dX3_init_96 rfl (lv_at hl 1 rfl) ?_
  refine va_get (D := (dC, dI)) (ci := 6) (v := .ref q1) (C := RX3) (T := TX3) (N := 10) hx hb hts (fun _ h => List.mem_cons_of_mem _ (List.mem_append_left _ (List.mem_append_right _ h))) hown hK hP 0 rfl rfl 0 (by decide) (hts (.fieldLink RX3 11 "Seekwell$Finder" "worths" "[LSeekwell$Big;") (by decide +kernel)) (fun _ h9 => h9) rfl dX3_init_97 ?_
  refine lv_iload_n hx hb dX3_init_100 rfl (lv_at hl 0 rfl) ?_
  refine va_new (D := (dC, dI)) (ci := 4) (fs := [.null]) (C := RX1) (T := TX1) (N := 1) hx hb hts (fun _ h => List.mem_cons_of_mem _ (List.mem_append_right _ h)) tyX1 tyX1_ok hown (hts (.classLink RX3 9 RX1) (by decide +kernel)) (hts (.instantiable RX1 1) (by decide +kernel)) (hts (.initialized RX1) (by decide +kernel)) hK hP hD hS hA rfl (zfs (by decide)) (Nat.le_of_ble_eq_true rfl) (Nat.le_of_ble_eq_true rfl) dX3_init_101 (fun q38 H hP hD hS => ?_)
  have hP : va_P (dC, dI) vwCl [(q0, .inr (6, [.ref q1, .ref q2, .ref q3, .ref q4, .int 0, .ref q5, .ref q6, .ref q7, .int 0, .int 0])), (q1, .inl (k0, 24, .inr (.inr (.inr (.inr (va_up (va_up (va_up (va_up (va_up (va_up (va_up (va_up (va_up (va_up (va_up (va_up (va_up (va_up (va_up (fun _ => none) (0 : Int32).toNatClampNeg (some q8)) (1 : Int32).toNatClampNeg (some q10)) (2 : Int32).toNatClampNeg (some q12)) (3 : Int32).toNatClampNeg (some q14)) (4 : Int32).toNatClampNeg (some q16)) (5 : Int32).toNatClampNeg (some q18)) (6 : Int32).toNatClampNeg (some q20)) (7 : Int32).toNatClampNeg (some q22)) (8 : Int32).toNatClampNeg (some q24)) (9 : Int32).toNatClampNeg (some q26)) (10 : Int32).toNatClampNeg (some q28)) (11 : Int32).toNatClampNeg (some q30)) (12 : Int32).toNatClampNeg (some q32)) (13 : Int32).toNatClampNeg (some q34)) (14 : Int32).toNatClampNeg (some q36))))))), (q36, .inr (4, [.ref q37])), (q38, .inr (4, [.null]))] H := hP
  have hD : va_D A [(q0, .inr (6, [.ref q1, .ref q2, .ref q3, .ref q4, .int 0, .ref q5, .ref q6, .ref q7, .int 0, .int 0])), (q1, .inl (k0, 24, .inr (.inr (.inr (.inr (va_up (va_up (va_up (va_up (va_up (va_up (va_up (va_up (va_up (va_up (va_up (va_up (va_up (va_up (va_up (fun _ => none) (0 : Int32).toNatClampNeg (some q8)) (1 : Int32).toNatClampNeg (some q10)) (2 : Int32).toNatClampNeg (some q12)) (3 : Int32).toNatClampNeg (some q14)) (4 : Int32).toNatClampNeg (some q16)) (5 : Int32).toNatClampNeg (some q18)) (6 : Int32).toNatClampNeg (some q20)) (7 : Int32).toNatClampNeg (some q22)) (8 : Int32).toNatClampNeg (some q24)) (9 : Int32).toNatClampNeg (some q26)) (10 : Int32).toNatClampNeg (some q28)) (11 : Int32).toNatClampNeg (some q30)) (12 : Int32).toNatClampNeg (some q32)) (13 : Int32).toNatClampNeg (some q34)) (14 : Int32).toNatClampNeg (some q36))))))), (q36, .inr (4, [.ref q37])), (q38, .inr (4, [.null]))] := hD
  refine W.widen (k := 41) (n := 389) (Nat.le_of_ble_eq_true rfl) (Nat.le_of_ble_eq_true rfl) ?_
  refine lv_dup hx hb dX3_init_104 rfl ?_
  have hPc := hP.sub (ws' := [(q38, .inr (4, [.null]))]) [3] rfl
  have hDc := hD.sub (ws' := [(q38, .inr (4, [.null]))]) [3] (by decide) rfl
  have hKc := hK.sub (tys' := []) [] rfl
  have hFc := va_free (wc := [(q38, .inr (4, [.null]))]) hD hS hA [3] rfl
  refine va_callv (va_runIN (As := []) (rest := [.ref q38, .int 15, .ref q1]) ⟨hx, hb, hml, hown, hts⟩ (c_X1_init_2 l dC dI q38 H.size  ) ⟨va_cnB (host := "Seekwell") 0 hts gX3_init_X1_init_n31 rfl rfl rfl (hN.1 (RX3, 31, yX1_init, "Seekwell") (by decide +kernel)) (hts (.initialized RX1) (by decide +kernel)) (by decide +kernel) ⟨Nat.le_of_ble_eq_true rfl, Nat.le_of_ble_eq_true rfl⟩, rfl, hts (.instanceMethod yX1_init) (by decide +kernel)⟩ ⟨zB_blind, (zPre hPc hDc hKc hS hFc hZ hN)⟩ rfl rfl hl.1 rfl (lv_room (Nat.le_of_ble_eq_true rfl)) dX3_init_105 ⟨Nat.le_of_ble_eq_true rfl, Nat.le_of_ble_eq_true rfl⟩) hS (fun q _ h => hFc q h) hFc (fun u t H1 locs ht hvm hw hB hz1 hk1 hS => ?_)
  obtain ⟨q39, hP1, hK1, hD1⟩ := hB
  rw [ht] at hP1
  have hK1 := va_K.moved hvm.symm hK1
  obtain ⟨hP, hD⟩ := va_join (wr := [(q0, .inr (6, [.ref q1, .ref q2, .ref q3, .ref q4, .int 0, .ref q5, .ref q6, .ref q7, .int 0, .int 0])), (q1, .inl (k0, 24, .inr (.inr (.inr (.inr (va_up (va_up (va_up (va_up (va_up (va_up (va_up (va_up (va_up (va_up (va_up (va_up (va_up (va_up (va_up (fun _ => none) (0 : Int32).toNatClampNeg (some q8)) (1 : Int32).toNatClampNeg (some q10)) (2 : Int32).toNatClampNeg (some q12)) (3 : Int32).toNatClampNeg (some q14)) (4 : Int32).toNatClampNeg (some q16)) (5 : Int32).toNatClampNeg (some q18)) (6 : Int32).toNatClampNeg (some q20)) (7 : Int32).toNatClampNeg (some q22)) (8 : Int32).toNatClampNeg (some q24)) (9 : Int32).toNatClampNeg (some q26)) (10 : Int32).toNatClampNeg (some q28)) (11 : Int32).toNatClampNeg (some q30)) (12 : Int32).toNatClampNeg (some q32)) (13 : Int32).toNatClampNeg (some q34)) (14 : Int32).toNatClampNeg (some q36)))))))]) (w1 := [(q38, .inr (4, [.ref q39]))]) hP hD [3] [0, 1] rfl rfl (by decide) (by decide) hk1 hFc hP1 hD1
  have hK := (hK.sub (tys' := [(k0, (.object "Seekwell$Big"))]) [0] rfl).app hK1
  generalize H1 = H at hP hS ⊢
  have hP : va_P (dC, dI) vwCl [(q0, .inr (6, [.ref q1, .ref q2, .ref q3, .ref q4, .int 0, .ref q5, .ref q6, .ref q7, .int 0, .int 0])), (q1, .inl (k0, 24, .inr (.inr (.inr (.inr (va_up (va_up (va_up (va_up (va_up (va_up (va_up (va_up (va_up (va_up (va_up (va_up (va_up (va_up (va_up (fun _ => none) (0 : Int32).toNatClampNeg (some q8)) (1 : Int32).toNatClampNeg (some q10)) (2 : Int32).toNatClampNeg (some q12)) (3 : Int32).toNatClampNeg (some q14)) (4 : Int32).toNatClampNeg (some q16)) (5 : Int32).toNatClampNeg (some q18)) (6 : Int32).toNatClampNeg (some q20)) (7 : Int32).toNatClampNeg (some q22)) (8 : Int32).toNatClampNeg (some q24)) (9 : Int32).toNatClampNeg (some q26)) (10 : Int32).toNatClampNeg (some q28)) (11 : Int32).toNatClampNeg (some q30)) (12 : Int32).toNatClampNeg (some q32)) (13 : Int32).toNatClampNeg (some q34)) (14 : Int32).toNatClampNeg (some q36))))))), (q38, .inr (4, [.ref q39]))] H := hP
  have hD : va_D A [(q0, .inr (6, [.ref q1, .ref q2, .ref q3, .ref q4, .int 0, .ref q5, .ref q6, .ref q7, .int 0, .int 0])), (q1, .inl (k0, 24, .inr (.inr (.inr (.inr (va_up (va_up (va_up (va_up (va_up (va_up (va_up (va_up (va_up (va_up (va_up (va_up (va_up (va_up (va_up (fun _ => none) (0 : Int32).toNatClampNeg (some q8)) (1 : Int32).toNatClampNeg (some q10)) (2 : Int32).toNatClampNeg (some q12)) (3 : Int32).toNatClampNeg (some q14)) (4 : Int32).toNatClampNeg (some q16)) (5 : Int32).toNatClampNeg (some q18)) (6 : Int32).toNatClampNeg (some q20)) (7 : Int32).toNatClampNeg (some q22)) (8 : Int32).toNatClampNeg (some q24)) (9 : Int32).toNatClampNeg (some q26)) (10 : Int32).toNatClampNeg (some q28)) (11 : Int32).toNatClampNeg (some q30)) (12 : Int32).toNatClampNeg (some q32)) (13 : Int32).toNatClampNeg (some q34)) (14 : Int32).toNatClampNeg (some q36))))))), (q38, .inr (4, [.ref q39]))] := hD
  have hK : va_K (dC, dI) vwCl [(k0, (.object "Seekwell$Big"))] s := hK
  refine W.widen (k := 42) (n := 405) (Nat.le_of_ble_eq_true rfl) (Nat.le_of_ble_eq_true rfl) ?_
  refine va_astq (D := (dC, dI)) hx hb hK hP hD hS 1 0 2 4 rfl rfl rfl rfl (i := 15) (zin (by decide +kernel)) dX3_init_108 (fun H locs hP hD hS => ?_)
  have hP : va_P (dC, dI) vwCl [(q0, .inr (6, [.ref q1, .ref q2, .ref q3, .ref q4, .int 0, .ref q5, .ref q6, .ref q7, .int 0, .int 0])), (q1, .inl (k0, 24, .inr (.inr (.inr (.inr (va_up (va_up (va_up (va_up (va_up (va_up (va_up (va_up (va_up (va_up (va_up (va_up (va_up (va_up (va_up (va_up (fun _ => none) (0 : Int32).toNatClampNeg (some q8)) (1 : Int32).toNatClampNeg (some q10)) (2 : Int32).toNatClampNeg (some q12)) (3 : Int32).toNatClampNeg (some q14)) (4 : Int32).toNatClampNeg (some q16)) (5 : Int32).toNatClampNeg (some q18)) (6 : Int32).toNatClampNeg (some q20)) (7 : Int32).toNatClampNeg (some q22)) (8 : Int32).toNatClampNeg (some q24)) (9 : Int32).toNatClampNeg (some q26)) (10 : Int32).toNatClampNeg (some q28)) (11 : Int32).toNatClampNeg (some q30)) (12 : Int32).toNatClampNeg (some q32)) (13 : Int32).toNatClampNeg (some q34)) (14 : Int32).toNatClampNeg (some q36)) (15 : Int32).toNatClampNeg (some q38))))))), (q38, .inr (4, [.ref q39]))] H := hP
  have hD : va_D A [(q0, .inr (6, [.ref q1, .ref q2, .ref q3, .ref q4, .int 0, .ref q5, .ref q6, .ref q7, .int 0, .int 0])), (q1, .inl (k0, 24, .inr (.inr (.inr (.inr (va_up (va_up (va_up (va_up (va_up (va_up (va_up (va_up (va_up (va_up (va_up (va_up (va_up (va_up (va_up (va_up (fun _ => none) (0 : Int32).toNatClampNeg (some q8)) (1 : Int32).toNatClampNeg (some q10)) (2 : Int32).toNatClampNeg (some q12)) (3 : Int32).toNatClampNeg (some q14)) (4 : Int32).toNatClampNeg (some q16)) (5 : Int32).toNatClampNeg (some q18)) (6 : Int32).toNatClampNeg (some q20)) (7 : Int32).toNatClampNeg (some q22)) (8 : Int32).toNatClampNeg (some q24)) (9 : Int32).toNatClampNeg (some q26)) (10 : Int32).toNatClampNeg (some q28)) (11 : Int32).toNatClampNeg (some q30)) (12 : Int32).toNatClampNeg (some q32)) (13 : Int32).toNatClampNeg (some q34)) (14 : Int32).toNatClampNeg (some q36)) (15 : Int32).toNatClampNeg (some q38))))))), (q38, .inr (4, [.ref q39]))] := hD
  refine lv_iinc (v := 16) (lv' := [(1, .int 16), (0, .ref q0)]) hx hb dX3_init_109 hl (k := 0) rfl (by decide +kernel) (by decide) rfl (fun ls hl => ?_)
  refine lv_goto (tgt := 87) hx hb dX3_init_112 (by decide) ?_
  refine lv_iload_n hx hb dX3_init_87 rfl (lv_at hl 0 rfl) ?_
  refine lv_aload_n hx hb dX3_init_88 rfl (lv_at hl 1 rfl) ?_
  refine va_get (D := (dC, dI)) (ci := 6) (v := .ref q1) (C := RX3) (T := TX3) (N := 10) hx hb hts (fun _ h => List.mem_cons_of_mem _ (List.mem_append_left _ (List.mem_append_right _ h))) hown hK hP 0 rfl rfl 0 (by decide) (hts (.fieldLink RX3 11 "Seekwell$Finder" "worths" "[LSeekwell$Big;") (by decide +kernel)) (fun _ h9 => h9) rfl dX3_init_89 ?_
  refine va_alen (D := (dC, dI)) (v := 24) hx hb hK hP 1 0 rfl rfl (show Int32.ofNat 24 = 24 by decide +kernel) dX3_init_92 ?_
  refine lv_icmp_ge (tgt := 115) hx hb dX3_init_93 (by decide) (fun h9 => absurd h9 (show ¬ (24 : Int32) ≤ (16 : Int32) by decide +kernel)) (fun _ => ?_)
  refine lv_aload_n hx hb dX3_init_96 rfl (lv_at hl 1 rfl) ?_
  refine va_get (D := (dC, dI)) (ci := 6) (v := .ref q1) (C := RX3) (T := TX3) (N := 10) hx hb hts (fun _ h => List.mem_cons_of_mem _ (List.mem_append_left _ (List.mem_append_right _ h))) hown hK hP 0 rfl rfl 0 (by decide) (hts (.fieldLink RX3 11 "Seekwell$Finder" "worths" "[LSeekwell$Big;") (by decide +kernel)) (fun _ h9 => h9) rfl dX3_init_97 ?_
  refine lv_iload_n hx hb dX3_init_100 rfl (lv_at hl 0 rfl) ?_
  refine va_new (D := (dC, dI)) (ci := 4) (fs := [.null]) (C := RX1) (T := TX1) (N := 1) hx hb hts (fun _ h => List.mem_cons_of_mem _ (List.mem_append_right _ h)) tyX1 tyX1_ok hown (hts (.classLink RX3 9 RX1) (by decide +kernel)) (hts (.instantiable RX1 1) (by decide +kernel)) (hts (.initialized RX1) (by decide +kernel)) hK hP hD hS hA rfl (zfs (by decide)) (Nat.le_of_ble_eq_true rfl) (Nat.le_of_ble_eq_true rfl) dX3_init_101 (fun q40 H hP hD hS => ?_)
  have hP : va_P (dC, dI) vwCl [(q0, .inr (6, [.ref q1, .ref q2, .ref q3, .ref q4, .int 0, .ref q5, .ref q6, .ref q7, .int 0, .int 0])), (q1, .inl (k0, 24, .inr (.inr (.inr (.inr (va_up (va_up (va_up (va_up (va_up (va_up (va_up (va_up (va_up (va_up (va_up (va_up (va_up (va_up (va_up (va_up (fun _ => none) (0 : Int32).toNatClampNeg (some q8)) (1 : Int32).toNatClampNeg (some q10)) (2 : Int32).toNatClampNeg (some q12)) (3 : Int32).toNatClampNeg (some q14)) (4 : Int32).toNatClampNeg (some q16)) (5 : Int32).toNatClampNeg (some q18)) (6 : Int32).toNatClampNeg (some q20)) (7 : Int32).toNatClampNeg (some q22)) (8 : Int32).toNatClampNeg (some q24)) (9 : Int32).toNatClampNeg (some q26)) (10 : Int32).toNatClampNeg (some q28)) (11 : Int32).toNatClampNeg (some q30)) (12 : Int32).toNatClampNeg (some q32)) (13 : Int32).toNatClampNeg (some q34)) (14 : Int32).toNatClampNeg (some q36)) (15 : Int32).toNatClampNeg (some q38))))))), (q38, .inr (4, [.ref q39])), (q40, .inr (4, [.null]))] H := hP
  have hD : va_D A [(q0, .inr (6, [.ref q1, .ref q2, .ref q3, .ref q4, .int 0, .ref q5, .ref q6, .ref q7, .int 0, .int 0])), (q1, .inl (k0, 24, .inr (.inr (.inr (.inr (va_up (va_up (va_up (va_up (va_up (va_up (va_up (va_up (va_up (va_up (va_up (va_up (va_up (va_up (va_up (va_up (fun _ => none) (0 : Int32).toNatClampNeg (some q8)) (1 : Int32).toNatClampNeg (some q10)) (2 : Int32).toNatClampNeg (some q12)) (3 : Int32).toNatClampNeg (some q14)) (4 : Int32).toNatClampNeg (some q16)) (5 : Int32).toNatClampNeg (some q18)) (6 : Int32).toNatClampNeg (some q20)) (7 : Int32).toNatClampNeg (some q22)) (8 : Int32).toNatClampNeg (some q24)) (9 : Int32).toNatClampNeg (some q26)) (10 : Int32).toNatClampNeg (some q28)) (11 : Int32).toNatClampNeg (some q30)) (12 : Int32).toNatClampNeg (some q32)) (13 : Int32).toNatClampNeg (some q34)) (14 : Int32).toNatClampNeg (some q36)) (15 : Int32).toNatClampNeg (some q38))))))), (q38, .inr (4, [.ref q39])), (q40, .inr (4, [.null]))] := hD
  refine W.widen (k := 43) (n := 406) (Nat.le_of_ble_eq_true rfl) (Nat.le_of_ble_eq_true rfl) ?_
  refine lv_dup hx hb dX3_init_104 rfl ?_
  have hPc := hP.sub (ws' := [(q40, .inr (4, [.null]))]) [3] rfl
  have hDc := hD.sub (ws' := [(q40, .inr (4, [.null]))]) [3] (by decide) rfl
  have hKc := hK.sub (tys' := []) [] rfl
  have hFc := va_free (wc := [(q40, .inr (4, [.null]))]) hD hS hA [3] rfl
  refine va_callv (va_runIN (As := []) (rest := [.ref q40, .int 16, .ref q1]) ⟨hx, hb, hml, hown, hts⟩ (c_X1_init_2 l dC dI q40 H.size  ) ⟨va_cnB (host := "Seekwell") 0 hts gX3_init_X1_init_n31 rfl rfl rfl (hN.1 (RX3, 31, yX1_init, "Seekwell") (by decide +kernel)) (hts (.initialized RX1) (by decide +kernel)) (by decide +kernel) ⟨Nat.le_of_ble_eq_true rfl, Nat.le_of_ble_eq_true rfl⟩, rfl, hts (.instanceMethod yX1_init) (by decide +kernel)⟩ ⟨zB_blind, (zPre hPc hDc hKc hS hFc hZ hN)⟩ rfl rfl hl.1 rfl (lv_room (Nat.le_of_ble_eq_true rfl)) dX3_init_105 ⟨Nat.le_of_ble_eq_true rfl, Nat.le_of_ble_eq_true rfl⟩) hS (fun q _ h => hFc q h) hFc (fun u t H1 locs ht hvm hw hB hz1 hk1 hS => ?_)
  obtain ⟨q41, hP1, hK1, hD1⟩ := hB
  rw [ht] at hP1
  have hK1 := va_K.moved hvm.symm hK1
  obtain ⟨hP, hD⟩ := va_join (wr := [(q0, .inr (6, [.ref q1, .ref q2, .ref q3, .ref q4, .int 0, .ref q5, .ref q6, .ref q7, .int 0, .int 0])), (q1, .inl (k0, 24, .inr (.inr (.inr (.inr (va_up (va_up (va_up (va_up (va_up (va_up (va_up (va_up (va_up (va_up (va_up (va_up (va_up (va_up (va_up (va_up (fun _ => none) (0 : Int32).toNatClampNeg (some q8)) (1 : Int32).toNatClampNeg (some q10)) (2 : Int32).toNatClampNeg (some q12)) (3 : Int32).toNatClampNeg (some q14)) (4 : Int32).toNatClampNeg (some q16)) (5 : Int32).toNatClampNeg (some q18)) (6 : Int32).toNatClampNeg (some q20)) (7 : Int32).toNatClampNeg (some q22)) (8 : Int32).toNatClampNeg (some q24)) (9 : Int32).toNatClampNeg (some q26)) (10 : Int32).toNatClampNeg (some q28)) (11 : Int32).toNatClampNeg (some q30)) (12 : Int32).toNatClampNeg (some q32)) (13 : Int32).toNatClampNeg (some q34)) (14 : Int32).toNatClampNeg (some q36)) (15 : Int32).toNatClampNeg (some q38)))))))]) (w1 := [(q40, .inr (4, [.ref q41]))]) hP hD [3] [0, 1] rfl rfl (by decide) (by decide) hk1 hFc hP1 hD1
  have hK := (hK.sub (tys' := [(k0, (.object "Seekwell$Big"))]) [0] rfl).app hK1
  generalize H1 = H at hP hS ⊢
  have hP : va_P (dC, dI) vwCl [(q0, .inr (6, [.ref q1, .ref q2, .ref q3, .ref q4, .int 0, .ref q5, .ref q6, .ref q7, .int 0, .int 0])), (q1, .inl (k0, 24, .inr (.inr (.inr (.inr (va_up (va_up (va_up (va_up (va_up (va_up (va_up (va_up (va_up (va_up (va_up (va_up (va_up (va_up (va_up (va_up (fun _ => none) (0 : Int32).toNatClampNeg (some q8)) (1 : Int32).toNatClampNeg (some q10)) (2 : Int32).toNatClampNeg (some q12)) (3 : Int32).toNatClampNeg (some q14)) (4 : Int32).toNatClampNeg (some q16)) (5 : Int32).toNatClampNeg (some q18)) (6 : Int32).toNatClampNeg (some q20)) (7 : Int32).toNatClampNeg (some q22)) (8 : Int32).toNatClampNeg (some q24)) (9 : Int32).toNatClampNeg (some q26)) (10 : Int32).toNatClampNeg (some q28)) (11 : Int32).toNatClampNeg (some q30)) (12 : Int32).toNatClampNeg (some q32)) (13 : Int32).toNatClampNeg (some q34)) (14 : Int32).toNatClampNeg (some q36)) (15 : Int32).toNatClampNeg (some q38))))))), (q40, .inr (4, [.ref q41]))] H := hP
  have hD : va_D A [(q0, .inr (6, [.ref q1, .ref q2, .ref q3, .ref q4, .int 0, .ref q5, .ref q6, .ref q7, .int 0, .int 0])), (q1, .inl (k0, 24, .inr (.inr (.inr (.inr (va_up (va_up (va_up (va_up (va_up (va_up (va_up (va_up (va_up (va_up (va_up (va_up (va_up (va_up (va_up (va_up (fun _ => none) (0 : Int32).toNatClampNeg (some q8)) (1 : Int32).toNatClampNeg (some q10)) (2 : Int32).toNatClampNeg (some q12)) (3 : Int32).toNatClampNeg (some q14)) (4 : Int32).toNatClampNeg (some q16)) (5 : Int32).toNatClampNeg (some q18)) (6 : Int32).toNatClampNeg (some q20)) (7 : Int32).toNatClampNeg (some q22)) (8 : Int32).toNatClampNeg (some q24)) (9 : Int32).toNatClampNeg (some q26)) (10 : Int32).toNatClampNeg (some q28)) (11 : Int32).toNatClampNeg (some q30)) (12 : Int32).toNatClampNeg (some q32)) (13 : Int32).toNatClampNeg (some q34)) (14 : Int32).toNatClampNeg (some q36)) (15 : Int32).toNatClampNeg (some q38))))))), (q40, .inr (4, [.ref q41]))] := hD
  have hK : va_K (dC, dI) vwCl [(k0, (.object "Seekwell$Big"))] s := hK
  refine W.widen (k := 44) (n := 422) (Nat.le_of_ble_eq_true rfl) (Nat.le_of_ble_eq_true rfl) ?_
  refine va_astq (D := (dC, dI)) hx hb hK hP hD hS 1 0 2 4 rfl rfl rfl rfl (i := 16) (zin (by decide +kernel)) dX3_init_108 (fun H locs hP hD hS => ?_)
  have hP : va_P (dC, dI) vwCl [(q0, .inr (6, [.ref q1, .ref q2, .ref q3, .ref q4, .int 0, .ref q5, .ref q6, .ref q7, .int 0, .int 0])), (q1, .inl (k0, 24, .inr (.inr (.inr (.inr (va_up (va_up (va_up (va_up (va_up (va_up (va_up (va_up (va_up (va_up (va_up (va_up (va_up (va_up (va_up (va_up (va_up (fun _ => none) (0 : Int32).toNatClampNeg (some q8)) (1 : Int32).toNatClampNeg (some q10)) (2 : Int32).toNatClampNeg (some q12)) (3 : Int32).toNatClampNeg (some q14)) (4 : Int32).toNatClampNeg (some q16)) (5 : Int32).toNatClampNeg (some q18)) (6 : Int32).toNatClampNeg (some q20)) (7 : Int32).toNatClampNeg (some q22)) (8 : Int32).toNatClampNeg (some q24)) (9 : Int32).toNatClampNeg (some q26)) (10 : Int32).toNatClampNeg (some q28)) (11 : Int32).toNatClampNeg (some q30)) (12 : Int32).toNatClampNeg (some q32)) (13 : Int32).toNatClampNeg (some q34)) (14 : Int32).toNatClampNeg (some q36)) (15 : Int32).toNatClampNeg (some q38)) (16 : Int32).toNatClampNeg (some q40))))))), (q40, .inr (4, [.ref q41]))] H := hP
  have hD : va_D A [(q0, .inr (6, [.ref q1, .ref q2, .ref q3, .ref q4, .int 0, .ref q5, .ref q6, .ref q7, .int 0, .int 0])), (q1, .inl (k0, 24, .inr (.inr (.inr (.inr (va_up (va_up (va_up (va_up (va_up (va_up (va_up (va_up (va_up (va_up (va_up (va_up (va_up (va_up (va_up (va_up (va_up (fun _ => none) (0 : Int32).toNatClampNeg (some q8)) (1 : Int32).toNatClampNeg (some q10)) (2 : Int32).toNatClampNeg (some q12)) (3 : Int32).toNatClampNeg (some q14)) (4 : Int32).toNatClampNeg (some q16)) (5 : Int32).toNatClampNeg (some q18)) (6 : Int32).toNatClampNeg (some q20)) (7 : Int32).toNatClampNeg (some q22)) (8 : Int32).toNatClampNeg (some q24)) (9 : Int32).toNatClampNeg (some q26)) (10 : Int32).toNatClampNeg (some q28)) (11 : Int32).toNatClampNeg (some q30)) (12 : Int32).toNatClampNeg (some q32)) (13 : Int32).toNatClampNeg (some q34)) (14 : Int32).toNatClampNeg (some q36)) (15 : Int32).toNatClampNeg (some q38)) (16 : Int32).toNatClampNeg (some q40))))))), (q40, .inr (4, [.ref q41]))] := hD
  refine lv_iinc (v := 17) (lv' := [(1, .int 17), (0, .ref q0)]) hx hb dX3_init_109 hl (k := 0) rfl (by decide +kernel) (by decide) rfl (fun ls hl => ?_)
  refine lv_goto (tgt := 87) hx hb dX3_init_112 (by decide) ?_
  refine lv_iload_n hx hb dX3_init_87 rfl (lv_at hl 0 rfl) ?_
  refine lv_aload_n hx hb dX3_init_88 rfl (lv_at hl 1 rfl) ?_
  refine va_get (D := (dC, dI)) (ci := 6) (v := .ref q1) (C := RX3) (T := TX3) (N := 10) hx hb hts (fun _ h => List.mem_cons_of_mem _ (List.mem_append_left _ (List.mem_append_right _ h))) hown hK hP 0 rfl rfl 0 (by decide) (hts (.fieldLink RX3 11 "Seekwell$Finder" "worths" "[LSeekwell$Big;") (by decide +kernel)) (fun _ h9 => h9) rfl dX3_init_89 ?_
  refine va_alen (D := (dC, dI)) (v := 24) hx hb hK hP 1 0 rfl rfl (show Int32.ofNat 24 = 24 by decide +kernel) dX3_init_92 ?_
  refine lv_icmp_ge (tgt := 115) hx hb dX3_init_93 (by decide) (fun h9 => absurd h9 (show ¬ (24 : Int32) ≤ (17 : Int32) by decide +kernel)) (fun _ => ?_)
  refine lv_aload_n hx hb dX3_init_96 rfl (lv_at hl 1 rfl) ?_
  refine va_get (D := (dC, dI)) (ci := 6) (v := .ref q1) (C := RX3) (T := TX3) (N := 10) hx hb hts (fun _ h => List.mem_cons_of_mem _ (List.mem_append_left _ (List.mem_append_right _ h))) hown hK hP 0 rfl rfl 0 (by decide) (hts (.fieldLink RX3 11 "Seekwell$Finder" "worths" "[LSeekwell$Big;") (by decide +kernel)) (fun _ h9 => h9) rfl dX3_init_97 ?_
  refine lv_iload_n hx hb dX3_init_100 rfl (lv_at hl 0 rfl) ?_
  refine va_new (D := (dC, dI)) (ci := 4) (fs := [.null]) (C := RX1) (T := TX1) (N := 1) hx hb hts (fun _ h => List.mem_cons_of_mem _ (List.mem_append_right _ h)) tyX1 tyX1_ok hown (hts (.classLink RX3 9 RX1) (by decide +kernel)) (hts (.instantiable RX1 1) (by decide +kernel)) (hts (.initialized RX1) (by decide +kernel)) hK hP hD hS hA rfl (zfs (by decide)) (Nat.le_of_ble_eq_true rfl) (Nat.le_of_ble_eq_true rfl) dX3_init_101 (fun q42 H hP hD hS => ?_)
  have hP : va_P (dC, dI) vwCl [(q0, .inr (6, [.ref q1, .ref q2, .ref q3, .ref q4, .int 0, .ref q5, .ref q6, .ref q7, .int 0, .int 0])), (q1, .inl (k0, 24, .inr (.inr (.inr (.inr (va_up (va_up (va_up (va_up (va_up (va_up (va_up (va_up (va_up (va_up (va_up (va_up (va_up (va_up (va_up (va_up (va_up (fun _ => none) (0 : Int32).toNatClampNeg (some q8)) (1 : Int32).toNatClampNeg (some q10)) (2 : Int32).toNatClampNeg (some q12)) (3 : Int32).toNatClampNeg (some q14)) (4 : Int32).toNatClampNeg (some q16)) (5 : Int32).toNatClampNeg (some q18)) (6 : Int32).toNatClampNeg (some q20)) (7 : Int32).toNatClampNeg (some q22)) (8 : Int32).toNatClampNeg (some q24)) (9 : Int32).toNatClampNeg (some q26)) (10 : Int32).toNatClampNeg (some q28)) (11 : Int32).toNatClampNeg (some q30)) (12 : Int32).toNatClampNeg (some q32)) (13 : Int32).toNatClampNeg (some q34)) (14 : Int32).toNatClampNeg (some q36)) (15 : Int32).toNatClampNeg (some q38)) (16 : Int32).toNatClampNeg (some q40))))))), (q40, .inr (4, [.ref q41])), (q42, .inr (4, [.null]))] H := hP
  have hD : va_D A [(q0, .inr (6, [.ref q1, .ref q2, .ref q3, .ref q4, .int 0, .ref q5, .ref q6, .ref q7, .int 0, .int 0])), (q1, .inl (k0, 24, .inr (.inr (.inr (.inr (va_up (va_up (va_up (va_up (va_up (va_up (va_up (va_up (va_up (va_up (va_up (va_up (va_up (va_up (va_up (va_up (va_up (fun _ => none) (0 : Int32).toNatClampNeg (some q8)) (1 : Int32).toNatClampNeg (some q10)) (2 : Int32).toNatClampNeg (some q12)) (3 : Int32).toNatClampNeg (some q14)) (4 : Int32).toNatClampNeg (some q16)) (5 : Int32).toNatClampNeg (some q18)) (6 : Int32).toNatClampNeg (some q20)) (7 : Int32).toNatClampNeg (some q22)) (8 : Int32).toNatClampNeg (some q24)) (9 : Int32).toNatClampNeg (some q26)) (10 : Int32).toNatClampNeg (some q28)) (11 : Int32).toNatClampNeg (some q30)) (12 : Int32).toNatClampNeg (some q32)) (13 : Int32).toNatClampNeg (some q34)) (14 : Int32).toNatClampNeg (some q36)) (15 : Int32).toNatClampNeg (some q38)) (16 : Int32).toNatClampNeg (some q40))))))), (q40, .inr (4, [.ref q41])), (q42, .inr (4, [.null]))] := hD
  refine W.widen (k := 45) (n := 423) (Nat.le_of_ble_eq_true rfl) (Nat.le_of_ble_eq_true rfl) ?_
  refine lv_dup hx hb dX3_init_104 rfl ?_
  have hPc := hP.sub (ws' := [(q42, .inr (4, [.null]))]) [3] rfl
  have hDc := hD.sub (ws' := [(q42, .inr (4, [.null]))]) [3] (by decide) rfl
  have hKc := hK.sub (tys' := []) [] rfl
  have hFc := va_free (wc := [(q42, .inr (4, [.null]))]) hD hS hA [3] rfl
  refine va_callv (va_runIN (As := []) (rest := [.ref q42, .int 17, .ref q1]) ⟨hx, hb, hml, hown, hts⟩ (c_X1_init_2 l dC dI q42 H.size  ) ⟨va_cnB (host := "Seekwell") 0 hts gX3_init_X1_init_n31 rfl rfl rfl (hN.1 (RX3, 31, yX1_init, "Seekwell") (by decide +kernel)) (hts (.initialized RX1) (by decide +kernel)) (by decide +kernel) ⟨Nat.le_of_ble_eq_true rfl, Nat.le_of_ble_eq_true rfl⟩, rfl, hts (.instanceMethod yX1_init) (by decide +kernel)⟩ ⟨zB_blind, (zPre hPc hDc hKc hS hFc hZ hN)⟩ rfl rfl hl.1 rfl (lv_room (Nat.le_of_ble_eq_true rfl)) dX3_init_105 ⟨Nat.le_of_ble_eq_true rfl, Nat.le_of_ble_eq_true rfl⟩) hS (fun q _ h => hFc q h) hFc (fun u t H1 locs ht hvm hw hB hz1 hk1 hS => ?_)
  obtain ⟨q43, hP1, hK1, hD1⟩ := hB
  rw [ht] at hP1
  have hK1 := va_K.moved hvm.symm hK1
  obtain ⟨hP, hD⟩ := va_join (wr := [(q0, .inr (6, [.ref q1, .ref q2, .ref q3, .ref q4, .int 0, .ref q5, .ref q6, .ref q7, .int 0, .int 0])), (q1, .inl (k0, 24, .inr (.inr (.inr (.inr (va_up (va_up (va_up (va_up (va_up (va_up (va_up (va_up (va_up (va_up (va_up (va_up (va_up (va_up (va_up (va_up (va_up (fun _ => none) (0 : Int32).toNatClampNeg (some q8)) (1 : Int32).toNatClampNeg (some q10)) (2 : Int32).toNatClampNeg (some q12)) (3 : Int32).toNatClampNeg (some q14)) (4 : Int32).toNatClampNeg (some q16)) (5 : Int32).toNatClampNeg (some q18)) (6 : Int32).toNatClampNeg (some q20)) (7 : Int32).toNatClampNeg (some q22)) (8 : Int32).toNatClampNeg (some q24)) (9 : Int32).toNatClampNeg (some q26)) (10 : Int32).toNatClampNeg (some q28)) (11 : Int32).toNatClampNeg (some q30)) (12 : Int32).toNatClampNeg (some q32)) (13 : Int32).toNatClampNeg (some q34)) (14 : Int32).toNatClampNeg (some q36)) (15 : Int32).toNatClampNeg (some q38)) (16 : Int32).toNatClampNeg (some q40)))))))]) (w1 := [(q42, .inr (4, [.ref q43]))]) hP hD [3] [0, 1] rfl rfl (by decide) (by decide) hk1 hFc hP1 hD1
  have hK := (hK.sub (tys' := [(k0, (.object "Seekwell$Big"))]) [0] rfl).app hK1
  generalize H1 = H at hP hS ⊢
  have hP : va_P (dC, dI) vwCl [(q0, .inr (6, [.ref q1, .ref q2, .ref q3, .ref q4, .int 0, .ref q5, .ref q6, .ref q7, .int 0, .int 0])), (q1, .inl (k0, 24, .inr (.inr (.inr (.inr (va_up (va_up (va_up (va_up (va_up (va_up (va_up (va_up (va_up (va_up (va_up (va_up (va_up (va_up (va_up (va_up (va_up (fun _ => none) (0 : Int32).toNatClampNeg (some q8)) (1 : Int32).toNatClampNeg (some q10)) (2 : Int32).toNatClampNeg (some q12)) (3 : Int32).toNatClampNeg (some q14)) (4 : Int32).toNatClampNeg (some q16)) (5 : Int32).toNatClampNeg (some q18)) (6 : Int32).toNatClampNeg (some q20)) (7 : Int32).toNatClampNeg (some q22)) (8 : Int32).toNatClampNeg (some q24)) (9 : Int32).toNatClampNeg (some q26)) (10 : Int32).toNatClampNeg (some q28)) (11 : Int32).toNatClampNeg (some q30)) (12 : Int32).toNatClampNeg (some q32)) (13 : Int32).toNatClampNeg (some q34)) (14 : Int32).toNatClampNeg (some q36)) (15 : Int32).toNatClampNeg (some q38)) (16 : Int32).toNatClampNeg (some q40))))))), (q42, .inr (4, [.ref q43]))] H := hP
  have hD : va_D A [(q0, .inr (6, [.ref q1, .ref q2, .ref q3, .ref q4, .int 0, .ref q5, .ref q6, .ref q7, .int 0, .int 0])), (q1, .inl (k0, 24, .inr (.inr (.inr (.inr (va_up (va_up (va_up (va_up (va_up (va_up (va_up (va_up (va_up (va_up (va_up (va_up (va_up (va_up (va_up (va_up (va_up (fun _ => none) (0 : Int32).toNatClampNeg (some q8)) (1 : Int32).toNatClampNeg (some q10)) (2 : Int32).toNatClampNeg (some q12)) (3 : Int32).toNatClampNeg (some q14)) (4 : Int32).toNatClampNeg (some q16)) (5 : Int32).toNatClampNeg (some q18)) (6 : Int32).toNatClampNeg (some q20)) (7 : Int32).toNatClampNeg (some q22)) (8 : Int32).toNatClampNeg (some q24)) (9 : Int32).toNatClampNeg (some q26)) (10 : Int32).toNatClampNeg (some q28)) (11 : Int32).toNatClampNeg (some q30)) (12 : Int32).toNatClampNeg (some q32)) (13 : Int32).toNatClampNeg (some q34)) (14 : Int32).toNatClampNeg (some q36)) (15 : Int32).toNatClampNeg (some q38)) (16 : Int32).toNatClampNeg (some q40))))))), (q42, .inr (4, [.ref q43]))] := hD
  have hK : va_K (dC, dI) vwCl [(k0, (.object "Seekwell$Big"))] s := hK
  refine W.widen (k := 46) (n := 439) (Nat.le_of_ble_eq_true rfl) (Nat.le_of_ble_eq_true rfl) ?_
  refine va_astq (D := (dC, dI)) hx hb hK hP hD hS 1 0 2 4 rfl rfl rfl rfl (i := 17) (zin (by decide +kernel)) dX3_init_108 (fun H locs hP hD hS => ?_)
  have hP : va_P (dC, dI) vwCl [(q0, .inr (6, [.ref q1, .ref q2, .ref q3, .ref q4, .int 0, .ref q5, .ref q6, .ref q7, .int 0, .int 0])), (q1, .inl (k0, 24, .inr (.inr (.inr (.inr (va_up (va_up (va_up (va_up (va_up (va_up (va_up (va_up (va_up (va_up (va_up (va_up (va_up (va_up (va_up (va_up (va_up (va_up (fun _ => none) (0 : Int32).toNatClampNeg (some q8)) (1 : Int32).toNatClampNeg (some q10)) (2 : Int32).toNatClampNeg (some q12)) (3 : Int32).toNatClampNeg (some q14)) (4 : Int32).toNatClampNeg (some q16)) (5 : Int32).toNatClampNeg (some q18)) (6 : Int32).toNatClampNeg (some q20)) (7 : Int32).toNatClampNeg (some q22)) (8 : Int32).toNatClampNeg (some q24)) (9 : Int32).toNatClampNeg (some q26)) (10 : Int32).toNatClampNeg (some q28)) (11 : Int32).toNatClampNeg (some q30)) (12 : Int32).toNatClampNeg (some q32)) (13 : Int32).toNatClampNeg (some q34)) (14 : Int32).toNatClampNeg (some q36)) (15 : Int32).toNatClampNeg (some q38)) (16 : Int32).toNatClampNeg (some q40)) (17 : Int32).toNatClampNeg (some q42))))))), (q42, .inr (4, [.ref q43]))] H := hP
  have hD : va_D A [(q0, .inr (6, [.ref q1, .ref q2, .ref q3, .ref q4, .int 0, .ref q5, .ref q6, .ref q7, .int 0, .int 0])), (q1, .inl (k0, 24, .inr (.inr (.inr (.inr (va_up (va_up (va_up (va_up (va_up (va_up (va_up (va_up (va_up (va_up (va_up (va_up (va_up (va_up (va_up (va_up (va_up (va_up (fun _ => none) (0 : Int32).toNatClampNeg (some q8)) (1 : Int32).toNatClampNeg (some q10)) (2 : Int32).toNatClampNeg (some q12)) (3 : Int32).toNatClampNeg (some q14)) (4 : Int32).toNatClampNeg (some q16)) (5 : Int32).toNatClampNeg (some q18)) (6 : Int32).toNatClampNeg (some q20)) (7 : Int32).toNatClampNeg (some q22)) (8 : Int32).toNatClampNeg (some q24)) (9 : Int32).toNatClampNeg (some q26)) (10 : Int32).toNatClampNeg (some q28)) (11 : Int32).toNatClampNeg (some q30)) (12 : Int32).toNatClampNeg (some q32)) (13 : Int32).toNatClampNeg (some q34)) (14 : Int32).toNatClampNeg (some q36)) (15 : Int32).toNatClampNeg (some q38)) (16 : Int32).toNatClampNeg (some q40)) (17 : Int32).toNatClampNeg (some q42))))))), (q42, .inr (4, [.ref q43]))] := hD
  refine lv_iinc (v := 18) (lv' := [(1, .int 18), (0, .ref q0)]) hx hb dX3_init_109 hl (k := 0) rfl (by decide +kernel) (by decide) rfl (fun ls hl => ?_)
  refine lv_goto (tgt := 87) hx hb dX3_init_112 (by decide) ?_
  refine lv_iload_n hx hb dX3_init_87 rfl (lv_at hl 0 rfl) ?_
  refine lv_aload_n hx hb dX3_init_88 rfl (lv_at hl 1 rfl) ?_
  refine va_get (D := (dC, dI)) (ci := 6) (v := .ref q1) (C := RX3) (T := TX3) (N := 10) hx hb hts (fun _ h => List.mem_cons_of_mem _ (List.mem_append_left _ (List.mem_append_right _ h))) hown hK hP 0 rfl rfl 0 (by decide) (hts (.fieldLink RX3 11 "Seekwell$Finder" "worths" "[LSeekwell$Big;") (by decide +kernel)) (fun _ h9 => h9) rfl dX3_init_89 ?_
  refine va_alen (D := (dC, dI)) (v := 24) hx hb hK hP 1 0 rfl rfl (show Int32.ofNat 24 = 24 by decide +kernel) dX3_init_92 ?_
  refine lv_icmp_ge (tgt := 115) hx hb dX3_init_93 (by decide) (fun h9 => absurd h9 (show ¬ (24 : Int32) ≤ (18 : Int32) by decide +kernel)) (fun _ => ?_)
  refine lv_aload_n hx hb dX3_init_96 rfl (lv_at hl 1 rfl) ?_
  refine va_get (D := (dC, dI)) (ci := 6) (v := .ref q1) (C := RX3) (T := TX3) (N := 10) hx hb hts (fun _ h => List.mem_cons_of_mem _ (List.mem_append_left _ (List.mem_append_right _ h))) hown hK hP 0 rfl rfl 0 (by decide) (hts (.fieldLink RX3 11 "Seekwell$Finder" "worths" "[LSeekwell$Big;") (by decide +kernel)) (fun _ h9 => h9) rfl dX3_init_97 ?_
  refine lv_iload_n hx hb dX3_init_100 rfl (lv_at hl 0 rfl) ?_
  refine va_new (D := (dC, dI)) (ci := 4) (fs := [.null]) (C := RX1) (T := TX1) (N := 1) hx hb hts (fun _ h => List.mem_cons_of_mem _ (List.mem_append_right _ h)) tyX1 tyX1_ok hown (hts (.classLink RX3 9 RX1) (by decide +kernel)) (hts (.instantiable RX1 1) (by decide +kernel)) (hts (.initialized RX1) (by decide +kernel)) hK hP hD hS hA rfl (zfs (by decide)) (Nat.le_of_ble_eq_true rfl) (Nat.le_of_ble_eq_true rfl) dX3_init_101 (fun q44 H hP hD hS => ?_)
  have hP : va_P (dC, dI) vwCl [(q0, .inr (6, [.ref q1, .ref q2, .ref q3, .ref q4, .int 0, .ref q5, .ref q6, .ref q7, .int 0, .int 0])), (q1, .inl (k0, 24, .inr (.inr (.inr (.inr (va_up (va_up (va_up (va_up (va_up (va_up (va_up (va_up (va_up (va_up (va_up (va_up (va_up (va_up (va_up (va_up (va_up (va_up (fun _ => none) (0 : Int32).toNatClampNeg (some q8)) (1 : Int32).toNatClampNeg (some q10)) (2 : Int32).toNatClampNeg (some q12)) (3 : Int32).toNatClampNeg (some q14)) (4 : Int32).toNatClampNeg (some q16)) (5 : Int32).toNatClampNeg (some q18)) (6 : Int32).toNatClampNeg (some q20)) (7 : Int32).toNatClampNeg (some q22)) (8 : Int32).toNatClampNeg (some q24)) (9 : Int32).toNatClampNeg (some q26)) (10 : Int32).toNatClampNeg (some q28)) (11 : Int32).toNatClampNeg (some q30)) (12 : Int32).toNatClampNeg (some q32)) (13 : Int32).toNatClampNeg (some q34)) (14 : Int32).toNatClampNeg (some q36)) (15 : Int32).toNatClampNeg (some q38)) (16 : Int32).toNatClampNeg (some q40)) (17 : Int32).toNatClampNeg (some q42))))))), (q42, .inr (4, [.ref q43])), (q44, .inr (4, [.null]))] H := hP
  have hD : va_D A [(q0, .inr (6, [.ref q1, .ref q2, .ref q3, .ref q4, .int 0, .ref q5, .ref q6, .ref q7, .int 0, .int 0])), (q1, .inl (k0, 24, .inr (.inr (.inr (.inr (va_up (va_up (va_up (va_up (va_up (va_up (va_up (va_up (va_up (va_up (va_up (va_up (va_up (va_up (va_up (va_up (va_up (va_up (fun _ => none) (0 : Int32).toNatClampNeg (some q8)) (1 : Int32).toNatClampNeg (some q10)) (2 : Int32).toNatClampNeg (some q12)) (3 : Int32).toNatClampNeg (some q14)) (4 : Int32).toNatClampNeg (some q16)) (5 : Int32).toNatClampNeg (some q18)) (6 : Int32).toNatClampNeg (some q20)) (7 : Int32).toNatClampNeg (some q22)) (8 : Int32).toNatClampNeg (some q24)) (9 : Int32).toNatClampNeg (some q26)) (10 : Int32).toNatClampNeg (some q28)) (11 : Int32).toNatClampNeg (some q30)) (12 : Int32).toNatClampNeg (some q32)) (13 : Int32).toNatClampNeg (some q34)) (14 : Int32).toNatClampNeg (some q36)) (15 : Int32).toNatClampNeg (some q38)) (16 : Int32).toNatClampNeg (some q40)) (17 : Int32).toNatClampNeg (some q42))))))), (q42, .inr (4, [.ref q43])), (q44, .inr (4, [.null]))] := hD
  refine W.widen (k := 47) (n := 440) (Nat.le_of_ble_eq_true rfl) (Nat.le_of_ble_eq_true rfl) ?_
  refine lv_dup hx hb dX3_init_104 rfl ?_
  have hPc := hP.sub (ws' := [(q44, .inr (4, [.null]))]) [3] rfl
  have hDc := hD.sub (ws' := [(q44, .inr (4, [.null]))]) [3] (by decide) rfl
  have hKc := hK.sub (tys' := []) [] rfl
  have hFc := va_free (wc := [(q44, .inr (4, [.null]))]) hD hS hA [3] rfl
  refine va_callv (va_runIN (As := []) (rest := [.ref q44, .int 18, .ref q1]) ⟨hx, hb, hml, hown, hts⟩ (c_X1_init_2 l dC dI q44 H.size  ) ⟨va_cnB (host := "Seekwell") 0 hts gX3_init_X1_init_n31 rfl rfl rfl (hN.1 (RX3, 31, yX1_init, "Seekwell") (by decide +kernel)) (hts (.initialized RX1) (by decide +kernel)) (by decide +kernel) ⟨Nat.le_of_ble_eq_true rfl, Nat.le_of_ble_eq_true rfl⟩, rfl, hts (.instanceMethod yX1_init) (by decide +kernel)⟩ ⟨zB_blind, (zPre hPc hDc hKc hS hFc hZ hN)⟩ rfl rfl hl.1 rfl (lv_room (Nat.le_of_ble_eq_true rfl)) dX3_init_105 ⟨Nat.le_of_ble_eq_true rfl, Nat.le_of_ble_eq_true rfl⟩) hS (fun q _ h => hFc q h) hFc (fun u t H1 locs ht hvm hw hB hz1 hk1 hS => ?_)
  obtain ⟨q45, hP1, hK1, hD1⟩ := hB
  rw [ht] at hP1
  have hK1 := va_K.moved hvm.symm hK1
  obtain ⟨hP, hD⟩ := va_join (wr := [(q0, .inr (6, [.ref q1, .ref q2, .ref q3, .ref q4, .int 0, .ref q5, .ref q6, .ref q7, .int 0, .int 0])), (q1, .inl (k0, 24, .inr (.inr (.inr (.inr (va_up (va_up (va_up (va_up (va_up (va_up (va_up (va_up (va_up (va_up (va_up (va_up (va_up (va_up (va_up (va_up (va_up (va_up (fun _ => none) (0 : Int32).toNatClampNeg (some q8)) (1 : Int32).toNatClampNeg (some q10)) (2 : Int32).toNatClampNeg (some q12)) (3 : Int32).toNatClampNeg (some q14)) (4 : Int32).toNatClampNeg (some q16)) (5 : Int32).toNatClampNeg (some q18)) (6 : Int32).toNatClampNeg (some q20)) (7 : Int32).toNatClampNeg (some q22)) (8 : Int32).toNatClampNeg (some q24)) (9 : Int32).toNatClampNeg (some q26)) (10 : Int32).toNatClampNeg (some q28)) (11 : Int32).toNatClampNeg (some q30)) (12 : Int32).toNatClampNeg (some q32)) (13 : Int32).toNatClampNeg (some q34)) (14 : Int32).toNatClampNeg (some q36)) (15 : Int32).toNatClampNeg (some q38)) (16 : Int32).toNatClampNeg (some q40)) (17 : Int32).toNatClampNeg (some q42)))))))]) (w1 := [(q44, .inr (4, [.ref q45]))]) hP hD [3] [0, 1] rfl rfl (by decide) (by decide) hk1 hFc hP1 hD1
  have hK := (hK.sub (tys' := [(k0, (.object "Seekwell$Big"))]) [0] rfl).app hK1
  generalize H1 = H at hP hS ⊢
  have hP : va_P (dC, dI) vwCl [(q0, .inr (6, [.ref q1, .ref q2, .ref q3, .ref q4, .int 0, .ref q5, .ref q6, .ref q7, .int 0, .int 0])), (q1, .inl (k0, 24, .inr (.inr (.inr (.inr (va_up (va_up (va_up (va_up (va_up (va_up (va_up (va_up (va_up (va_up (va_up (va_up (va_up (va_up (va_up (va_up (va_up (va_up (fun _ => none) (0 : Int32).toNatClampNeg (some q8)) (1 : Int32).toNatClampNeg (some q10)) (2 : Int32).toNatClampNeg (some q12)) (3 : Int32).toNatClampNeg (some q14)) (4 : Int32).toNatClampNeg (some q16)) (5 : Int32).toNatClampNeg (some q18)) (6 : Int32).toNatClampNeg (some q20)) (7 : Int32).toNatClampNeg (some q22)) (8 : Int32).toNatClampNeg (some q24)) (9 : Int32).toNatClampNeg (some q26)) (10 : Int32).toNatClampNeg (some q28)) (11 : Int32).toNatClampNeg (some q30)) (12 : Int32).toNatClampNeg (some q32)) (13 : Int32).toNatClampNeg (some q34)) (14 : Int32).toNatClampNeg (some q36)) (15 : Int32).toNatClampNeg (some q38)) (16 : Int32).toNatClampNeg (some q40)) (17 : Int32).toNatClampNeg (some q42))))))), (q44, .inr (4, [.ref q45]))] H := hP
  have hD : va_D A [(q0, .inr (6, [.ref q1, .ref q2, .ref q3, .ref q4, .int 0, .ref q5, .ref q6, .ref q7, .int 0, .int 0])), (q1, .inl (k0, 24, .inr (.inr (.inr (.inr (va_up (va_up (va_up (va_up (va_up (va_up (va_up (va_up (va_up (va_up (va_up (va_up (va_up (va_up (va_up (va_up (va_up (va_up (fun _ => none) (0 : Int32).toNatClampNeg (some q8)) (1 : Int32).toNatClampNeg (some q10)) (2 : Int32).toNatClampNeg (some q12)) (3 : Int32).toNatClampNeg (some q14)) (4 : Int32).toNatClampNeg (some q16)) (5 : Int32).toNatClampNeg (some q18)) (6 : Int32).toNatClampNeg (some q20)) (7 : Int32).toNatClampNeg (some q22)) (8 : Int32).toNatClampNeg (some q24)) (9 : Int32).toNatClampNeg (some q26)) (10 : Int32).toNatClampNeg (some q28)) (11 : Int32).toNatClampNeg (some q30)) (12 : Int32).toNatClampNeg (some q32)) (13 : Int32).toNatClampNeg (some q34)) (14 : Int32).toNatClampNeg (some q36)) (15 : Int32).toNatClampNeg (some q38)) (16 : Int32).toNatClampNeg (some q40)) (17 : Int32).toNatClampNeg (some q42))))))), (q44, .inr (4, [.ref q45]))] := hD
  have hK : va_K (dC, dI) vwCl [(k0, (.object "Seekwell$Big"))] s := hK
  refine W.widen (k := 48) (n := 456) (Nat.le_of_ble_eq_true rfl) (Nat.le_of_ble_eq_true rfl) ?_
  refine va_astq (D := (dC, dI)) hx hb hK hP hD hS 1 0 2 4 rfl rfl rfl rfl (i := 18) (zin (by decide +kernel)) dX3_init_108 (fun H locs hP hD hS => ?_)
  have hP : va_P (dC, dI) vwCl [(q0, .inr (6, [.ref q1, .ref q2, .ref q3, .ref q4, .int 0, .ref q5, .ref q6, .ref q7, .int 0, .int 0])), (q1, .inl (k0, 24, .inr (.inr (.inr (.inr (va_up (va_up (va_up (va_up (va_up (va_up (va_up (va_up (va_up (va_up (va_up (va_up (va_up (va_up (va_up (va_up (va_up (va_up (va_up (fun _ => none) (0 : Int32).toNatClampNeg (some q8)) (1 : Int32).toNatClampNeg (some q10)) (2 : Int32).toNatClampNeg (some q12)) (3 : Int32).toNatClampNeg (some q14)) (4 : Int32).toNatClampNeg (some q16)) (5 : Int32).toNatClampNeg (some q18)) (6 : Int32).toNatClampNeg (some q20)) (7 : Int32).toNatClampNeg (some q22)) (8 : Int32).toNatClampNeg (some q24)) (9 : Int32).toNatClampNeg (some q26)) (10 : Int32).toNatClampNeg (some q28)) (11 : Int32).toNatClampNeg (some q30)) (12 : Int32).toNatClampNeg (some q32)) (13 : Int32).toNatClampNeg (some q34)) (14 : Int32).toNatClampNeg (some q36)) (15 : Int32).toNatClampNeg (some q38)) (16 : Int32).toNatClampNeg (some q40)) (17 : Int32).toNatClampNeg (some q42)) (18 : Int32).toNatClampNeg (some q44))))))), (q44, .inr (4, [.ref q45]))] H := hP
  have hD : va_D A [(q0, .inr (6, [.ref q1, .ref q2, .ref q3, .ref q4, .int 0, .ref q5, .ref q6, .ref q7, .int 0, .int 0])), (q1, .inl (k0, 24, .inr (.inr (.inr (.inr (va_up (va_up (va_up (va_up (va_up (va_up (va_up (va_up (va_up (va_up (va_up (va_up (va_up (va_up (va_up (va_up (va_up (va_up (va_up (fun _ => none) (0 : Int32).toNatClampNeg (some q8)) (1 : Int32).toNatClampNeg (some q10)) (2 : Int32).toNatClampNeg (some q12)) (3 : Int32).toNatClampNeg (some q14)) (4 : Int32).toNatClampNeg (some q16)) (5 : Int32).toNatClampNeg (some q18)) (6 : Int32).toNatClampNeg (some q20)) (7 : Int32).toNatClampNeg (some q22)) (8 : Int32).toNatClampNeg (some q24)) (9 : Int32).toNatClampNeg (some q26)) (10 : Int32).toNatClampNeg (some q28)) (11 : Int32).toNatClampNeg (some q30)) (12 : Int32).toNatClampNeg (some q32)) (13 : Int32).toNatClampNeg (some q34)) (14 : Int32).toNatClampNeg (some q36)) (15 : Int32).toNatClampNeg (some q38)) (16 : Int32).toNatClampNeg (some q40)) (17 : Int32).toNatClampNeg (some q42)) (18 : Int32).toNatClampNeg (some q44))))))), (q44, .inr (4, [.ref q45]))] := hD
  refine lv_iinc (v := 19) (lv' := [(1, .int 19), (0, .ref q0)]) hx hb dX3_init_109 hl (k := 0) rfl (by decide +kernel) (by decide) rfl (fun ls hl => ?_)
  refine lv_goto (tgt := 87) hx hb dX3_init_112 (by decide) ?_
  refine lv_iload_n hx hb dX3_init_87 rfl (lv_at hl 0 rfl) ?_
  refine lv_aload_n hx hb dX3_init_88 rfl (lv_at hl 1 rfl) ?_
  refine va_get (D := (dC, dI)) (ci := 6) (v := .ref q1) (C := RX3) (T := TX3) (N := 10) hx hb hts (fun _ h => List.mem_cons_of_mem _ (List.mem_append_left _ (List.mem_append_right _ h))) hown hK hP 0 rfl rfl 0 (by decide) (hts (.fieldLink RX3 11 "Seekwell$Finder" "worths" "[LSeekwell$Big;") (by decide +kernel)) (fun _ h9 => h9) rfl dX3_init_89 ?_
  refine va_alen (D := (dC, dI)) (v := 24) hx hb hK hP 1 0 rfl rfl (show Int32.ofNat 24 = 24 by decide +kernel) dX3_init_92 ?_
  refine lv_icmp_ge (tgt := 115) hx hb dX3_init_93 (by decide) (fun h9 => absurd h9 (show ¬ (24 : Int32) ≤ (19 : Int32) by decide +kernel)) (fun _ => ?_)
  refine lv_aload_n hx hb dX3_init_96 rfl (lv_at hl 1 rfl) ?_
  refine va_get (D := (dC, dI)) (ci := 6) (v := .ref q1) (C := RX3) (T := TX3) (N := 10) hx hb hts (fun _ h => List.mem_cons_of_mem _ (List.mem_append_left _ (List.mem_append_right _ h))) hown hK hP 0 rfl rfl 0 (by decide) (hts (.fieldLink RX3 11 "Seekwell$Finder" "worths" "[LSeekwell$Big;") (by decide +kernel)) (fun _ h9 => h9) rfl dX3_init_97 ?_
  refine lv_iload_n hx hb dX3_init_100 rfl (lv_at hl 0 rfl) ?_
  refine va_new (D := (dC, dI)) (ci := 4) (fs := [.null]) (C := RX1) (T := TX1) (N := 1) hx hb hts (fun _ h => List.mem_cons_of_mem _ (List.mem_append_right _ h)) tyX1 tyX1_ok hown (hts (.classLink RX3 9 RX1) (by decide +kernel)) (hts (.instantiable RX1 1) (by decide +kernel)) (hts (.initialized RX1) (by decide +kernel)) hK hP hD hS hA rfl (zfs (by decide)) (Nat.le_of_ble_eq_true rfl) (Nat.le_of_ble_eq_true rfl) dX3_init_101 (fun q46 H hP hD hS => ?_)
  have hP : va_P (dC, dI) vwCl [(q0, .inr (6, [.ref q1, .ref q2, .ref q3, .ref q4, .int 0, .ref q5, .ref q6, .ref q7, .int 0, .int 0])), (q1, .inl (k0, 24, .inr (.inr (.inr (.inr (va_up (va_up (va_up (va_up (va_up (va_up (va_up (va_up (va_up (va_up (va_up (va_up (va_up (va_up (va_up (va_up (va_up (va_up (va_up (fun _ => none) (0 : Int32).toNatClampNeg (some q8)) (1 : Int32).toNatClampNeg (some q10)) (2 : Int32).toNatClampNeg (some q12)) (3 : Int32).toNatClampNeg (some q14)) (4 : Int32).toNatClampNeg (some q16)) (5 : Int32).toNatClampNeg (some q18)) (6 : Int32).toNatClampNeg (some q20)) (7 : Int32).toNatClampNeg (some q22)) (8 : Int32).toNatClampNeg (some q24)) (9 : Int32).toNatClampNeg (some q26)) (10 : Int32).toNatClampNeg (some q28)) (11 : Int32).toNatClampNeg (some q30)) (12 : Int32).toNatClampNeg (some q32)) (13 : Int32).toNatClampNeg (some q34)) (14 : Int32).toNatClampNeg (some q36)) (15 : Int32).toNatClampNeg (some q38)) (16 : Int32).toNatClampNeg (some q40)) (17 : Int32).toNatClampNeg (some q42)) (18 : Int32).toNatClampNeg (some q44))))))), (q44, .inr (4, [.ref q45])), (q46, .inr (4, [.null]))] H := hP
  have hD : va_D A [(q0, .inr (6, [.ref q1, .ref q2, .ref q3, .ref q4, .int 0, .ref q5, .ref q6, .ref q7, .int 0, .int 0])), (q1, .inl (k0, 24, .inr (.inr (.inr (.inr (va_up (va_up (va_up (va_up (va_up (va_up (va_up (va_up (va_up (va_up (va_up (va_up (va_up (va_up (va_up (va_up (va_up (va_up (va_up (fun _ => none) (0 : Int32).toNatClampNeg (some q8)) (1 : Int32).toNatClampNeg (some q10)) (2 : Int32).toNatClampNeg (some q12)) (3 : Int32).toNatClampNeg (some q14)) (4 : Int32).toNatClampNeg (some q16)) (5 : Int32).toNatClampNeg (some q18)) (6 : Int32).toNatClampNeg (some q20)) (7 : Int32).toNatClampNeg (some q22)) (8 : Int32).toNatClampNeg (some q24)) (9 : Int32).toNatClampNeg (some q26)) (10 : Int32).toNatClampNeg (some q28)) (11 : Int32).toNatClampNeg (some q30)) (12 : Int32).toNatClampNeg (some q32)) (13 : Int32).toNatClampNeg (some q34)) (14 : Int32).toNatClampNeg (some q36)) (15 : Int32).toNatClampNeg (some q38)) (16 : Int32).toNatClampNeg (some q40)) (17 : Int32).toNatClampNeg (some q42)) (18 : Int32).toNatClampNeg (some q44))))))), (q44, .inr (4, [.ref q45])), (q46, .inr (4, [.null]))] := hD
  refine W.widen (k := 49) (n := 457) (Nat.le_of_ble_eq_true rfl) (Nat.le_of_ble_eq_true rfl) ?_
  refine lv_dup hx hb dX3_init_104 rfl ?_
  have hPc := hP.sub (ws' := [(q46, .inr (4, [.null]))]) [3] rfl
  have hDc := hD.sub (ws' := [(q46, .inr (4, [.null]))]) [3] (by decide) rfl
  have hKc := hK.sub (tys' := []) [] rfl
  have hFc := va_free (wc := [(q46, .inr (4, [.null]))]) hD hS hA [3] rfl
  refine va_callv (va_runIN (As := []) (rest := [.ref q46, .int 19, .ref q1]) ⟨hx, hb, hml, hown, hts⟩ (c_X1_init_2 l dC dI q46 H.size  ) ⟨va_cnB (host := "Seekwell") 0 hts gX3_init_X1_init_n31 rfl rfl rfl (hN.1 (RX3, 31, yX1_init, "Seekwell") (by decide +kernel)) (hts (.initialized RX1) (by decide +kernel)) (by decide +kernel) ⟨Nat.le_of_ble_eq_true rfl, Nat.le_of_ble_eq_true rfl⟩, rfl, hts (.instanceMethod yX1_init) (by decide +kernel)⟩ ⟨zB_blind, (zPre hPc hDc hKc hS hFc hZ hN)⟩ rfl rfl hl.1 rfl (lv_room (Nat.le_of_ble_eq_true rfl)) dX3_init_105 ⟨Nat.le_of_ble_eq_true rfl, Nat.le_of_ble_eq_true rfl⟩) hS (fun q _ h => hFc q h) hFc (fun u t H1 locs ht hvm hw hB hz1 hk1 hS => ?_)
  obtain ⟨q47, hP1, hK1, hD1⟩ := hB
  rw [ht] at hP1
  have hK1 := va_K.moved hvm.symm hK1
  obtain ⟨hP, hD⟩ := va_join (wr := [(q0, .inr (6, [.ref q1, .ref q2, .ref q3, .ref q4, .int 0, .ref q5, .ref q6, .ref q7, .int 0, .int 0])), (q1, .inl (k0, 24, .inr (.inr (.inr (.inr (va_up (va_up (va_up (va_up (va_up (va_up (va_up (va_up (va_up (va_up (va_up (va_up (va_up (va_up (va_up (va_up (va_up (va_up (va_up (fun _ => none) (0 : Int32).toNatClampNeg (some q8)) (1 : Int32).toNatClampNeg (some q10)) (2 : Int32).toNatClampNeg (some q12)) (3 : Int32).toNatClampNeg (some q14)) (4 : Int32).toNatClampNeg (some q16)) (5 : Int32).toNatClampNeg (some q18)) (6 : Int32).toNatClampNeg (some q20)) (7 : Int32).toNatClampNeg (some q22)) (8 : Int32).toNatClampNeg (some q24)) (9 : Int32).toNatClampNeg (some q26)) (10 : Int32).toNatClampNeg (some q28)) (11 : Int32).toNatClampNeg (some q30)) (12 : Int32).toNatClampNeg (some q32)) (13 : Int32).toNatClampNeg (some q34)) (14 : Int32).toNatClampNeg (some q36)) (15 : Int32).toNatClampNeg (some q38)) (16 : Int32).toNatClampNeg (some q40)) (17 : Int32).toNatClampNeg (some q42)) (18 : Int32).toNatClampNeg (some q44)))))))]) (w1 := [(q46, .inr (4, [.ref q47]))]) hP hD [3] [0, 1] rfl rfl (by decide) (by decide) hk1 hFc hP1 hD1
  have hK := (hK.sub (tys' := [(k0, (.object "Seekwell$Big"))]) [0] rfl).app hK1
  generalize H1 = H at hP hS ⊢
  have hP : va_P (dC, dI) vwCl [(q0, .inr (6, [.ref q1, .ref q2, .ref q3, .ref q4, .int 0, .ref q5, .ref q6, .ref q7, .int 0, .int 0])), (q1, .inl (k0, 24, .inr (.inr (.inr (.inr (va_up (va_up (va_up (va_up (va_up (va_up (va_up (va_up (va_up (va_up (va_up (va_up (va_up (va_up (va_up (va_up (va_up (va_up (va_up (fun _ => none) (0 : Int32).toNatClampNeg (some q8)) (1 : Int32).toNatClampNeg (some q10)) (2 : Int32).toNatClampNeg (some q12)) (3 : Int32).toNatClampNeg (some q14)) (4 : Int32).toNatClampNeg (some q16)) (5 : Int32).toNatClampNeg (some q18)) (6 : Int32).toNatClampNeg (some q20)) (7 : Int32).toNatClampNeg (some q22)) (8 : Int32).toNatClampNeg (some q24)) (9 : Int32).toNatClampNeg (some q26)) (10 : Int32).toNatClampNeg (some q28)) (11 : Int32).toNatClampNeg (some q30)) (12 : Int32).toNatClampNeg (some q32)) (13 : Int32).toNatClampNeg (some q34)) (14 : Int32).toNatClampNeg (some q36)) (15 : Int32).toNatClampNeg (some q38)) (16 : Int32).toNatClampNeg (some q40)) (17 : Int32).toNatClampNeg (some q42)) (18 : Int32).toNatClampNeg (some q44))))))), (q46, .inr (4, [.ref q47]))] H := hP
  have hD : va_D A [(q0, .inr (6, [.ref q1, .ref q2, .ref q3, .ref q4, .int 0, .ref q5, .ref q6, .ref q7, .int 0, .int 0])), (q1, .inl (k0, 24, .inr (.inr (.inr (.inr (va_up (va_up (va_up (va_up (va_up (va_up (va_up (va_up (va_up (va_up (va_up (va_up (va_up (va_up (va_up (va_up (va_up (va_up (va_up (fun _ => none) (0 : Int32).toNatClampNeg (some q8)) (1 : Int32).toNatClampNeg (some q10)) (2 : Int32).toNatClampNeg (some q12)) (3 : Int32).toNatClampNeg (some q14)) (4 : Int32).toNatClampNeg (some q16)) (5 : Int32).toNatClampNeg (some q18)) (6 : Int32).toNatClampNeg (some q20)) (7 : Int32).toNatClampNeg (some q22)) (8 : Int32).toNatClampNeg (some q24)) (9 : Int32).toNatClampNeg (some q26)) (10 : Int32).toNatClampNeg (some q28)) (11 : Int32).toNatClampNeg (some q30)) (12 : Int32).toNatClampNeg (some q32)) (13 : Int32).toNatClampNeg (some q34)) (14 : Int32).toNatClampNeg (some q36)) (15 : Int32).toNatClampNeg (some q38)) (16 : Int32).toNatClampNeg (some q40)) (17 : Int32).toNatClampNeg (some q42)) (18 : Int32).toNatClampNeg (some q44))))))), (q46, .inr (4, [.ref q47]))] := hD
  have hK : va_K (dC, dI) vwCl [(k0, (.object "Seekwell$Big"))] s := hK
  refine W.widen (k := 50) (n := 473) (Nat.le_of_ble_eq_true rfl) (Nat.le_of_ble_eq_true rfl) ?_
  refine va_astq (D := (dC, dI)) hx hb hK hP hD hS 1 0 2 4 rfl rfl rfl rfl (i := 19) (zin (by decide +kernel)) dX3_init_108 (fun H locs hP hD hS => ?_)
  have hP : va_P (dC, dI) vwCl [(q0, .inr (6, [.ref q1, .ref q2, .ref q3, .ref q4, .int 0, .ref q5, .ref q6, .ref q7, .int 0, .int 0])), (q1, .inl (k0, 24, .inr (.inr (.inr (.inr (va_up (va_up (va_up (va_up (va_up (va_up (va_up (va_up (va_up (va_up (va_up (va_up (va_up (va_up (va_up (va_up (va_up (va_up (va_up (va_up (fun _ => none) (0 : Int32).toNatClampNeg (some q8)) (1 : Int32).toNatClampNeg (some q10)) (2 : Int32).toNatClampNeg (some q12)) (3 : Int32).toNatClampNeg (some q14)) (4 : Int32).toNatClampNeg (some q16)) (5 : Int32).toNatClampNeg (some q18)) (6 : Int32).toNatClampNeg (some q20)) (7 : Int32).toNatClampNeg (some q22)) (8 : Int32).toNatClampNeg (some q24)) (9 : Int32).toNatClampNeg (some q26)) (10 : Int32).toNatClampNeg (some q28)) (11 : Int32).toNatClampNeg (some q30)) (12 : Int32).toNatClampNeg (some q32)) (13 : Int32).toNatClampNeg (some q34)) (14 : Int32).toNatClampNeg (some q36)) (15 : Int32).toNatClampNeg (some q38)) (16 : Int32).toNatClampNeg (some q40)) (17 : Int32).toNatClampNeg (some q42)) (18 : Int32).toNatClampNeg (some q44)) (19 : Int32).toNatClampNeg (some q46))))))), (q46, .inr (4, [.ref q47]))] H := hP
  have hD : va_D A [(q0, .inr (6, [.ref q1, .ref q2, .ref q3, .ref q4, .int 0, .ref q5, .ref q6, .ref q7, .int 0, .int 0])), (q1, .inl (k0, 24, .inr (.inr (.inr (.inr (va_up (va_up (va_up (va_up (va_up (va_up (va_up (va_up (va_up (va_up (va_up (va_up (va_up (va_up (va_up (va_up (va_up (va_up (va_up (va_up (fun _ => none) (0 : Int32).toNatClampNeg (some q8)) (1 : Int32).toNatClampNeg (some q10)) (2 : Int32).toNatClampNeg (some q12)) (3 : Int32).toNatClampNeg (some q14)) (4 : Int32).toNatClampNeg (some q16)) (5 : Int32).toNatClampNeg (some q18)) (6 : Int32).toNatClampNeg (some q20)) (7 : Int32).toNatClampNeg (some q22)) (8 : Int32).toNatClampNeg (some q24)) (9 : Int32).toNatClampNeg (some q26)) (10 : Int32).toNatClampNeg (some q28)) (11 : Int32).toNatClampNeg (some q30)) (12 : Int32).toNatClampNeg (some q32)) (13 : Int32).toNatClampNeg (some q34)) (14 : Int32).toNatClampNeg (some q36)) (15 : Int32).toNatClampNeg (some q38)) (16 : Int32).toNatClampNeg (some q40)) (17 : Int32).toNatClampNeg (some q42)) (18 : Int32).toNatClampNeg (some q44)) (19 : Int32).toNatClampNeg (some q46))))))), (q46, .inr (4, [.ref q47]))] := hD
  refine lv_iinc (v := 20) (lv' := [(1, .int 20), (0, .ref q0)]) hx hb dX3_init_109 hl (k := 0) rfl (by decide +kernel) (by decide) rfl (fun ls hl => ?_)
  refine lv_goto (tgt := 87) hx hb dX3_init_112 (by decide) ?_
  refine lv_iload_n hx hb dX3_init_87 rfl (lv_at hl 0 rfl) ?_
  refine lv_aload_n hx hb dX3_init_88 rfl (lv_at hl 1 rfl) ?_
  refine va_get (D := (dC, dI)) (ci := 6) (v := .ref q1) (C := RX3) (T := TX3) (N := 10) hx hb hts (fun _ h => List.mem_cons_of_mem _ (List.mem_append_left _ (List.mem_append_right _ h))) hown hK hP 0 rfl rfl 0 (by decide) (hts (.fieldLink RX3 11 "Seekwell$Finder" "worths" "[LSeekwell$Big;") (by decide +kernel)) (fun _ h9 => h9) rfl dX3_init_89 ?_
  refine va_alen (D := (dC, dI)) (v := 24) hx hb hK hP 1 0 rfl rfl (show Int32.ofNat 24 = 24 by decide +kernel) dX3_init_92 ?_
  refine lv_icmp_ge (tgt := 115) hx hb dX3_init_93 (by decide) (fun h9 => absurd h9 (show ¬ (24 : Int32) ≤ (20 : Int32) by decide +kernel)) (fun _ => ?_)
  refine lv_aload_n hx hb dX3_init_96 rfl (lv_at hl 1 rfl) ?_
  refine va_get (D := (dC, dI)) (ci := 6) (v := .ref q1) (C := RX3) (T := TX3) (N := 10) hx hb hts (fun _ h => List.mem_cons_of_mem _ (List.mem_append_left _ (List.mem_append_right _ h))) hown hK hP 0 rfl rfl 0 (by decide) (hts (.fieldLink RX3 11 "Seekwell$Finder" "worths" "[LSeekwell$Big;") (by decide +kernel)) (fun _ h9 => h9) rfl dX3_init_97 ?_
  refine lv_iload_n hx hb dX3_init_100 rfl (lv_at hl 0 rfl) ?_
  refine va_new (D := (dC, dI)) (ci := 4) (fs := [.null]) (C := RX1) (T := TX1) (N := 1) hx hb hts (fun _ h => List.mem_cons_of_mem _ (List.mem_append_right _ h)) tyX1 tyX1_ok hown (hts (.classLink RX3 9 RX1) (by decide +kernel)) (hts (.instantiable RX1 1) (by decide +kernel)) (hts (.initialized RX1) (by decide +kernel)) hK hP hD hS hA rfl (zfs (by decide)) (Nat.le_of_ble_eq_true rfl) (Nat.le_of_ble_eq_true rfl) dX3_init_101 (fun q48 H hP hD hS => ?_)
  have hP : va_P (dC, dI) vwCl [(q0, .inr (6, [.ref q1, .ref q2, .ref q3, .ref q4, .int 0, .ref q5, .ref q6, .ref q7, .int 0, .int 0])), (q1, .inl (k0, 24, .inr (.inr (.inr (.inr (va_up (va_up (va_up (va_up (va_up (va_up (va_up (va_up (va_up (va_up (va_up (va_up (va_up (va_up (va_up (va_up (va_up (va_up (va_up (va_up (fun _ => none) (0 : Int32).toNatClampNeg (some q8)) (1 : Int32).toNatClampNeg (some q10)) (2 : Int32).toNatClampNeg (some q12)) (3 : Int32).toNatClampNeg (some q14)) (4 : Int32).toNatClampNeg (some q16)) (5 : Int32).toNatClampNeg (some q18)) (6 : Int32).toNatClampNeg (some q20)) (7 : Int32).toNatClampNeg (some q22)) (8 : Int32).toNatClampNeg (some q24)) (9 : Int32).toNatClampNeg (some q26)) (10 : Int32).toNatClampNeg (some q28)) (11 : Int32).toNatClampNeg (some q30)) (12 : Int32).toNatClampNeg (some q32)) (13 : Int32).toNatClampNeg (some q34)) (14 : Int32).toNatClampNeg (some q36)) (15 : Int32).toNatClampNeg (some q38)) (16 : Int32).toNatClampNeg (some q40)) (17 : Int32).toNatClampNeg (some q42)) (18 : Int32).toNatClampNeg (some q44)) (19 : Int32).toNatClampNeg (some q46))))))), (q46, .inr (4, [.ref q47])), (q48, .inr (4, [.null]))] H := hP
  have hD : va_D A [(q0, .inr (6, [.ref q1, .ref q2, .ref q3, .ref q4, .int 0, .ref q5, .ref q6, .ref q7, .int 0, .int 0])), (q1, .inl (k0, 24, .inr (.inr (.inr (.inr (va_up (va_up (va_up (va_up (va_up (va_up (va_up (va_up (va_up (va_up (va_up (va_up (va_up (va_up (va_up (va_up (va_up (va_up (va_up (va_up (fun _ => none) (0 : Int32).toNatClampNeg (some q8)) (1 : Int32).toNatClampNeg (some q10)) (2 : Int32).toNatClampNeg (some q12)) (3 : Int32).toNatClampNeg (some q14)) (4 : Int32).toNatClampNeg (some q16)) (5 : Int32).toNatClampNeg (some q18)) (6 : Int32).toNatClampNeg (some q20)) (7 : Int32).toNatClampNeg (some q22)) (8 : Int32).toNatClampNeg (some q24)) (9 : Int32).toNatClampNeg (some q26)) (10 : Int32).toNatClampNeg (some q28)) (11 : Int32).toNatClampNeg (some q30)) (12 : Int32).toNatClampNeg (some q32)) (13 : Int32).toNatClampNeg (some q34)) (14 : Int32).toNatClampNeg (some q36)) (15 : Int32).toNatClampNeg (some q38)) (16 : Int32).toNatClampNeg (some q40)) (17 : Int32).toNatClampNeg (some q42)) (18 : Int32).toNatClampNeg (some q44)) (19 : Int32).toNatClampNeg (some q46))))))), (q46, .inr (4, [.ref q47])), (q48, .inr (4, [.null]))] := hD
  refine W.widen (k := 51) (n := 474) (Nat.le_of_ble_eq_true rfl) (Nat.le_of_ble_eq_true rfl) ?_
  refine lv_dup hx hb dX3_init_104 rfl ?_
  have hPc := hP.sub (ws' := [(q48, .inr (4, [.null]))]) [3] rfl
  have hDc := hD.sub (ws' := [(q48, .inr (4, [.null]))]) [3] (by decide) rfl
  have hKc := hK.sub (tys' := []) [] rfl
  have hFc := va_free (wc := [(q48, .inr (4, [.null]))]) hD hS hA [3] rfl
  refine va_callv (va_runIN (As := []) (rest := [.ref q48, .int 20, .ref q1]) ⟨hx, hb, hml, hown, hts⟩ (c_X1_init_2 l dC dI q48 H.size  ) ⟨va_cnB (host := "Seekwell") 0 hts gX3_init_X1_init_n31 rfl rfl rfl (hN.1 (RX3, 31, yX1_init, "Seekwell") (by decide +kernel)) (hts (.initialized RX1) (by decide +kernel)) (by decide +kernel) ⟨Nat.le_of_ble_eq_true rfl, Nat.le_of_ble_eq_true rfl⟩, rfl, hts (.instanceMethod yX1_init) (by decide +kernel)⟩ ⟨zB_blind, (zPre hPc hDc hKc hS hFc hZ hN)⟩ rfl rfl hl.1 rfl (lv_room (Nat.le_of_ble_eq_true rfl)) dX3_init_105 ⟨Nat.le_of_ble_eq_true rfl, Nat.le_of_ble_eq_true rfl⟩) hS (fun q _ h => hFc q h) hFc (fun u t H1 locs ht hvm hw hB hz1 hk1 hS => ?_)
  obtain ⟨q49, hP1, hK1, hD1⟩ := hB
  rw [ht] at hP1
  have hK1 := va_K.moved hvm.symm hK1
  obtain ⟨hP, hD⟩ := va_join (wr := [(q0, .inr (6, [.ref q1, .ref q2, .ref q3, .ref q4, .int 0, .ref q5, .ref q6, .ref q7, .int 0, .int 0])), (q1, .inl (k0, 24, .inr (.inr (.inr (.inr (va_up (va_up (va_up (va_up (va_up (va_up (va_up (va_up (va_up (va_up (va_up (va_up (va_up (va_up (va_up (va_up (va_up (va_up (va_up (va_up (fun _ => none) (0 : Int32).toNatClampNeg (some q8)) (1 : Int32).toNatClampNeg (some q10)) (2 : Int32).toNatClampNeg (some q12)) (3 : Int32).toNatClampNeg (some q14)) (4 : Int32).toNatClampNeg (some q16)) (5 : Int32).toNatClampNeg (some q18)) (6 : Int32).toNatClampNeg (some q20)) (7 : Int32).toNatClampNeg (some q22)) (8 : Int32).toNatClampNeg (some q24)) (9 : Int32).toNatClampNeg (some q26)) (10 : Int32).toNatClampNeg (some q28)) (11 : Int32).toNatClampNeg (some q30)) (12 : Int32).toNatClampNeg (some q32)) (13 : Int32).toNatClampNeg (some q34)) (14 : Int32).toNatClampNeg (some q36)) (15 : Int32).toNatClampNeg (some q38)) (16 : Int32).toNatClampNeg (some q40)) (17 : Int32).toNatClampNeg (some q42)) (18 : Int32).toNatClampNeg (some q44)) (19 : Int32).toNatClampNeg (some q46)))))))]) (w1 := [(q48, .inr (4, [.ref q49]))]) hP hD [3] [0, 1] rfl rfl (by decide) (by decide) hk1 hFc hP1 hD1
  have hK := (hK.sub (tys' := [(k0, (.object "Seekwell$Big"))]) [0] rfl).app hK1
  generalize H1 = H at hP hS ⊢
  have hP : va_P (dC, dI) vwCl [(q0, .inr (6, [.ref q1, .ref q2, .ref q3, .ref q4, .int 0, .ref q5, .ref q6, .ref q7, .int 0, .int 0])), (q1, .inl (k0, 24, .inr (.inr (.inr (.inr (va_up (va_up (va_up (va_up (va_up (va_up (va_up (va_up (va_up (va_up (va_up (va_up (va_up (va_up (va_up (va_up (va_up (va_up (va_up (va_up (fun _ => none) (0 : Int32).toNatClampNeg (some q8)) (1 : Int32).toNatClampNeg (some q10)) (2 : Int32).toNatClampNeg (some q12)) (3 : Int32).toNatClampNeg (some q14)) (4 : Int32).toNatClampNeg (some q16)) (5 : Int32).toNatClampNeg (some q18)) (6 : Int32).toNatClampNeg (some q20)) (7 : Int32).toNatClampNeg (some q22)) (8 : Int32).toNatClampNeg (some q24)) (9 : Int32).toNatClampNeg (some q26)) (10 : Int32).toNatClampNeg (some q28)) (11 : Int32).toNatClampNeg (some q30)) (12 : Int32).toNatClampNeg (some q32)) (13 : Int32).toNatClampNeg (some q34)) (14 : Int32).toNatClampNeg (some q36)) (15 : Int32).toNatClampNeg (some q38)) (16 : Int32).toNatClampNeg (some q40)) (17 : Int32).toNatClampNeg (some q42)) (18 : Int32).toNatClampNeg (some q44)) (19 : Int32).toNatClampNeg (some q46))))))), (q48, .inr (4, [.ref q49]))] H := hP
  have hD : va_D A [(q0, .inr (6, [.ref q1, .ref q2, .ref q3, .ref q4, .int 0, .ref q5, .ref q6, .ref q7, .int 0, .int 0])), (q1, .inl (k0, 24, .inr (.inr (.inr (.inr (va_up (va_up (va_up (va_up (va_up (va_up (va_up (va_up (va_up (va_up (va_up (va_up (va_up (va_up (va_up (va_up (va_up (va_up (va_up (va_up (fun _ => none) (0 : Int32).toNatClampNeg (some q8)) (1 : Int32).toNatClampNeg (some q10)) (2 : Int32).toNatClampNeg (some q12)) (3 : Int32).toNatClampNeg (some q14)) (4 : Int32).toNatClampNeg (some q16)) (5 : Int32).toNatClampNeg (some q18)) (6 : Int32).toNatClampNeg (some q20)) (7 : Int32).toNatClampNeg (some q22)) (8 : Int32).toNatClampNeg (some q24)) (9 : Int32).toNatClampNeg (some q26)) (10 : Int32).toNatClampNeg (some q28)) (11 : Int32).toNatClampNeg (some q30)) (12 : Int32).toNatClampNeg (some q32)) (13 : Int32).toNatClampNeg (some q34)) (14 : Int32).toNatClampNeg (some q36)) (15 : Int32).toNatClampNeg (some q38)) (16 : Int32).toNatClampNeg (some q40)) (17 : Int32).toNatClampNeg (some q42)) (18 : Int32).toNatClampNeg (some q44)) (19 : Int32).toNatClampNeg (some q46))))))), (q48, .inr (4, [.ref q49]))] := hD
  have hK : va_K (dC, dI) vwCl [(k0, (.object "Seekwell$Big"))] s := hK
  refine W.widen (k := 52) (n := 490) (Nat.le_of_ble_eq_true rfl) (Nat.le_of_ble_eq_true rfl) ?_
  refine va_astq (D := (dC, dI)) hx hb hK hP hD hS 1 0 2 4 rfl rfl rfl rfl (i := 20) (zin (by decide +kernel)) dX3_init_108 (fun H locs hP hD hS => ?_)
  have hP : va_P (dC, dI) vwCl [(q0, .inr (6, [.ref q1, .ref q2, .ref q3, .ref q4, .int 0, .ref q5, .ref q6, .ref q7, .int 0, .int 0])), (q1, .inl (k0, 24, .inr (.inr (.inr (.inr (va_up (va_up (va_up (va_up (va_up (va_up (va_up (va_up (va_up (va_up (va_up (va_up (va_up (va_up (va_up (va_up (va_up (va_up (va_up (va_up (va_up (fun _ => none) (0 : Int32).toNatClampNeg (some q8)) (1 : Int32).toNatClampNeg (some q10)) (2 : Int32).toNatClampNeg (some q12)) (3 : Int32).toNatClampNeg (some q14)) (4 : Int32).toNatClampNeg (some q16)) (5 : Int32).toNatClampNeg (some q18)) (6 : Int32).toNatClampNeg (some q20)) (7 : Int32).toNatClampNeg (some q22)) (8 : Int32).toNatClampNeg (some q24)) (9 : Int32).toNatClampNeg (some q26)) (10 : Int32).toNatClampNeg (some q28)) (11 : Int32).toNatClampNeg (some q30)) (12 : Int32).toNatClampNeg (some q32)) (13 : Int32).toNatClampNeg (some q34)) (14 : Int32).toNatClampNeg (some q36)) (15 : Int32).toNatClampNeg (some q38)) (16 : Int32).toNatClampNeg (some q40)) (17 : Int32).toNatClampNeg (some q42)) (18 : Int32).toNatClampNeg (some q44)) (19 : Int32).toNatClampNeg (some q46)) (20 : Int32).toNatClampNeg (some q48))))))), (q48, .inr (4, [.ref q49]))] H := hP
  have hD : va_D A [(q0, .inr (6, [.ref q1, .ref q2, .ref q3, .ref q4, .int 0, .ref q5, .ref q6, .ref q7, .int 0, .int 0])), (q1, .inl (k0, 24, .inr (.inr (.inr (.inr (va_up (va_up (va_up (va_up (va_up (va_up (va_up (va_up (va_up (va_up (va_up (va_up (va_up (va_up (va_up (va_up (va_up (va_up (va_up (va_up (va_up (fun _ => none) (0 : Int32).toNatClampNeg (some q8)) (1 : Int32).toNatClampNeg (some q10)) (2 : Int32).toNatClampNeg (some q12)) (3 : Int32).toNatClampNeg (some q14)) (4 : Int32).toNatClampNeg (some q16)) (5 : Int32).toNatClampNeg (some q18)) (6 : Int32).toNatClampNeg (some q20)) (7 : Int32).toNatClampNeg (some q22)) (8 : Int32).toNatClampNeg (some q24)) (9 : Int32).toNatClampNeg (some q26)) (10 : Int32).toNatClampNeg (some q28)) (11 : Int32).toNatClampNeg (some q30)) (12 : Int32).toNatClampNeg (some q32)) (13 : Int32).toNatClampNeg (some q34)) (14 : Int32).toNatClampNeg (some q36)) (15 : Int32).toNatClampNeg (some q38)) (16 : Int32).toNatClampNeg (some q40)) (17 : Int32).toNatClampNeg (some q42)) (18 : Int32).toNatClampNeg (some q44)) (19 : Int32).toNatClampNeg (some q46)) (20 : Int32).toNatClampNeg (some q48))))))), (q48, .inr (4, [.ref q49]))] := hD
  refine lv_iinc (v := 21) (lv' := [(1, .int 21), (0, .ref q0)]) hx hb dX3_init_109 hl (k := 0) rfl (by decide +kernel) (by decide) rfl (fun ls hl => ?_)
  refine lv_goto (tgt := 87) hx hb dX3_init_112 (by decide) ?_
  refine lv_iload_n hx hb dX3_init_87 rfl (lv_at hl 0 rfl) ?_
  refine lv_aload_n hx hb dX3_init_88 rfl (lv_at hl 1 rfl) ?_
  refine va_get (D := (dC, dI)) (ci := 6) (v := .ref q1) (C := RX3) (T := TX3) (N := 10) hx hb hts (fun _ h => List.mem_cons_of_mem _ (List.mem_append_left _ (List.mem_append_right _ h))) hown hK hP 0 rfl rfl 0 (by decide) (hts (.fieldLink RX3 11 "Seekwell$Finder" "worths" "[LSeekwell$Big;") (by decide +kernel)) (fun _ h9 => h9) rfl dX3_init_89 ?_
  refine va_alen (D := (dC, dI)) (v := 24) hx hb hK hP 1 0 rfl rfl (show Int32.ofNat 24 = 24 by decide +kernel) dX3_init_92 ?_
  refine lv_icmp_ge (tgt := 115) hx hb dX3_init_93 (by decide) (fun h9 => absurd h9 (show ¬ (24 : Int32) ≤ (21 : Int32) by decide +kernel)) (fun _ => ?_)
  refine lv_aload_n hx hb dX3_init_96 rfl (lv_at hl 1 rfl) ?_
  refine va_get (D := (dC, dI)) (ci := 6) (v := .ref q1) (C := RX3) (T := TX3) (N := 10) hx hb hts (fun _ h => List.mem_cons_of_mem _ (List.mem_append_left _ (List.mem_append_right _ h))) hown hK hP 0 rfl rfl 0 (by decide) (hts (.fieldLink RX3 11 "Seekwell$Finder" "worths" "[LSeekwell$Big;") (by decide +kernel)) (fun _ h9 => h9) rfl dX3_init_97 ?_
  refine lv_iload_n hx hb dX3_init_100 rfl (lv_at hl 0 rfl) ?_
  refine va_new (D := (dC, dI)) (ci := 4) (fs := [.null]) (C := RX1) (T := TX1) (N := 1) hx hb hts (fun _ h => List.mem_cons_of_mem _ (List.mem_append_right _ h)) tyX1 tyX1_ok hown (hts (.classLink RX3 9 RX1) (by decide +kernel)) (hts (.instantiable RX1 1) (by decide +kernel)) (hts (.initialized RX1) (by decide +kernel)) hK hP hD hS hA rfl (zfs (by decide)) (Nat.le_of_ble_eq_true rfl) (Nat.le_of_ble_eq_true rfl) dX3_init_101 (fun q50 H hP hD hS => ?_)
  have hP : va_P (dC, dI) vwCl [(q0, .inr (6, [.ref q1, .ref q2, .ref q3, .ref q4, .int 0, .ref q5, .ref q6, .ref q7, .int 0, .int 0])), (q1, .inl (k0, 24, .inr (.inr (.inr (.inr (va_up (va_up (va_up (va_up (va_up (va_up (va_up (va_up (va_up (va_up (va_up (va_up (va_up (va_up (va_up (va_up (va_up (va_up (va_up (va_up (va_up (fun _ => none) (0 : Int32).toNatClampNeg (some q8)) (1 : Int32).toNatClampNeg (some q10)) (2 : Int32).toNatClampNeg (some q12)) (3 : Int32).toNatClampNeg (some q14)) (4 : Int32).toNatClampNeg (some q16)) (5 : Int32).toNatClampNeg (some q18)) (6 : Int32).toNatClampNeg (some q20)) (7 : Int32).toNatClampNeg (some q22)) (8 : Int32).toNatClampNeg (some q24)) (9 : Int32).toNatClampNeg (some q26)) (10 : Int32).toNatClampNeg (some q28)) (11 : Int32).toNatClampNeg (some q30)) (12 : Int32).toNatClampNeg (some q32)) (13 : Int32).toNatClampNeg (some q34)) (14 : Int32).toNatClampNeg (some q36)) (15 : Int32).toNatClampNeg (some q38)) (16 : Int32).toNatClampNeg (some q40)) (17 : Int32).toNatClampNeg (some q42)) (18 : Int32).toNatClampNeg (some q44)) (19 : Int32).toNatClampNeg (some q46)) (20 : Int32).toNatClampNeg (some q48))))))), (q48, .inr (4, [.ref q49])), (q50, .inr (4, [.null]))] H := hP
  have hD : va_D A [(q0, .inr (6, [.ref q1, .ref q2, .ref q3, .ref q4, .int 0, .ref q5, .ref q6, .ref q7, .int 0, .int 0])), (q1, .inl (k0, 24, .inr (.inr (.inr (.inr (va_up (va_up (va_up (va_up (va_up (va_up (va_up (va_up (va_up (va_up (va_up (va_up (va_up (va_up (va_up (va_up (va_up (va_up (va_up (va_up (va_up (fun _ => none) (0 : Int32).toNatClampNeg (some q8)) (1 : Int32).toNatClampNeg (some q10)) (2 : Int32).toNatClampNeg (some q12)) (3 : Int32).toNatClampNeg (some q14)) (4 : Int32).toNatClampNeg (some q16)) (5 : Int32).toNatClampNeg (some q18)) (6 : Int32).toNatClampNeg (some q20)) (7 : Int32).toNatClampNeg (some q22)) (8 : Int32).toNatClampNeg (some q24)) (9 : Int32).toNatClampNeg (some q26)) (10 : Int32).toNatClampNeg (some q28)) (11 : Int32).toNatClampNeg (some q30)) (12 : Int32).toNatClampNeg (some q32)) (13 : Int32).toNatClampNeg (some q34)) (14 : Int32).toNatClampNeg (some q36)) (15 : Int32).toNatClampNeg (some q38)) (16 : Int32).toNatClampNeg (some q40)) (17 : Int32).toNatClampNeg (some q42)) (18 : Int32).toNatClampNeg (some q44)) (19 : Int32).toNatClampNeg (some q46)) (20 : Int32).toNatClampNeg (some q48))))))), (q48, .inr (4, [.ref q49])), (q50, .inr (4, [.null]))] := hD
  refine W.widen (k := 53) (n := 491) (Nat.le_of_ble_eq_true rfl) (Nat.le_of_ble_eq_true rfl) ?_
  refine lv_dup hx hb dX3_init_104 rfl ?_
  have hPc := hP.sub (ws' := [(q50, .inr (4, [.null]))]) [3] rfl
  have hDc := hD.sub (ws' := [(q50, .inr (4, [.null]))]) [3] (by decide) rfl
  have hKc := hK.sub (tys' := []) [] rfl
  have hFc := va_free (wc := [(q50, .inr (4, [.null]))]) hD hS hA [3] rfl
  refine va_callv (va_runIN (As := []) (rest := [.ref q50, .int 21, .ref q1]) ⟨hx, hb, hml, hown, hts⟩ (c_X1_init_2 l dC dI q50 H.size  ) ⟨va_cnB (host := "Seekwell") 0 hts gX3_init_X1_init_n31 rfl rfl rfl (hN.1 (RX3, 31, yX1_init, "Seekwell") (by decide +kernel)) (hts (.initialized RX1) (by decide +kernel)) (by decide +kernel) ⟨Nat.le_of_ble_eq_true rfl, Nat.le_of_ble_eq_true rfl⟩, rfl, hts (.instanceMethod yX1_init) (by decide +kernel)⟩ ⟨zB_blind, (zPre hPc hDc hKc hS hFc hZ hN)⟩ rfl rfl hl.1 rfl (lv_room (Nat.le_of_ble_eq_true rfl)) dX3_init_105 ⟨Nat.le_of_ble_eq_true rfl, Nat.le_of_ble_eq_true rfl⟩) hS (fun q _ h => hFc q h) hFc (fun u t H1 locs ht hvm hw hB hz1 hk1 hS => ?_)
  obtain ⟨q51, hP1, hK1, hD1⟩ := hB
  rw [ht] at hP1
  have hK1 := va_K.moved hvm.symm hK1
  obtain ⟨hP, hD⟩ := va_join (wr := [(q0, .inr (6, [.ref q1, .ref q2, .ref q3, .ref q4, .int 0, .ref q5, .ref q6, .ref q7, .int 0, .int 0])), (q1, .inl (k0, 24, .inr (.inr (.inr (.inr (va_up (va_up (va_up (va_up (va_up (va_up (va_up (va_up (va_up (va_up (va_up (va_up (va_up (va_up (va_up (va_up (va_up (va_up (va_up (va_up (va_up (fun _ => none) (0 : Int32).toNatClampNeg (some q8)) (1 : Int32).toNatClampNeg (some q10)) (2 : Int32).toNatClampNeg (some q12)) (3 : Int32).toNatClampNeg (some q14)) (4 : Int32).toNatClampNeg (some q16)) (5 : Int32).toNatClampNeg (some q18)) (6 : Int32).toNatClampNeg (some q20)) (7 : Int32).toNatClampNeg (some q22)) (8 : Int32).toNatClampNeg (some q24)) (9 : Int32).toNatClampNeg (some q26)) (10 : Int32).toNatClampNeg (some q28)) (11 : Int32).toNatClampNeg (some q30)) (12 : Int32).toNatClampNeg (some q32)) (13 : Int32).toNatClampNeg (some q34)) (14 : Int32).toNatClampNeg (some q36)) (15 : Int32).toNatClampNeg (some q38)) (16 : Int32).toNatClampNeg (some q40)) (17 : Int32).toNatClampNeg (some q42)) (18 : Int32).toNatClampNeg (some q44)) (19 : Int32).toNatClampNeg (some q46)) (20 : Int32).toNatClampNeg (some q48)))))))]) (w1 := [(q50, .inr (4, [.ref q51]))]) hP hD [3] [0, 1] rfl rfl (by decide) (by decide) hk1 hFc hP1 hD1
  have hK := (hK.sub (tys' := [(k0, (.object "Seekwell$Big"))]) [0] rfl).app hK1
  generalize H1 = H at hP hS ⊢
  have hP : va_P (dC, dI) vwCl [(q0, .inr (6, [.ref q1, .ref q2, .ref q3, .ref q4, .int 0, .ref q5, .ref q6, .ref q7, .int 0, .int 0])), (q1, .inl (k0, 24, .inr (.inr (.inr (.inr (va_up (va_up (va_up (va_up (va_up (va_up (va_up (va_up (va_up (va_up (va_up (va_up (va_up (va_up (va_up (va_up (va_up (va_up (va_up (va_up (va_up (fun _ => none) (0 : Int32).toNatClampNeg (some q8)) (1 : Int32).toNatClampNeg (some q10)) (2 : Int32).toNatClampNeg (some q12)) (3 : Int32).toNatClampNeg (some q14)) (4 : Int32).toNatClampNeg (some q16)) (5 : Int32).toNatClampNeg (some q18)) (6 : Int32).toNatClampNeg (some q20)) (7 : Int32).toNatClampNeg (some q22)) (8 : Int32).toNatClampNeg (some q24)) (9 : Int32).toNatClampNeg (some q26)) (10 : Int32).toNatClampNeg (some q28)) (11 : Int32).toNatClampNeg (some q30)) (12 : Int32).toNatClampNeg (some q32)) (13 : Int32).toNatClampNeg (some q34)) (14 : Int32).toNatClampNeg (some q36)) (15 : Int32).toNatClampNeg (some q38)) (16 : Int32).toNatClampNeg (some q40)) (17 : Int32).toNatClampNeg (some q42)) (18 : Int32).toNatClampNeg (some q44)) (19 : Int32).toNatClampNeg (some q46)) (20 : Int32).toNatClampNeg (some q48))))))), (q50, .inr (4, [.ref q51]))] H := hP
  have hD : va_D A [(q0, .inr (6, [.ref q1, .ref q2, .ref q3, .ref q4, .int 0, .ref q5, .ref q6, .ref q7, .int 0, .int 0])), (q1, .inl (k0, 24, .inr (.inr (.inr (.inr (va_up (va_up (va_up (va_up (va_up (va_up (va_up (va_up (va_up (va_up (va_up (va_up (va_up (va_up (va_up (va_up (va_up (va_up (va_up (va_up (va_up (fun _ => none) (0 : Int32).toNatClampNeg (some q8)) (1 : Int32).toNatClampNeg (some q10)) (2 : Int32).toNatClampNeg (some q12)) (3 : Int32).toNatClampNeg (some q14)) (4 : Int32).toNatClampNeg (some q16)) (5 : Int32).toNatClampNeg (some q18)) (6 : Int32).toNatClampNeg (some q20)) (7 : Int32).toNatClampNeg (some q22)) (8 : Int32).toNatClampNeg (some q24)) (9 : Int32).toNatClampNeg (some q26)) (10 : Int32).toNatClampNeg (some q28)) (11 : Int32).toNatClampNeg (some q30)) (12 : Int32).toNatClampNeg (some q32)) (13 : Int32).toNatClampNeg (some q34)) (14 : Int32).toNatClampNeg (some q36)) (15 : Int32).toNatClampNeg (some q38)) (16 : Int32).toNatClampNeg (some q40)) (17 : Int32).toNatClampNeg (some q42)) (18 : Int32).toNatClampNeg (some q44)) (19 : Int32).toNatClampNeg (some q46)) (20 : Int32).toNatClampNeg (some q48))))))), (q50, .inr (4, [.ref q51]))] := hD
  have hK : va_K (dC, dI) vwCl [(k0, (.object "Seekwell$Big"))] s := hK
  refine W.widen (k := 54) (n := 507) (Nat.le_of_ble_eq_true rfl) (Nat.le_of_ble_eq_true rfl) ?_
  refine va_astq (D := (dC, dI)) hx hb hK hP hD hS 1 0 2 4 rfl rfl rfl rfl (i := 21) (zin (by decide +kernel)) dX3_init_108 (fun H locs hP hD hS => ?_)
  have hP : va_P (dC, dI) vwCl [(q0, .inr (6, [.ref q1, .ref q2, .ref q3, .ref q4, .int 0, .ref q5, .ref q6, .ref q7, .int 0, .int 0])), (q1, .inl (k0, 24, .inr (.inr (.inr (.inr (va_up (va_up (va_up (va_up (va_up (va_up (va_up (va_up (va_up (va_up (va_up (va_up (va_up (va_up (va_up (va_up (va_up (va_up (va_up (va_up (va_up (va_up (fun _ => none) (0 : Int32).toNatClampNeg (some q8)) (1 : Int32).toNatClampNeg (some q10)) (2 : Int32).toNatClampNeg (some q12)) (3 : Int32).toNatClampNeg (some q14)) (4 : Int32).toNatClampNeg (some q16)) (5 : Int32).toNatClampNeg (some q18)) (6 : Int32).toNatClampNeg (some q20)) (7 : Int32).toNatClampNeg (some q22)) (8 : Int32).toNatClampNeg (some q24)) (9 : Int32).toNatClampNeg (some q26)) (10 : Int32).toNatClampNeg (some q28)) (11 : Int32).toNatClampNeg (some q30)) (12 : Int32).toNatClampNeg (some q32)) (13 : Int32).toNatClampNeg (some q34)) (14 : Int32).toNatClampNeg (some q36)) (15 : Int32).toNatClampNeg (some q38)) (16 : Int32).toNatClampNeg (some q40)) (17 : Int32).toNatClampNeg (some q42)) (18 : Int32).toNatClampNeg (some q44)) (19 : Int32).toNatClampNeg (some q46)) (20 : Int32).toNatClampNeg (some q48)) (21 : Int32).toNatClampNeg (some q50))))))), (q50, .inr (4, [.ref q51]))] H := hP
  have hD : va_D A [(q0, .inr (6, [.ref q1, .ref q2, .ref q3, .ref q4, .int 0, .ref q5, .ref q6, .ref q7, .int 0, .int 0])), (q1, .inl (k0, 24, .inr (.inr (.inr (.inr (va_up (va_up (va_up (va_up (va_up (va_up (va_up (va_up (va_up (va_up (va_up (va_up (va_up (va_up (va_up (va_up (va_up (va_up (va_up (va_up (va_up (va_up (fun _ => none) (0 : Int32).toNatClampNeg (some q8)) (1 : Int32).toNatClampNeg (some q10)) (2 : Int32).toNatClampNeg (some q12)) (3 : Int32).toNatClampNeg (some q14)) (4 : Int32).toNatClampNeg (some q16)) (5 : Int32).toNatClampNeg (some q18)) (6 : Int32).toNatClampNeg (some q20)) (7 : Int32).toNatClampNeg (some q22)) (8 : Int32).toNatClampNeg (some q24)) (9 : Int32).toNatClampNeg (some q26)) (10 : Int32).toNatClampNeg (some q28)) (11 : Int32).toNatClampNeg (some q30)) (12 : Int32).toNatClampNeg (some q32)) (13 : Int32).toNatClampNeg (some q34)) (14 : Int32).toNatClampNeg (some q36)) (15 : Int32).toNatClampNeg (some q38)) (16 : Int32).toNatClampNeg (some q40)) (17 : Int32).toNatClampNeg (some q42)) (18 : Int32).toNatClampNeg (some q44)) (19 : Int32).toNatClampNeg (some q46)) (20 : Int32).toNatClampNeg (some q48)) (21 : Int32).toNatClampNeg (some q50))))))), (q50, .inr (4, [.ref q51]))] := hD
  refine lv_iinc (v := 22) (lv' := [(1, .int 22), (0, .ref q0)]) hx hb dX3_init_109 hl (k := 0) rfl (by decide +kernel) (by decide) rfl (fun ls hl => ?_)
  refine lv_goto (tgt := 87) hx hb dX3_init_112 (by decide) ?_
  refine lv_iload_n hx hb dX3_init_87 rfl (lv_at hl 0 rfl) ?_
  refine lv_aload_n hx hb dX3_init_88 rfl (lv_at hl 1 rfl) ?_
  refine va_get (D := (dC, dI)) (ci := 6) (v := .ref q1) (C := RX3) (T := TX3) (N := 10) hx hb hts (fun _ h => List.mem_cons_of_mem _ (List.mem_append_left _ (List.mem_append_right _ h))) hown hK hP 0 rfl rfl 0 (by decide) (hts (.fieldLink RX3 11 "Seekwell$Finder" "worths" "[LSeekwell$Big;") (by decide +kernel)) (fun _ h9 => h9) rfl dX3_init_89 ?_
  refine va_alen (D := (dC, dI)) (v := 24) hx hb hK hP 1 0 rfl rfl (show Int32.ofNat 24 = 24 by decide +kernel) dX3_init_92 ?_
  refine lv_icmp_ge (tgt := 115) hx hb dX3_init_93 (by decide) (fun h9 => absurd h9 (show ¬ (24 : Int32) ≤ (22 : Int32) by decide +kernel)) (fun _ => ?_)
  refine lv_aload_n hx hb dX3_init_96 rfl (lv_at hl 1 rfl) ?_
  refine va_get (D := (dC, dI)) (ci := 6) (v := .ref q1) (C := RX3) (T := TX3) (N := 10) hx hb hts (fun _ h => List.mem_cons_of_mem _ (List.mem_append_left _ (List.mem_append_right _ h))) hown hK hP 0 rfl rfl 0 (by decide) (hts (.fieldLink RX3 11 "Seekwell$Finder" "worths" "[LSeekwell$Big;") (by decide +kernel)) (fun _ h9 => h9) rfl dX3_init_97 ?_
  refine lv_iload_n hx hb dX3_init_100 rfl (lv_at hl 0 rfl) ?_
  refine va_new (D := (dC, dI)) (ci := 4) (fs := [.null]) (C := RX1) (T := TX1) (N := 1) hx hb hts (fun _ h => List.mem_cons_of_mem _ (List.mem_append_right _ h)) tyX1 tyX1_ok hown (hts (.classLink RX3 9 RX1) (by decide +kernel)) (hts (.instantiable RX1 1) (by decide +kernel)) (hts (.initialized RX1) (by decide +kernel)) hK hP hD hS hA rfl (zfs (by decide)) (Nat.le_of_ble_eq_true rfl) (Nat.le_of_ble_eq_true rfl) dX3_init_101 (fun q52 H hP hD hS => ?_)
  have hP : va_P (dC, dI) vwCl [(q0, .inr (6, [.ref q1, .ref q2, .ref q3, .ref q4, .int 0, .ref q5, .ref q6, .ref q7, .int 0, .int 0])), (q1, .inl (k0, 24, .inr (.inr (.inr (.inr (va_up (va_up (va_up (va_up (va_up (va_up (va_up (va_up (va_up (va_up (va_up (va_up (va_up (va_up (va_up (va_up (va_up (va_up (va_up (va_up (va_up (va_up (fun _ => none) (0 : Int32).toNatClampNeg (some q8)) (1 : Int32).toNatClampNeg (some q10)) (2 : Int32).toNatClampNeg (some q12)) (3 : Int32).toNatClampNeg (some q14)) (4 : Int32).toNatClampNeg (some q16)) (5 : Int32).toNatClampNeg (some q18)) (6 : Int32).toNatClampNeg (some q20)) (7 : Int32).toNatClampNeg (some q22)) (8 : Int32).toNatClampNeg (some q24)) (9 : Int32).toNatClampNeg (some q26)) (10 : Int32).toNatClampNeg (some q28)) (11 : Int32).toNatClampNeg (some q30)) (12 : Int32).toNatClampNeg (some q32)) (13 : Int32).toNatClampNeg (some q34)) (14 : Int32).toNatClampNeg (some q36)) (15 : Int32).toNatClampNeg (some q38)) (16 : Int32).toNatClampNeg (some q40)) (17 : Int32).toNatClampNeg (some q42)) (18 : Int32).toNatClampNeg (some q44)) (19 : Int32).toNatClampNeg (some q46)) (20 : Int32).toNatClampNeg (some q48)) (21 : Int32).toNatClampNeg (some q50))))))), (q50, .inr (4, [.ref q51])), (q52, .inr (4, [.null]))] H := hP
  have hD : va_D A [(q0, .inr (6, [.ref q1, .ref q2, .ref q3, .ref q4, .int 0, .ref q5, .ref q6, .ref q7, .int 0, .int 0])), (q1, .inl (k0, 24, .inr (.inr (.inr (.inr (va_up (va_up (va_up (va_up (va_up (va_up (va_up (va_up (va_up (va_up (va_up (va_up (va_up (va_up (va_up (va_up (va_up (va_up (va_up (va_up (va_up (va_up (fun _ => none) (0 : Int32).toNatClampNeg (some q8)) (1 : Int32).toNatClampNeg (some q10)) (2 : Int32).toNatClampNeg (some q12)) (3 : Int32).toNatClampNeg (some q14)) (4 : Int32).toNatClampNeg (some q16)) (5 : Int32).toNatClampNeg (some q18)) (6 : Int32).toNatClampNeg (some q20)) (7 : Int32).toNatClampNeg (some q22)) (8 : Int32).toNatClampNeg (some q24)) (9 : Int32).toNatClampNeg (some q26)) (10 : Int32).toNatClampNeg (some q28)) (11 : Int32).toNatClampNeg (some q30)) (12 : Int32).toNatClampNeg (some q32)) (13 : Int32).toNatClampNeg (some q34)) (14 : Int32).toNatClampNeg (some q36)) (15 : Int32).toNatClampNeg (some q38)) (16 : Int32).toNatClampNeg (some q40)) (17 : Int32).toNatClampNeg (some q42)) (18 : Int32).toNatClampNeg (some q44)) (19 : Int32).toNatClampNeg (some q46)) (20 : Int32).toNatClampNeg (some q48)) (21 : Int32).toNatClampNeg (some q50))))))), (q50, .inr (4, [.ref q51])), (q52, .inr (4, [.null]))] := hD
  refine W.widen (k := 55) (n := 508) (Nat.le_of_ble_eq_true rfl) (Nat.le_of_ble_eq_true rfl) ?_
  refine lv_dup hx hb dX3_init_104 rfl ?_
  have hPc := hP.sub (ws' := [(q52, .inr (4, [.null]))]) [3] rfl
  have hDc := hD.sub (ws' := [(q52, .inr (4, [.null]))]) [3] (by decide) rfl
  have hKc := hK.sub (tys' := []) [] rfl
  have hFc := va_free (wc := [(q52, .inr (4, [.null]))]) hD hS hA [3] rfl
  refine va_callv (va_runIN (As := []) (rest := [.ref q52, .int 22, .ref q1]) ⟨hx, hb, hml, hown, hts⟩ (c_X1_init_2 l dC dI q52 H.size  ) ⟨va_cnB (host := "Seekwell") 0 hts gX3_init_X1_init_n31 rfl rfl rfl (hN.1 (RX3, 31, yX1_init, "Seekwell") (by decide +kernel)) (hts (.initialized RX1) (by decide +kernel)) (by decide +kernel) ⟨Nat.le_of_ble_eq_true rfl, Nat.le_of_ble_eq_true rfl⟩, rfl, hts (.instanceMethod yX1_init) (by decide +kernel)⟩ ⟨zB_blind, (zPre hPc hDc hKc hS hFc hZ hN)⟩ rfl rfl hl.1 rfl (lv_room (Nat.le_of_ble_eq_true rfl)) dX3_init_105 ⟨Nat.le_of_ble_eq_true rfl, Nat.le_of_ble_eq_true rfl⟩) hS (fun q _ h => hFc q h) hFc (fun u t H1 locs ht hvm hw hB hz1 hk1 hS => ?_)
  obtain ⟨q53, hP1, hK1, hD1⟩ := hB
  rw [ht] at hP1
  have hK1 := va_K.moved hvm.symm hK1
  obtain ⟨hP, hD⟩ := va_join (wr := [(q0, .inr (6, [.ref q1, .ref q2, .ref q3, .ref q4, .int 0, .ref q5, .ref q6, .ref q7, .int 0, .int 0])), (q1, .inl (k0, 24, .inr (.inr (.inr (.inr (va_up (va_up (va_up (va_up (va_up (va_up (va_up (va_up (va_up (va_up (va_up (va_up (va_up (va_up (va_up (va_up (va_up (va_up (va_up (va_up (va_up (va_up (fun _ => none) (0 : Int32).toNatClampNeg (some q8)) (1 : Int32).toNatClampNeg (some q10)) (2 : Int32).toNatClampNeg (some q12)) (3 : Int32).toNatClampNeg (some q14)) (4 : Int32).toNatClampNeg (some q16)) (5 : Int32).toNatClampNeg (some q18)) (6 : Int32).toNatClampNeg (some q20)) (7 : Int32).toNatClampNeg (some q22)) (8 : Int32).toNatClampNeg (some q24)) (9 : Int32).toNatClampNeg (some q26)) (10 : Int32).toNatClampNeg (some q28)) (11 : Int32).toNatClampNeg (some q30)) (12 : Int32).toNatClampNeg (some q32)) (13 : Int32).toNatClampNeg (some q34)) (14 : Int32).toNatClampNeg (some q36)) (15 : Int32).toNatClampNeg (some q38)) (16 : Int32).toNatClampNeg (some q40)) (17 : Int32).toNatClampNeg (some q42)) (18 : Int32).toNatClampNeg (some q44)) (19 : Int32).toNatClampNeg (some q46)) (20 : Int32).toNatClampNeg (some q48)) (21 : Int32).toNatClampNeg (some q50)))))))]) (w1 := [(q52, .inr (4, [.ref q53]))]) hP hD [3] [0, 1] rfl rfl (by decide) (by decide) hk1 hFc hP1 hD1
  have hK := (hK.sub (tys' := [(k0, (.object "Seekwell$Big"))]) [0] rfl).app hK1
  generalize H1 = H at hP hS ⊢
  have hP : va_P (dC, dI) vwCl [(q0, .inr (6, [.ref q1, .ref q2, .ref q3, .ref q4, .int 0, .ref q5, .ref q6, .ref q7, .int 0, .int 0])), (q1, .inl (k0, 24, .inr (.inr (.inr (.inr (va_up (va_up (va_up (va_up (va_up (va_up (va_up (va_up (va_up (va_up (va_up (va_up (va_up (va_up (va_up (va_up (va_up (va_up (va_up (va_up (va_up (va_up (fun _ => none) (0 : Int32).toNatClampNeg (some q8)) (1 : Int32).toNatClampNeg (some q10)) (2 : Int32).toNatClampNeg (some q12)) (3 : Int32).toNatClampNeg (some q14)) (4 : Int32).toNatClampNeg (some q16)) (5 : Int32).toNatClampNeg (some q18)) (6 : Int32).toNatClampNeg (some q20)) (7 : Int32).toNatClampNeg (some q22)) (8 : Int32).toNatClampNeg (some q24)) (9 : Int32).toNatClampNeg (some q26)) (10 : Int32).toNatClampNeg (some q28)) (11 : Int32).toNatClampNeg (some q30)) (12 : Int32).toNatClampNeg (some q32)) (13 : Int32).toNatClampNeg (some q34)) (14 : Int32).toNatClampNeg (some q36)) (15 : Int32).toNatClampNeg (some q38)) (16 : Int32).toNatClampNeg (some q40)) (17 : Int32).toNatClampNeg (some q42)) (18 : Int32).toNatClampNeg (some q44)) (19 : Int32).toNatClampNeg (some q46)) (20 : Int32).toNatClampNeg (some q48)) (21 : Int32).toNatClampNeg (some q50))))))), (q52, .inr (4, [.ref q53]))] H := hP
  have hD : va_D A [(q0, .inr (6, [.ref q1, .ref q2, .ref q3, .ref q4, .int 0, .ref q5, .ref q6, .ref q7, .int 0, .int 0])), (q1, .inl (k0, 24, .inr (.inr (.inr (.inr (va_up (va_up (va_up (va_up (va_up (va_up (va_up (va_up (va_up (va_up (va_up (va_up (va_up (va_up (va_up (va_up (va_up (va_up (va_up (va_up (va_up (va_up (fun _ => none) (0 : Int32).toNatClampNeg (some q8)) (1 : Int32).toNatClampNeg (some q10)) (2 : Int32).toNatClampNeg (some q12)) (3 : Int32).toNatClampNeg (some q14)) (4 : Int32).toNatClampNeg (some q16)) (5 : Int32).toNatClampNeg (some q18)) (6 : Int32).toNatClampNeg (some q20)) (7 : Int32).toNatClampNeg (some q22)) (8 : Int32).toNatClampNeg (some q24)) (9 : Int32).toNatClampNeg (some q26)) (10 : Int32).toNatClampNeg (some q28)) (11 : Int32).toNatClampNeg (some q30)) (12 : Int32).toNatClampNeg (some q32)) (13 : Int32).toNatClampNeg (some q34)) (14 : Int32).toNatClampNeg (some q36)) (15 : Int32).toNatClampNeg (some q38)) (16 : Int32).toNatClampNeg (some q40)) (17 : Int32).toNatClampNeg (some q42)) (18 : Int32).toNatClampNeg (some q44)) (19 : Int32).toNatClampNeg (some q46)) (20 : Int32).toNatClampNeg (some q48)) (21 : Int32).toNatClampNeg (some q50))))))), (q52, .inr (4, [.ref q53]))] := hD
  have hK : va_K (dC, dI) vwCl [(k0, (.object "Seekwell$Big"))] s := hK
  refine W.widen (k := 56) (n := 524) (Nat.le_of_ble_eq_true rfl) (Nat.le_of_ble_eq_true rfl) ?_
  refine va_astq (D := (dC, dI)) hx hb hK hP hD hS 1 0 2 4 rfl rfl rfl rfl (i := 22) (zin (by decide +kernel)) dX3_init_108 (fun H locs hP hD hS => ?_)
  have hP : va_P (dC, dI) vwCl [(q0, .inr (6, [.ref q1, .ref q2, .ref q3, .ref q4, .int 0, .ref q5, .ref q6, .ref q7, .int 0, .int 0])), (q1, .inl (k0, 24, .inr (.inr (.inr (.inr (va_up (va_up (va_up (va_up (va_up (va_up (va_up (va_up (va_up (va_up (va_up (va_up (va_up (va_up (va_up (va_up (va_up (va_up (va_up (va_up (va_up (va_up (va_up (fun _ => none) (0 : Int32).toNatClampNeg (some q8)) (1 : Int32).toNatClampNeg (some q10)) (2 : Int32).toNatClampNeg (some q12)) (3 : Int32).toNatClampNeg (some q14)) (4 : Int32).toNatClampNeg (some q16)) (5 : Int32).toNatClampNeg (some q18)) (6 : Int32).toNatClampNeg (some q20)) (7 : Int32).toNatClampNeg (some q22)) (8 : Int32).toNatClampNeg (some q24)) (9 : Int32).toNatClampNeg (some q26)) (10 : Int32).toNatClampNeg (some q28)) (11 : Int32).toNatClampNeg (some q30)) (12 : Int32).toNatClampNeg (some q32)) (13 : Int32).toNatClampNeg (some q34)) (14 : Int32).toNatClampNeg (some q36)) (15 : Int32).toNatClampNeg (some q38)) (16 : Int32).toNatClampNeg (some q40)) (17 : Int32).toNatClampNeg (some q42)) (18 : Int32).toNatClampNeg (some q44)) (19 : Int32).toNatClampNeg (some q46)) (20 : Int32).toNatClampNeg (some q48)) (21 : Int32).toNatClampNeg (some q50)) (22 : Int32).toNatClampNeg (some q52))))))), (q52, .inr (4, [.ref q53]))] H := hP
  have hD : va_D A [(q0, .inr (6, [.ref q1, .ref q2, .ref q3, .ref q4, .int 0, .ref q5, .ref q6, .ref q7, .int 0, .int 0])), (q1, .inl (k0, 24, .inr (.inr (.inr (.inr (va_up (va_up (va_up (va_up (va_up (va_up (va_up (va_up (va_up (va_up (va_up (va_up (va_up (va_up (va_up (va_up (va_up (va_up (va_up (va_up (va_up (va_up (va_up (fun _ => none) (0 : Int32).toNatClampNeg (some q8)) (1 : Int32).toNatClampNeg (some q10)) (2 : Int32).toNatClampNeg (some q12)) (3 : Int32).toNatClampNeg (some q14)) (4 : Int32).toNatClampNeg (some q16)) (5 : Int32).toNatClampNeg (some q18)) (6 : Int32).toNatClampNeg (some q20)) (7 : Int32).toNatClampNeg (some q22)) (8 : Int32).toNatClampNeg (some q24)) (9 : Int32).toNatClampNeg (some q26)) (10 : Int32).toNatClampNeg (some q28)) (11 : Int32).toNatClampNeg (some q30)) (12 : Int32).toNatClampNeg (some q32)) (13 : Int32).toNatClampNeg (some q34)) (14 : Int32).toNatClampNeg (some q36)) (15 : Int32).toNatClampNeg (some q38)) (16 : Int32).toNatClampNeg (some q40)) (17 : Int32).toNatClampNeg (some q42)) (18 : Int32).toNatClampNeg (some q44)) (19 : Int32).toNatClampNeg (some q46)) (20 : Int32).toNatClampNeg (some q48)) (21 : Int32).toNatClampNeg (some q50)) (22 : Int32).toNatClampNeg (some q52))))))), (q52, .inr (4, [.ref q53]))] := hD
  refine lv_iinc (v := 23) (lv' := [(1, .int 23), (0, .ref q0)]) hx hb dX3_init_109 hl (k := 0) rfl (by decide +kernel) (by decide) rfl (fun ls hl => ?_)
  refine lv_goto (tgt := 87) hx hb dX3_init_112 (by decide) ?_
  refine lv_iload_n hx hb dX3_init_87 rfl (lv_at hl 0 rfl) ?_
  refine lv_aload_n hx hb dX3_init_88 rfl (lv_at hl 1 rfl) ?_
  refine va_get (D := (dC, dI)) (ci := 6) (v := .ref q1) (C := RX3) (T := TX3) (N := 10) hx hb hts (fun _ h => List.mem_cons_of_mem _ (List.mem_append_left _ (List.mem_append_right _ h))) hown hK hP 0 rfl rfl 0 (by decide) (hts (.fieldLink RX3 11 "Seekwell$Finder" "worths" "[LSeekwell$Big;") (by decide +kernel)) (fun _ h9 => h9) rfl dX3_init_89 ?_
  refine va_alen (D := (dC, dI)) (v := 24) hx hb hK hP 1 0 rfl rfl (show Int32.ofNat 24 = 24 by decide +kernel) dX3_init_92 ?_
  refine lv_icmp_ge (tgt := 115) hx hb dX3_init_93 (by decide) (fun h9 => absurd h9 (show ¬ (24 : Int32) ≤ (23 : Int32) by decide +kernel)) (fun _ => ?_)
  refine lv_aload_n hx hb dX3_init_96 rfl (lv_at hl 1 rfl) ?_
  refine va_get (D := (dC, dI)) (ci := 6) (v := .ref q1) (C := RX3) (T := TX3) (N := 10) hx hb hts (fun _ h => List.mem_cons_of_mem _ (List.mem_append_left _ (List.mem_append_right _ h))) hown hK hP 0 rfl rfl 0 (by decide) (hts (.fieldLink RX3 11 "Seekwell$Finder" "worths" "[LSeekwell$Big;") (by decide +kernel)) (fun _ h9 => h9) rfl dX3_init_97 ?_
  refine lv_iload_n hx hb dX3_init_100 rfl (lv_at hl 0 rfl) ?_
  refine va_new (D := (dC, dI)) (ci := 4) (fs := [.null]) (C := RX1) (T := TX1) (N := 1) hx hb hts (fun _ h => List.mem_cons_of_mem _ (List.mem_append_right _ h)) tyX1 tyX1_ok hown (hts (.classLink RX3 9 RX1) (by decide +kernel)) (hts (.instantiable RX1 1) (by decide +kernel)) (hts (.initialized RX1) (by decide +kernel)) hK hP hD hS hA rfl (zfs (by decide)) (Nat.le_of_ble_eq_true rfl) (Nat.le_of_ble_eq_true rfl) dX3_init_101 (fun q54 H hP hD hS => ?_)
  have hP : va_P (dC, dI) vwCl [(q0, .inr (6, [.ref q1, .ref q2, .ref q3, .ref q4, .int 0, .ref q5, .ref q6, .ref q7, .int 0, .int 0])), (q1, .inl (k0, 24, .inr (.inr (.inr (.inr (va_up (va_up (va_up (va_up (va_up (va_up (va_up (va_up (va_up (va_up (va_up (va_up (va_up (va_up (va_up (va_up (va_up (va_up (va_up (va_up (va_up (va_up (va_up (fun _ => none) (0 : Int32).toNatClampNeg (some q8)) (1 : Int32).toNatClampNeg (some q10)) (2 : Int32).toNatClampNeg (some q12)) (3 : Int32).toNatClampNeg (some q14)) (4 : Int32).toNatClampNeg (some q16)) (5 : Int32).toNatClampNeg (some q18)) (6 : Int32).toNatClampNeg (some q20)) (7 : Int32).toNatClampNeg (some q22)) (8 : Int32).toNatClampNeg (some q24)) (9 : Int32).toNatClampNeg (some q26)) (10 : Int32).toNatClampNeg (some q28)) (11 : Int32).toNatClampNeg (some q30)) (12 : Int32).toNatClampNeg (some q32)) (13 : Int32).toNatClampNeg (some q34)) (14 : Int32).toNatClampNeg (some q36)) (15 : Int32).toNatClampNeg (some q38)) (16 : Int32).toNatClampNeg (some q40)) (17 : Int32).toNatClampNeg (some q42)) (18 : Int32).toNatClampNeg (some q44)) (19 : Int32).toNatClampNeg (some q46)) (20 : Int32).toNatClampNeg (some q48)) (21 : Int32).toNatClampNeg (some q50)) (22 : Int32).toNatClampNeg (some q52))))))), (q52, .inr (4, [.ref q53])), (q54, .inr (4, [.null]))] H := hP
  have hD : va_D A [(q0, .inr (6, [.ref q1, .ref q2, .ref q3, .ref q4, .int 0, .ref q5, .ref q6, .ref q7, .int 0, .int 0])), (q1, .inl (k0, 24, .inr (.inr (.inr (.inr (va_up (va_up (va_up (va_up (va_up (va_up (va_up (va_up (va_up (va_up (va_up (va_up (va_up (va_up (va_up (va_up (va_up (va_up (va_up (va_up (va_up (va_up (va_up (fun _ => none) (0 : Int32).toNatClampNeg (some q8)) (1 : Int32).toNatClampNeg (some q10)) (2 : Int32).toNatClampNeg (some q12)) (3 : Int32).toNatClampNeg (some q14)) (4 : Int32).toNatClampNeg (some q16)) (5 : Int32).toNatClampNeg (some q18)) (6 : Int32).toNatClampNeg (some q20)) (7 : Int32).toNatClampNeg (some q22)) (8 : Int32).toNatClampNeg (some q24)) (9 : Int32).toNatClampNeg (some q26)) (10 : Int32).toNatClampNeg (some q28)) (11 : Int32).toNatClampNeg (some q30)) (12 : Int32).toNatClampNeg (some q32)) (13 : Int32).toNatClampNeg (some q34)) (14 : Int32).toNatClampNeg (some q36)) (15 : Int32).toNatClampNeg (some q38)) (16 : Int32).toNatClampNeg (some q40)) (17 : Int32).toNatClampNeg (some q42)) (18 : Int32).toNatClampNeg (some q44)) (19 : Int32).toNatClampNeg (some q46)) (20 : Int32).toNatClampNeg (some q48)) (21 : Int32).toNatClampNeg (some q50)) (22 : Int32).toNatClampNeg (some q52))))))), (q52, .inr (4, [.ref q53])), (q54, .inr (4, [.null]))] := hD
  refine W.widen (k := 57) (n := 525) (Nat.le_of_ble_eq_true rfl) (Nat.le_of_ble_eq_true rfl) ?_
  refine lv_dup hx hb dX3_init_104 rfl ?_
  have hPc := hP.sub (ws' := [(q54, .inr (4, [.null]))]) [3] rfl
  have hDc := hD.sub (ws' := [(q54, .inr (4, [.null]))]) [3] (by decide) rfl
  have hKc := hK.sub (tys' := []) [] rfl
  have hFc := va_free (wc := [(q54, .inr (4, [.null]))]) hD hS hA [3] rfl
  refine va_callv (va_runIN (As := []) (rest := [.ref q54, .int 23, .ref q1]) ⟨hx, hb, hml, hown, hts⟩ (c_X1_init_2 l dC dI q54 H.size  ) ⟨va_cnB (host := "Seekwell") 0 hts gX3_init_X1_init_n31 rfl rfl rfl (hN.1 (RX3, 31, yX1_init, "Seekwell") (by decide +kernel)) (hts (.initialized RX1) (by decide +kernel)) (by decide +kernel) ⟨Nat.le_of_ble_eq_true rfl, Nat.le_of_ble_eq_true rfl⟩, rfl, hts (.instanceMethod yX1_init) (by decide +kernel)⟩ ⟨zB_blind, (zPre hPc hDc hKc hS hFc hZ hN)⟩ rfl rfl hl.1 rfl (lv_room (Nat.le_of_ble_eq_true rfl)) dX3_init_105 ⟨Nat.le_of_ble_eq_true rfl, Nat.le_of_ble_eq_true rfl⟩) hS (fun q _ h => hFc q h) hFc (fun u t H1 locs ht hvm hw hB hz1 hk1 hS => ?_)
  obtain ⟨q55, hP1, hK1, hD1⟩ := hB
  rw [ht] at hP1
  have hK1 := va_K.moved hvm.symm hK1
  obtain ⟨hP, hD⟩ := va_join (wr := [(q0, .inr (6, [.ref q1, .ref q2, .ref q3, .ref q4, .int 0, .ref q5, .ref q6, .ref q7, .int 0, .int 0])), (q1, .inl (k0, 24, .inr (.inr (.inr (.inr (va_up (va_up (va_up (va_up (va_up (va_up (va_up (va_up (va_up (va_up (va_up (va_up (va_up (va_up (va_up (va_up (va_up (va_up (va_up (va_up (va_up (va_up (va_up (fun _ => none) (0 : Int32).toNatClampNeg (some q8)) (1 : Int32).toNatClampNeg (some q10)) (2 : Int32).toNatClampNeg (some q12)) (3 : Int32).toNatClampNeg (some q14)) (4 : Int32).toNatClampNeg (some q16)) (5 : Int32).toNatClampNeg (some q18)) (6 : Int32).toNatClampNeg (some q20)) (7 : Int32).toNatClampNeg (some q22)) (8 : Int32).toNatClampNeg (some q24)) (9 : Int32).toNatClampNeg (some q26)) (10 : Int32).toNatClampNeg (some q28)) (11 : Int32).toNatClampNeg (some q30)) (12 : Int32).toNatClampNeg (some q32)) (13 : Int32).toNatClampNeg (some q34)) (14 : Int32).toNatClampNeg (some q36)) (15 : Int32).toNatClampNeg (some q38)) (16 : Int32).toNatClampNeg (some q40)) (17 : Int32).toNatClampNeg (some q42)) (18 : Int32).toNatClampNeg (some q44)) (19 : Int32).toNatClampNeg (some q46)) (20 : Int32).toNatClampNeg (some q48)) (21 : Int32).toNatClampNeg (some q50)) (22 : Int32).toNatClampNeg (some q52)))))))]) (w1 := [(q54, .inr (4, [.ref q55]))]) hP hD [3] [0, 1] rfl rfl (by decide) (by decide) hk1 hFc hP1 hD1
  have hK := (hK.sub (tys' := [(k0, (.object "Seekwell$Big"))]) [0] rfl).app hK1
  generalize H1 = H at hP hS ⊢
  have hP : va_P (dC, dI) vwCl [(q0, .inr (6, [.ref q1, .ref q2, .ref q3, .ref q4, .int 0, .ref q5, .ref q6, .ref q7, .int 0, .int 0])), (q1, .inl (k0, 24, .inr (.inr (.inr (.inr (va_up (va_up (va_up (va_up (va_up (va_up (va_up (va_up (va_up (va_up (va_up (va_up (va_up (va_up (va_up (va_up (va_up (va_up (va_up (va_up (va_up (va_up (va_up (fun _ => none) (0 : Int32).toNatClampNeg (some q8)) (1 : Int32).toNatClampNeg (some q10)) (2 : Int32).toNatClampNeg (some q12)) (3 : Int32).toNatClampNeg (some q14)) (4 : Int32).toNatClampNeg (some q16)) (5 : Int32).toNatClampNeg (some q18)) (6 : Int32).toNatClampNeg (some q20)) (7 : Int32).toNatClampNeg (some q22)) (8 : Int32).toNatClampNeg (some q24)) (9 : Int32).toNatClampNeg (some q26)) (10 : Int32).toNatClampNeg (some q28)) (11 : Int32).toNatClampNeg (some q30)) (12 : Int32).toNatClampNeg (some q32)) (13 : Int32).toNatClampNeg (some q34)) (14 : Int32).toNatClampNeg (some q36)) (15 : Int32).toNatClampNeg (some q38)) (16 : Int32).toNatClampNeg (some q40)) (17 : Int32).toNatClampNeg (some q42)) (18 : Int32).toNatClampNeg (some q44)) (19 : Int32).toNatClampNeg (some q46)) (20 : Int32).toNatClampNeg (some q48)) (21 : Int32).toNatClampNeg (some q50)) (22 : Int32).toNatClampNeg (some q52))))))), (q54, .inr (4, [.ref q55]))] H := hP
  have hD : va_D A [(q0, .inr (6, [.ref q1, .ref q2, .ref q3, .ref q4, .int 0, .ref q5, .ref q6, .ref q7, .int 0, .int 0])), (q1, .inl (k0, 24, .inr (.inr (.inr (.inr (va_up (va_up (va_up (va_up (va_up (va_up (va_up (va_up (va_up (va_up (va_up (va_up (va_up (va_up (va_up (va_up (va_up (va_up (va_up (va_up (va_up (va_up (va_up (fun _ => none) (0 : Int32).toNatClampNeg (some q8)) (1 : Int32).toNatClampNeg (some q10)) (2 : Int32).toNatClampNeg (some q12)) (3 : Int32).toNatClampNeg (some q14)) (4 : Int32).toNatClampNeg (some q16)) (5 : Int32).toNatClampNeg (some q18)) (6 : Int32).toNatClampNeg (some q20)) (7 : Int32).toNatClampNeg (some q22)) (8 : Int32).toNatClampNeg (some q24)) (9 : Int32).toNatClampNeg (some q26)) (10 : Int32).toNatClampNeg (some q28)) (11 : Int32).toNatClampNeg (some q30)) (12 : Int32).toNatClampNeg (some q32)) (13 : Int32).toNatClampNeg (some q34)) (14 : Int32).toNatClampNeg (some q36)) (15 : Int32).toNatClampNeg (some q38)) (16 : Int32).toNatClampNeg (some q40)) (17 : Int32).toNatClampNeg (some q42)) (18 : Int32).toNatClampNeg (some q44)) (19 : Int32).toNatClampNeg (some q46)) (20 : Int32).toNatClampNeg (some q48)) (21 : Int32).toNatClampNeg (some q50)) (22 : Int32).toNatClampNeg (some q52))))))), (q54, .inr (4, [.ref q55]))] := hD
  have hK : va_K (dC, dI) vwCl [(k0, (.object "Seekwell$Big"))] s := hK
  refine W.widen (k := 58) (n := 541) (Nat.le_of_ble_eq_true rfl) (Nat.le_of_ble_eq_true rfl) ?_
  refine va_astq (D := (dC, dI)) hx hb hK hP hD hS 1 0 2 4 rfl rfl rfl rfl (i := 23) (zin (by decide +kernel)) dX3_init_108 (fun H locs hP hD hS => ?_)
  have hP : va_P (dC, dI) vwCl [(q0, .inr (6, [.ref q1, .ref q2, .ref q3, .ref q4, .int 0, .ref q5, .ref q6, .ref q7, .int 0, .int 0])), (q1, .inl (k0, 24, .inr (.inr (.inr (.inr (va_up (va_up (va_up (va_up (va_up (va_up (va_up (va_up (va_up (va_up (va_up (va_up (va_up (va_up (va_up (va_up (va_up (va_up (va_up (va_up (va_up (va_up (va_up (va_up (fun _ => none) (0 : Int32).toNatClampNeg (some q8)) (1 : Int32).toNatClampNeg (some q10)) (2 : Int32).toNatClampNeg (some q12)) (3 : Int32).toNatClampNeg (some q14)) (4 : Int32).toNatClampNeg (some q16)) (5 : Int32).toNatClampNeg (some q18)) (6 : Int32).toNatClampNeg (some q20)) (7 : Int32).toNatClampNeg (some q22)) (8 : Int32).toNatClampNeg (some q24)) (9 : Int32).toNatClampNeg (some q26)) (10 : Int32).toNatClampNeg (some q28)) (11 : Int32).toNatClampNeg (some q30)) (12 : Int32).toNatClampNeg (some q32)) (13 : Int32).toNatClampNeg (some q34)) (14 : Int32).toNatClampNeg (some q36)) (15 : Int32).toNatClampNeg (some q38)) (16 : Int32).toNatClampNeg (some q40)) (17 : Int32).toNatClampNeg (some q42)) (18 : Int32).toNatClampNeg (some q44)) (19 : Int32).toNatClampNeg (some q46)) (20 : Int32).toNatClampNeg (some q48)) (21 : Int32).toNatClampNeg (some q50)) (22 : Int32).toNatClampNeg (some q52)) (23 : Int32).toNatClampNeg (some q54))))))), (q54, .inr (4, [.ref q55]))] H := hP
  have hD : va_D A [(q0, .inr (6, [.ref q1, .ref q2, .ref q3, .ref q4, .int 0, .ref q5, .ref q6, .ref q7, .int 0, .int 0])), (q1, .inl (k0, 24, .inr (.inr (.inr (.inr (va_up (va_up (va_up (va_up (va_up (va_up (va_up (va_up (va_up (va_up (va_up (va_up (va_up (va_up (va_up (va_up (va_up (va_up (va_up (va_up (va_up (va_up (va_up (va_up (fun _ => none) (0 : Int32).toNatClampNeg (some q8)) (1 : Int32).toNatClampNeg (some q10)) (2 : Int32).toNatClampNeg (some q12)) (3 : Int32).toNatClampNeg (some q14)) (4 : Int32).toNatClampNeg (some q16)) (5 : Int32).toNatClampNeg (some q18)) (6 : Int32).toNatClampNeg (some q20)) (7 : Int32).toNatClampNeg (some q22)) (8 : Int32).toNatClampNeg (some q24)) (9 : Int32).toNatClampNeg (some q26)) (10 : Int32).toNatClampNeg (some q28)) (11 : Int32).toNatClampNeg (some q30)) (12 : Int32).toNatClampNeg (some q32)) (13 : Int32).toNatClampNeg (some q34)) (14 : Int32).toNatClampNeg (some q36)) (15 : Int32).toNatClampNeg (some q38)) (16 : Int32).toNatClampNeg (some q40)) (17 : Int32).toNatClampNeg (some q42)) (18 : Int32).toNatClampNeg (some q44)) (19 : Int32).toNatClampNeg (some q46)) (20 : Int32).toNatClampNeg (some q48)) (21 : Int32).toNatClampNeg (some q50)) (22 : Int32).toNatClampNeg (some q52)) (23 : Int32).toNatClampNeg (some q54))))))), (q54, .inr (4, [.ref q55]))] := hD
  refine lv_iinc (v := 24) (lv' := [(1, .int 24), (0, .ref q0)]) hx hb dX3_init_109 hl (k := 0) rfl (by decide +kernel) (by decide) rfl (fun ls hl => ?_)
  refine lv_goto (tgt := 87) hx hb dX3_init_112 (by decide) ?_
  refine lv_iload_n hx hb dX3_init_87 rfl (lv_at hl 0 rfl) ?_
  refine lv_aload_n hx hb dX3_init_88 rfl (lv_at hl 1 rfl) ?_
  refine va_get (D := (dC, dI)) (ci := 6) (v := .ref q1) (C := RX3) (T := TX3) (N := 10) hx hb hts (fun _ h => List.mem_cons_of_mem _ (List.mem_append_left _ (List.mem_append_right _ h))) hown hK hP 0 rfl rfl 0 (by decide) (hts (.fieldLink RX3 11 "Seekwell$Finder" "worths" "[LSeekwell$Big;") (by decide +kernel)) (fun _ h9 => h9) rfl dX3_init_89 ?_
  refine va_alen (D := (dC, dI)) (v := 24) hx hb hK hP 1 0 rfl rfl (show Int32.ofNat 24 = 24 by decide +kernel) dX3_init_92 ?_
  refine lv_icmp_ge (tgt := 115) hx hb dX3_init_93 (by decide) (fun _ => ?_) (fun h9 => absurd (show (24 : Int32) ≤ (24 : Int32) by decide +kernel) h9)
  have hP9 := hP.sub (ws' := []) [] rfl
  have hD9 := hD.sub (ws' := []) [] (by decide) rfl
  have hK9 := hK.sub (tys' := []) [] rfl
  exact W.vret hx hb hr (fun t ht hW => ⟨⟨(), rfl, trivial, ⟨by rw [ht]; exact hP9, va_K.moved hW.alike hK9, hD9⟩⟩, hS.F ht⟩) hS.2.2 dX3_init_115
