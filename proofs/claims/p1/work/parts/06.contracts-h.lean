/-! contracts, written by program -/
set_option maxHeartbeats 4000000 in
set_option maxRecDepth 100000 in
theorem c_X6_clear (l : Launch) (dC : Nat → ClassId) (dI : Nat → Nat → Nat) (q0 q1 : Nat) (sz : Nat) : Met l yX6_clear wsX6_clear ({ frames := 0, cells := 0, slots := 0, locals := 0 }) (va_Pc [.ref q0] (zB (dC, dI) [] [(q0, .inr (9, [.ref q1, .ref q1, .null]))] sz)) (va_Qv (fun (_ : Unit) => True) (fun _ t => zE (dC, dI) [] [(q0, .inr (9, [.ref q1, .ref q1, .null]))] (va_A [(q0, .inr (9, [.ref q1, .ref q1, .null]))] sz) t) (va_A [(q0, .inr (9, [.ref q1, .ref q1, .null]))] sz)) 0 0 (va_A [(q0, .inr (9, [.ref q1, .ref q1, .null]))] sz) := by
  refine Met.ofW (cc := cX6_clear) (maxL := 1) (ret := none) (by decide) rfl ?_
  intro p e s m args below meth c s₁ B hml hv
  obtain ⟨rfl, hsz, hP, hK, hD0, hZ, hN⟩ := hv
  have hx := B.exec
  have hb := B.bytes
  have hr := B.returns
  have hts := atoms_spec (ws := wsX6_clear) B.pre
  have hown : s.vm.findClass RX6 = some m.cls := findClass_of_methodNamed B.named
  have hlocks := B.notSynchronized
  subst hsz
  have hD := hD0.self (sz := s.heap.size)
  generalize hAe : va_A [(q0, .inr (9, [.ref q1, .ref q1, .null]))] s.heap.size = A at hD hZ ⊢
  have hA : ∀ q : Nat, s.heap.size ≤ q → A q := fun q h => by rw [← hAe]; exact Or.inr h
  have hS : va_S A s.heap s.heap [] := va_S.rf
  have hP : va_P (dC, dI) vwCl [(q0, .inr (9, [.ref q1, .ref q1, .null]))] s.heap := hP
  have hl := lv_entry ([.ref q0]) (n := 1) (Nat.le_of_ble_eq_true rfl)
  rw [lg_entry_eq]
  generalize (lg_sl ([.ref q0]) ++ List.replicate (1 - (lg_sl ([.ref q0])).length) Slot.unset).toArray = ls at hl ⊢
  have hl : lv_has ls 1 [(0, .ref q0)] := hl
  refine lv_aload_n hx hb dX6_clear_0 rfl (lv_at hl 0 rfl) ?_
  refine lv_aload_n hx hb dX6_clear_1 rfl (lv_at hl 0 rfl) ?_
  refine va_get (D := (dC, dI)) (ci := 9) (v := .ref q1) (C := RX6) (T := TX6) (N := 3) hx hb hts (fun _ h => List.mem_cons_of_mem _ (List.mem_append_right _ h)) hown hK hP 0 rfl rfl 0 (by decide) (hts (.fieldLink RX6 10 "Seekwell$Question" "pool" "LSeekwell$Node;") (by decide +kernel)) (fun _ h9 => h9) rfl dX6_clear_2 ?_
  refine va_put (D := (dC, dI)) (ci := 9) (v := .ref q1) (ty := (.object "Seekwell$Node")) (C := RX6) (T := TX6) (N := 3) hx hb hts (fun _ h => List.mem_cons_of_mem _ (List.mem_append_right _ h)) tyX6 tyX6_ok nmX6 hown hK hP hD hS 0 rfl rfl 1 (by decide) (hts (.fieldLink RX6 16 "Seekwell$Question" "newest" "LSeekwell$Node;") (by decide +kernel)) (fun _ h9 => h9) rfl (by decide +kernel) rfl rfl (Nat.le_of_ble_eq_true rfl) dX6_clear_5 (fun H locs hP hD hS => ?_)
  have hP : va_P (dC, dI) vwCl [(q0, .inr (9, [.ref q1, .ref q1, .null]))] H := hP
  have hD : va_D A [(q0, .inr (9, [.ref q1, .ref q1, .null]))] := hD
  refine lv_aload_n hx hb dX6_clear_8 rfl (lv_at hl 0 rfl) ?_
  refine lv_null hx hb dX6_clear_9 ?_
  refine va_put (D := (dC, dI)) (ci := 9) (v := .null) (ty := (.object "Seekwell$Node")) (C := RX6) (T := TX6) (N := 3) hx hb hts (fun _ h => List.mem_cons_of_mem _ (List.mem_append_right _ h)) tyX6 tyX6_ok nmX6 hown hK hP hD hS 0 rfl rfl 2 (by decide) (hts (.fieldLink RX6 19 "Seekwell$Question" "root" "LSeekwell$Node;") (by decide +kernel)) (fun _ h9 => h9) rfl (by decide +kernel) rfl rfl (Nat.le_of_ble_eq_true rfl) dX6_clear_10 (fun H locs hP hD hS => ?_)
  have hP : va_P (dC, dI) vwCl [(q0, .inr (9, [.ref q1, .ref q1, .null]))] H := hP
  have hD : va_D A [(q0, .inr (9, [.ref q1, .ref q1, .null]))] := hD
  have hP9 := hP.sub (ws' := [(q0, .inr (9, [.ref q1, .ref q1, .null]))]) [0] rfl
  have hD9 := hD.sub (ws' := [(q0, .inr (9, [.ref q1, .ref q1, .null]))]) [0] (by decide) rfl
  have hK9 := hK.sub (tys' := []) [] rfl
  exact W.vret hx hb hr (fun t ht hW => ⟨⟨(), rfl, trivial, ⟨by rw [ht]; exact hP9, va_K.moved hW.alike hK9, hD9⟩⟩, hS.F ht⟩) hS.2.2 dX6_clear_13
set_option maxHeartbeats 4000000 in
set_option maxRecDepth 100000 in
theorem c_X5_init_3 (l : Launch) (dC : Nat → ClassId) (dI : Nat → Nat → Nat) (q0 : Nat) (sz : Nat) : Met l yX5_init wsX5_init ({ frames := 2, cells := 2, slots := 6, locals := 40 }) (va_Pc [.ref q0] (zB (dC, dI) [] [(q0, .inr (8, [.int 0, .int 0, .int 0, .int 0, .int 0, .int 0, .null, .null, .null, .null, .null, .int 0, .int 0, .int 0, .int 0, .null, .null]))] sz)) (va_Qv (fun (_ : Unit) => True) (fun _ t => ∃ q1 : Nat, ∃ q2 : Nat, zE (dC, dI) [] [(q0, .inr (8, [.int 0, .int 0, .int 1, .int 0, .int 0, .int 0, .ref q1, .null, .null, .null, .null, .int 0, .int 0, .int 0, .int 0, .null, .null])), (q1, .inr (10, [.ref q2, .int 0]))] (va_A [(q0, .inr (8, [.int 0, .int 0, .int 0, .int 0, .int 0, .int 0, .null, .null, .null, .null, .null, .int 0, .int 0, .int 0, .int 0, .null, .null]))] sz) t) (va_A [(q0, .inr (8, [.int 0, .int 0, .int 0, .int 0, .int 0, .int 0, .null, .null, .null, .null, .null, .int 0, .int 0, .int 0, .int 0, .null, .null]))] sz)) 2 6 (va_A [(q0, .inr (8, [.int 0, .int 0, .int 0, .int 0, .int 0, .int 0, .null, .null, .null, .null, .null, .int 0, .int 0, .int 0, .int 0, .null, .null]))] sz) := by
  refine Met.ofW (cc := cX5_init) (maxL := 1) (ret := none) (by decide) rfl ?_
  intro p e s m args below meth c s₁ B hml hv
  obtain ⟨rfl, hsz, hP, hK, hD0, hZ, hN⟩ := hv
  have hx := B.exec
  have hb := B.bytes
  have hr := B.returns
  have hts := atoms_spec (ws := wsX5_init) B.pre
  have hown : s.vm.findClass RX5 = some m.cls := findClass_of_methodNamed B.named
  have hlocks := B.notSynchronized
  have hin : meth.name = "<init>" := (name_of_methodNamed B.named B.method).1
  subst hsz
  have hD := hD0.self (sz := s.heap.size)
  generalize hAe : va_A [(q0, .inr (8, [.int 0, .int 0, .int 0, .int 0, .int 0, .int 0, .null, .null, .null, .null, .null, .int 0, .int 0, .int 0, .int 0, .null, .null]))] s.heap.size = A at hD hZ ⊢
  have hA : ∀ q : Nat, s.heap.size ≤ q → A q := fun q h => by rw [← hAe]; exact Or.inr h
  have hS : va_S A s.heap s.heap [] := va_S.rf
  have hP : va_P (dC, dI) vwCl [(q0, .inr (8, [.int 0, .int 0, .int 0, .int 0, .int 0, .int 0, .null, .null, .null, .null, .null, .int 0, .int 0, .int 0, .int 0, .null, .null]))] s.heap := hP
  have hl := lv_entry ([.ref q0]) (n := 1) (Nat.le_of_ble_eq_true rfl)
  rw [lg_entry_eq]
  generalize (lg_sl ([.ref q0]) ++ List.replicate (1 - (lg_sl ([.ref q0])).length) Slot.unset).toArray = ls at hl ⊢
  have hl : lv_has ls 1 [(0, .ref q0)] := hl
  refine lv_aload_n hx hb dX5_init_0 rfl (lv_at hl 0 rfl) ?_
  refine z_objInit hx hb hown (hts (.methodLink RX5 1 objectInit) (by decide +kernel)) (hts (.instanceMethod objectInit) (by decide +kernel)) (hts (.code objectInit ⟨#[0xb1]⟩ 1 none) (by decide +kernel)) (hl.1.trans hml.symm) dX5_init_1 (Nat.le_of_ble_eq_true rfl) (Nat.le_of_ble_eq_true rfl) ?_
  refine lv_aload_n hx hb dX5_init_4 rfl (lv_at hl 0 rfl) ?_
  refine lv_iconst (v := 0) hx hb dX5_init_5 (by decide +kernel) ?_
  refine va_put (D := (dC, dI)) (ci := 8) (v := .int 0) (ty := .int) (C := RX5) (T := TX5) (N := 17) hx hb hts (fun _ h => List.mem_cons_of_mem _ (List.mem_append_left _ (List.mem_append_right _ h))) tyX5 tyX5_ok nmX5 hown hK hP hD hS 0 rfl rfl 0 (by decide) (hts (.fieldLink RX5 9 "Seekwell$Node" "kind" "I") (by decide +kernel)) (fun _ h9 => h9) rfl (by decide +kernel) rfl rfl (Nat.le_of_ble_eq_true rfl) dX5_init_6 (fun H locs hP hD hS => ?_)
  have hP : va_P (dC, dI) vwCl [(q0, .inr (8, [.int 0, .int 0, .int 0, .int 0, .int 0, .int 0, .null, .null, .null, .null, .null, .int 0, .int 0, .int 0, .int 0, .null, .null]))] H := hP
  have hD : va_D A [(q0, .inr (8, [.int 0, .int 0, .int 0, .int 0, .int 0, .int 0, .null, .null, .null, .null, .null, .int 0, .int 0, .int 0, .int 0, .null, .null]))] := hD
  refine lv_aload_n hx hb dX5_init_9 rfl (lv_at hl 0 rfl) ?_
  refine lv_iconst (v := 0) hx hb dX5_init_10 (by decide +kernel) ?_
  refine va_put (D := (dC, dI)) (ci := 8) (v := .int 0) (ty := .boolean) (C := RX5) (T := TX5) (N := 17) hx hb hts (fun _ h => List.mem_cons_of_mem _ (List.mem_append_left _ (List.mem_append_right _ h))) tyX5 tyX5_ok nmX5 hown hK hP hD hS 0 rfl rfl 1 (by decide) (hts (.fieldLink RX5 13 "Seekwell$Node" "isNot" "Z") (by decide +kernel)) (fun _ h9 => h9) rfl (by decide +kernel) rfl rfl (Nat.le_of_ble_eq_true rfl) dX5_init_11 (fun H locs hP hD hS => ?_)
  have hP : va_P (dC, dI) vwCl [(q0, .inr (8, [.int 0, .int 0, .int 0, .int 0, .int 0, .int 0, .null, .null, .null, .null, .null, .int 0, .int 0, .int 0, .int 0, .null, .null]))] H := hP
  have hD : va_D A [(q0, .inr (8, [.int 0, .int 0, .int 0, .int 0, .int 0, .int 0, .null, .null, .null, .null, .null, .int 0, .int 0, .int 0, .int 0, .null, .null]))] := hD
  refine lv_aload_n hx hb dX5_init_14 rfl (lv_at hl 0 rfl) ?_
  refine lv_iconst (v := 1) hx hb dX5_init_15 (by decide +kernel) ?_
  refine va_put (D := (dC, dI)) (ci := 8) (v := .int 1) (ty := .int) (C := RX5) (T := TX5) (N := 17) hx hb hts (fun _ h => List.mem_cons_of_mem _ (List.mem_append_left _ (List.mem_append_right _ h))) tyX5 tyX5_ok nmX5 hown hK hP hD hS 0 rfl rfl 2 (by decide) (hts (.fieldLink RX5 17 "Seekwell$Node" "weight" "I") (by decide +kernel)) (fun _ h9 => h9) rfl (by decide +kernel) rfl rfl (Nat.le_of_ble_eq_true rfl) dX5_init_16 (fun H locs hP hD hS => ?_)
  have hP : va_P (dC, dI) vwCl [(q0, .inr (8, [.int 0, .int 0, .int 1, .int 0, .int 0, .int 0, .null, .null, .null, .null, .null, .int 0, .int 0, .int 0, .int 0, .null, .null]))] H := hP
  have hD : va_D A [(q0, .inr (8, [.int 0, .int 0, .int 1, .int 0, .int 0, .int 0, .null, .null, .null, .null, .null, .int 0, .int 0, .int 0, .int 0, .null, .null]))] := hD
  refine lv_aload_n hx hb dX5_init_19 rfl (lv_at hl 0 rfl) ?_
  refine lv_iconst (v := 0) hx hb dX5_init_20 (by decide +kernel) ?_
  refine va_put (D := (dC, dI)) (ci := 8) (v := .int 0) (ty := .int) (C := RX5) (T := TX5) (N := 17) hx hb hts (fun _ h => List.mem_cons_of_mem _ (List.mem_append_left _ (List.mem_append_right _ h))) tyX5 tyX5_ok nmX5 hown hK hP hD hS 0 rfl rfl 3 (by decide) (hts (.fieldLink RX5 20 "Seekwell$Node" "where" "I") (by decide +kernel)) (fun _ h9 => h9) rfl (by decide +kernel) rfl rfl (Nat.le_of_ble_eq_true rfl) dX5_init_21 (fun H locs hP hD hS => ?_)
  have hP : va_P (dC, dI) vwCl [(q0, .inr (8, [.int 0, .int 0, .int 1, .int 0, .int 0, .int 0, .null, .null, .null, .null, .null, .int 0, .int 0, .int 0, .int 0, .null, .null]))] H := hP
  have hD : va_D A [(q0, .inr (8, [.int 0, .int 0, .int 1, .int 0, .int 0, .int 0, .null, .null, .null, .null, .null, .int 0, .int 0, .int 0, .int 0, .null, .null]))] := hD
  refine lv_aload_n hx hb dX5_init_24 rfl (lv_at hl 0 rfl) ?_
  refine lv_iconst (v := 0) hx hb dX5_init_25 (by decide +kernel) ?_
  refine va_put (D := (dC, dI)) (ci := 8) (v := .int 0) (ty := .int) (C := RX5) (T := TX5) (N := 17) hx hb hts (fun _ h => List.mem_cons_of_mem _ (List.mem_append_left _ (List.mem_append_right _ h))) tyX5 tyX5_ok nmX5 hown hK hP hD hS 0 rfl rfl 4 (by decide) (hts (.fieldLink RX5 23 "Seekwell$Node" "low" "I") (by decide +kernel)) (fun _ h9 => h9) rfl (by decide +kernel) rfl rfl (Nat.le_of_ble_eq_true rfl) dX5_init_26 (fun H locs hP hD hS => ?_)
  have hP : va_P (dC, dI) vwCl [(q0, .inr (8, [.int 0, .int 0, .int 1, .int 0, .int 0, .int 0, .null, .null, .null, .null, .null, .int 0, .int 0, .int 0, .int 0, .null, .null]))] H := hP
  have hD : va_D A [(q0, .inr (8, [.int 0, .int 0, .int 1, .int 0, .int 0, .int 0, .null, .null, .null, .null, .null, .int 0, .int 0, .int 0, .int 0, .null, .null]))] := hD
  refine lv_aload_n hx hb dX5_init_29 rfl (lv_at hl 0 rfl) ?_
  refine lv_iconst (v := 0) hx hb dX5_init_30 (by decide +kernel) ?_
  refine va_put (D := (dC, dI)) (ci := 8) (v := .int 0) (ty := .int) (C := RX5) (T := TX5) (N := 17) hx hb hts (fun _ h => List.mem_cons_of_mem _ (List.mem_append_left _ (List.mem_append_right _ h))) tyX5 tyX5_ok nmX5 hown hK hP hD hS 0 rfl rfl 5 (by decide) (hts (.fieldLink RX5 26 "Seekwell$Node" "high" "I") (by decide +kernel)) (fun _ h9 => h9) rfl (by decide +kernel) rfl rfl (Nat.le_of_ble_eq_true rfl) dX5_init_31 (fun H locs hP hD hS => ?_)
  have hP : va_P (dC, dI) vwCl [(q0, .inr (8, [.int 0, .int 0, .int 1, .int 0, .int 0, .int 0, .null, .null, .null, .null, .null, .int 0, .int 0, .int 0, .int 0, .null, .null]))] H := hP
  have hD : va_D A [(q0, .inr (8, [.int 0, .int 0, .int 1, .int 0, .int 0, .int 0, .null, .null, .null, .null, .null, .int 0, .int 0, .int 0, .int 0, .null, .null]))] := hD
  refine lv_aload_n hx hb dX5_init_34 rfl (lv_at hl 0 rfl) ?_
  refine va_new (D := (dC, dI)) (ci := 10) (fs := [.null, .int 0]) (C := RX7) (T := TX7) (N := 2) hx hb hts (fun _ h => List.mem_cons_of_mem _ (List.mem_append_right _ h)) tyX7 tyX7_ok hown (hts (.classLink RX5 29 RX7) (by decide +kernel)) (hts (.instantiable RX7 2) (by decide +kernel)) (hts (.initialized RX7) (by decide +kernel)) hK hP hD hS hA rfl (zfs (by decide)) (Nat.le_of_ble_eq_true rfl) (Nat.le_of_ble_eq_true rfl) dX5_init_35 (fun q1 H hP hD hS => ?_)
  have hP : va_P (dC, dI) vwCl [(q0, .inr (8, [.int 0, .int 0, .int 1, .int 0, .int 0, .int 0, .null, .null, .null, .null, .null, .int 0, .int 0, .int 0, .int 0, .null, .null])), (q1, .inr (10, [.null, .int 0]))] H := hP
  have hD : va_D A [(q0, .inr (8, [.int 0, .int 0, .int 1, .int 0, .int 0, .int 0, .null, .null, .null, .null, .null, .int 0, .int 0, .int 0, .int 0, .null, .null])), (q1, .inr (10, [.null, .int 0]))] := hD
  refine W.widen (k := 1) (n := 2) (Nat.le_of_ble_eq_true rfl) (Nat.le_of_ble_eq_true rfl) ?_
  refine lv_dup hx hb dX5_init_38 rfl ?_
  have hPc := hP.sub (ws' := [(q1, .inr (10, [.null, .int 0]))]) [1] rfl
  have hDc := hD.sub (ws' := [(q1, .inr (10, [.null, .int 0]))]) [1] (by decide) rfl
  have hKc := hK.sub (tys' := []) [] rfl
  have hFc := va_free (wc := [(q1, .inr (10, [.null, .int 0]))]) hD hS hA [1] rfl
  refine va_callv (va_runIN (As := []) (rest := [.ref q1, .ref q0]) ⟨hx, hb, hml, hown, hts⟩ (c_X7_init l dC dI q1 H.size  ) ⟨va_cnB (host := "Seekwell") 0 hts gX5_init_X7_init_n31 rfl rfl rfl (hN.1 (RX5, 31, yX7_init, "Seekwell") (by decide +kernel)) (hts (.initialized RX7) (by decide +kernel)) (by decide +kernel) ⟨Nat.le_of_ble_eq_true rfl, Nat.le_of_ble_eq_true rfl⟩, rfl, hts (.instanceMethod yX7_init) (by decide +kernel)⟩ ⟨zB_blind, (zPre hPc hDc hKc hS hFc hZ hN)⟩ rfl rfl hl.1 rfl (lv_room (Nat.le_of_ble_eq_true rfl)) dX5_init_39 ⟨Nat.le_of_ble_eq_true rfl, Nat.le_of_ble_eq_true rfl⟩) hS (fun q _ h => hFc q h) hFc (fun u t H1 locs ht hvm hw hB hz1 hk1 hS => ?_)
  obtain ⟨q2, hP1, hK1, hD1⟩ := hB
  rw [ht] at hP1
  have hK1 := va_K.moved hvm.symm hK1
  obtain ⟨hP, hD⟩ := va_join (wr := [(q0, .inr (8, [.int 0, .int 0, .int 1, .int 0, .int 0, .int 0, .null, .null, .null, .null, .null, .int 0, .int 0, .int 0, .int 0, .null, .null]))]) (w1 := [(q1, .inr (10, [.ref q2, .int 0]))]) hP hD [1] [0] rfl rfl (by decide) (by decide) hk1 hFc hP1 hD1
  have hK := (hK.sub (tys' := []) [] rfl).app hK1
  generalize H1 = H at hP hS ⊢
  have hP : va_P (dC, dI) vwCl [(q0, .inr (8, [.int 0, .int 0, .int 1, .int 0, .int 0, .int 0, .null, .null, .null, .null, .null, .int 0, .int 0, .int 0, .int 0, .null, .null])), (q1, .inr (10, [.ref q2, .int 0]))] H := hP
  have hD : va_D A [(q0, .inr (8, [.int 0, .int 0, .int 1, .int 0, .int 0, .int 0, .null, .null, .null, .null, .null, .int 0, .int 0, .int 0, .int 0, .null, .null])), (q1, .inr (10, [.ref q2, .int 0]))] := hD
  have hK : va_K (dC, dI) vwCl [] s := hK
  refine W.widen (k := 2) (n := 6) (Nat.le_of_ble_eq_true rfl) (Nat.le_of_ble_eq_true rfl) ?_
  refine va_putF (D := (dC, dI)) (ci := 8) (v := .ref q1) (ty := (.object "Seekwell$Row")) (C := RX5) (T := TX5) (N := 17) hx hb hts (fun _ h => List.mem_cons_of_mem _ (List.mem_append_left _ (List.mem_append_right _ h))) tyX5 tyX5_ok nmX5 hown hK hP hD hS 0 rfl rfl 6 (by decide) (hts (.fieldLink RX5 32 "Seekwell$Node" "row" "LSeekwell$Row;") (by decide +kernel)) (fun _ h9 => h9) rfl hin rfl (by decide +kernel) rfl rfl (Nat.le_of_ble_eq_true rfl) dX5_init_42 (fun H locs hP hD hS => ?_)
  have hP : va_P (dC, dI) vwCl [(q0, .inr (8, [.int 0, .int 0, .int 1, .int 0, .int 0, .int 0, .ref q1, .null, .null, .null, .null, .int 0, .int 0, .int 0, .int 0, .null, .null])), (q1, .inr (10, [.ref q2, .int 0]))] H := hP
  have hD : va_D A [(q0, .inr (8, [.int 0, .int 0, .int 1, .int 0, .int 0, .int 0, .ref q1, .null, .null, .null, .null, .int 0, .int 0, .int 0, .int 0, .null, .null])), (q1, .inr (10, [.ref q2, .int 0]))] := hD
  refine lv_aload_n hx hb dX5_init_45 rfl (lv_at hl 0 rfl) ?_
  refine lv_null hx hb dX5_init_46 ?_
  refine va_put (D := (dC, dI)) (ci := 8) (v := .null) (ty := (.object "Seekwell$Node")) (C := RX5) (T := TX5) (N := 17) hx hb hts (fun _ h => List.mem_cons_of_mem _ (List.mem_append_left _ (List.mem_append_right _ h))) tyX5 tyX5_ok nmX5 hown hK hP hD hS 0 rfl rfl 7 (by decide) (hts (.fieldLink RX5 36 "Seekwell$Node" "parent" "LSeekwell$Node;") (by decide +kernel)) (fun _ h9 => h9) rfl (by decide +kernel) rfl rfl (Nat.le_of_ble_eq_true rfl) dX5_init_47 (fun H locs hP hD hS => ?_)
  have hP : va_P (dC, dI) vwCl [(q0, .inr (8, [.int 0, .int 0, .int 1, .int 0, .int 0, .int 0, .ref q1, .null, .null, .null, .null, .int 0, .int 0, .int 0, .int 0, .null, .null])), (q1, .inr (10, [.ref q2, .int 0]))] H := hP
  have hD : va_D A [(q0, .inr (8, [.int 0, .int 0, .int 1, .int 0, .int 0, .int 0, .ref q1, .null, .null, .null, .null, .int 0, .int 0, .int 0, .int 0, .null, .null])), (q1, .inr (10, [.ref q2, .int 0]))] := hD
  refine lv_aload_n hx hb dX5_init_50 rfl (lv_at hl 0 rfl) ?_
  refine lv_null hx hb dX5_init_51 ?_
  refine va_put (D := (dC, dI)) (ci := 8) (v := .null) (ty := (.object "Seekwell$Node")) (C := RX5) (T := TX5) (N := 17) hx hb hts (fun _ h => List.mem_cons_of_mem _ (List.mem_append_left _ (List.mem_append_right _ h))) tyX5 tyX5_ok nmX5 hown hK hP hD hS 0 rfl rfl 8 (by decide) (hts (.fieldLink RX5 40 "Seekwell$Node" "next" "LSeekwell$Node;") (by decide +kernel)) (fun _ h9 => h9) rfl (by decide +kernel) rfl rfl (Nat.le_of_ble_eq_true rfl) dX5_init_52 (fun H locs hP hD hS => ?_)
  have hP : va_P (dC, dI) vwCl [(q0, .inr (8, [.int 0, .int 0, .int 1, .int 0, .int 0, .int 0, .ref q1, .null, .null, .null, .null, .int 0, .int 0, .int 0, .int 0, .null, .null])), (q1, .inr (10, [.ref q2, .int 0]))] H := hP
  have hD : va_D A [(q0, .inr (8, [.int 0, .int 0, .int 1, .int 0, .int 0, .int 0, .ref q1, .null, .null, .null, .null, .int 0, .int 0, .int 0, .int 0, .null, .null])), (q1, .inr (10, [.ref q2, .int 0]))] := hD
  refine lv_aload_n hx hb dX5_init_55 rfl (lv_at hl 0 rfl) ?_
  refine lv_null hx hb dX5_init_56 ?_
  refine va_put (D := (dC, dI)) (ci := 8) (v := .null) (ty := (.object "Seekwell$Node")) (C := RX5) (T := TX5) (N := 17) hx hb hts (fun _ h => List.mem_cons_of_mem _ (List.mem_append_left _ (List.mem_append_right _ h))) tyX5 tyX5_ok nmX5 hown hK hP hD hS 0 rfl rfl 9 (by decide) (hts (.fieldLink RX5 43 "Seekwell$Node" "first" "LSeekwell$Node;") (by decide +kernel)) (fun _ h9 => h9) rfl (by decide +kernel) rfl rfl (Nat.le_of_ble_eq_true rfl) dX5_init_57 (fun H locs hP hD hS => ?_)
  have hP : va_P (dC, dI) vwCl [(q0, .inr (8, [.int 0, .int 0, .int 1, .int 0, .int 0, .int 0, .ref q1, .null, .null, .null, .null, .int 0, .int 0, .int 0, .int 0, .null, .null])), (q1, .inr (10, [.ref q2, .int 0]))] H := hP
  have hD : va_D A [(q0, .inr (8, [.int 0, .int 0, .int 1, .int 0, .int 0, .int 0, .ref q1, .null, .null, .null, .null, .int 0, .int 0, .int 0, .int 0, .null, .null])), (q1, .inr (10, [.ref q2, .int 0]))] := hD
  refine lv_aload_n hx hb dX5_init_60 rfl (lv_at hl 0 rfl) ?_
  refine lv_null hx hb dX5_init_61 ?_
  refine va_put (D := (dC, dI)) (ci := 8) (v := .null) (ty := (.object "Seekwell$Node")) (C := RX5) (T := TX5) (N := 17) hx hb hts (fun _ h => List.mem_cons_of_mem _ (List.mem_append_left _ (List.mem_append_right _ h))) tyX5 tyX5_ok nmX5 hown hK hP hD hS 0 rfl rfl 10 (by decide) (hts (.fieldLink RX5 46 "Seekwell$Node" "last" "LSeekwell$Node;") (by decide +kernel)) (fun _ h9 => h9) rfl (by decide +kernel) rfl rfl (Nat.le_of_ble_eq_true rfl) dX5_init_62 (fun H locs hP hD hS => ?_)
  have hP : va_P (dC, dI) vwCl [(q0, .inr (8, [.int 0, .int 0, .int 1, .int 0, .int 0, .int 0, .ref q1, .null, .null, .null, .null, .int 0, .int 0, .int 0, .int 0, .null, .null])), (q1, .inr (10, [.ref q2, .int 0]))] H := hP
  have hD : va_D A [(q0, .inr (8, [.int 0, .int 0, .int 1, .int 0, .int 0, .int 0, .ref q1, .null, .null, .null, .null, .int 0, .int 0, .int 0, .int 0, .null, .null])), (q1, .inr (10, [.ref q2, .int 0]))] := hD
  refine lv_aload_n hx hb dX5_init_65 rfl (lv_at hl 0 rfl) ?_
  refine lv_iconst (v := 0) hx hb dX5_init_66 (by decide +kernel) ?_
  refine va_put (D := (dC, dI)) (ci := 8) (v := .int 0) (ty := .int) (C := RX5) (T := TX5) (N := 17) hx hb hts (fun _ h => List.mem_cons_of_mem _ (List.mem_append_left _ (List.mem_append_right _ h))) tyX5 tyX5_ok nmX5 hown hK hP hD hS 0 rfl rfl 11 (by decide) (hts (.fieldLink RX5 49 "Seekwell$Node" "size" "I") (by decide +kernel)) (fun _ h9 => h9) rfl (by decide +kernel) rfl rfl (Nat.le_of_ble_eq_true rfl) dX5_init_67 (fun H locs hP hD hS => ?_)
  have hP : va_P (dC, dI) vwCl [(q0, .inr (8, [.int 0, .int 0, .int 1, .int 0, .int 0, .int 0, .ref q1, .null, .null, .null, .null, .int 0, .int 0, .int 0, .int 0, .null, .null])), (q1, .inr (10, [.ref q2, .int 0]))] H := hP
  have hD : va_D A [(q0, .inr (8, [.int 0, .int 0, .int 1, .int 0, .int 0, .int 0, .ref q1, .null, .null, .null, .null, .int 0, .int 0, .int 0, .int 0, .null, .null])), (q1, .inr (10, [.ref q2, .int 0]))] := hD
  refine lv_aload_n hx hb dX5_init_70 rfl (lv_at hl 0 rfl) ?_
  refine lv_iconst (v := 0) hx hb dX5_init_71 (by decide +kernel) ?_
  refine va_put (D := (dC, dI)) (ci := 8) (v := .int 0) (ty := .boolean) (C := RX5) (T := TX5) (N := 17) hx hb hts (fun _ h => List.mem_cons_of_mem _ (List.mem_append_left _ (List.mem_append_right _ h))) tyX5 tyX5_ok nmX5 hown hK hP hD hS 0 rfl rfl 12 (by decide) (hts (.fieldLink RX5 52 "Seekwell$Node" "isFit" "Z") (by decide +kernel)) (fun _ h9 => h9) rfl (by decide +kernel) rfl rfl (Nat.le_of_ble_eq_true rfl) dX5_init_72 (fun H locs hP hD hS => ?_)
  have hP : va_P (dC, dI) vwCl [(q0, .inr (8, [.int 0, .int 0, .int 1, .int 0, .int 0, .int 0, .ref q1, .null, .null, .null, .null, .int 0, .int 0, .int 0, .int 0, .null, .null])), (q1, .inr (10, [.ref q2, .int 0]))] H := hP
  have hD : va_D A [(q0, .inr (8, [.int 0, .int 0, .int 1, .int 0, .int 0, .int 0, .ref q1, .null, .null, .null, .null, .int 0, .int 0, .int 0, .int 0, .null, .null])), (q1, .inr (10, [.ref q2, .int 0]))] := hD
  refine lv_aload_n hx hb dX5_init_75 rfl (lv_at hl 0 rfl) ?_
  refine lv_iconst (v := 0) hx hb dX5_init_76 (by decide +kernel) ?_
  refine va_put (D := (dC, dI)) (ci := 8) (v := .int 0) (ty := .boolean) (C := RX5) (T := TX5) (N := 17) hx hb hts (fun _ h => List.mem_cons_of_mem _ (List.mem_append_left _ (List.mem_append_right _ h))) tyX5 tyX5_ok nmX5 hown hK hP hD hS 0 rfl rfl 13 (by decide) (hts (.fieldLink RX5 55 "Seekwell$Node" "isGone" "Z") (by decide +kernel)) (fun _ h9 => h9) rfl (by decide +kernel) rfl rfl (Nat.le_of_ble_eq_true rfl) dX5_init_77 (fun H locs hP hD hS => ?_)
  have hP : va_P (dC, dI) vwCl [(q0, .inr (8, [.int 0, .int 0, .int 1, .int 0, .int 0, .int 0, .ref q1, .null, .null, .null, .null, .int 0, .int 0, .int 0, .int 0, .null, .null])), (q1, .inr (10, [.ref q2, .int 0]))] H := hP
  have hD : va_D A [(q0, .inr (8, [.int 0, .int 0, .int 1, .int 0, .int 0, .int 0, .ref q1, .null, .null, .null, .null, .int 0, .int 0, .int 0, .int 0, .null, .null])), (q1, .inr (10, [.ref q2, .int 0]))] := hD
  refine lv_aload_n hx hb dX5_init_80 rfl (lv_at hl 0 rfl) ?_
  refine lv_iconst (v := 0) hx hb dX5_init_81 (by decide +kernel) ?_
  refine va_put (D := (dC, dI)) (ci := 8) (v := .int 0) (ty := .int) (C := RX5) (T := TX5) (N := 17) hx hb hts (fun _ h => List.mem_cons_of_mem _ (List.mem_append_left _ (List.mem_append_right _ h))) tyX5 tyX5_ok nmX5 hown hK hP hD hS 0 rfl rfl 14 (by decide) (hts (.fieldLink RX5 58 "Seekwell$Node" "fitting" "I") (by decide +kernel)) (fun _ h9 => h9) rfl (by decide +kernel) rfl rfl (Nat.le_of_ble_eq_true rfl) dX5_init_82 (fun H locs hP hD hS => ?_)
  have hP : va_P (dC, dI) vwCl [(q0, .inr (8, [.int 0, .int 0, .int 1, .int 0, .int 0, .int 0, .ref q1, .null, .null, .null, .null, .int 0, .int 0, .int 0, .int 0, .null, .null])), (q1, .inr (10, [.ref q2, .int 0]))] H := hP
  have hD : va_D A [(q0, .inr (8, [.int 0, .int 0, .int 1, .int 0, .int 0, .int 0, .ref q1, .null, .null, .null, .null, .int 0, .int 0, .int 0, .int 0, .null, .null])), (q1, .inr (10, [.ref q2, .int 0]))] := hD
  refine lv_aload_n hx hb dX5_init_85 rfl (lv_at hl 0 rfl) ?_
  refine lv_null hx hb dX5_init_86 ?_
  refine va_put (D := (dC, dI)) (ci := 8) (v := .null) (ty := (.object "Seekwell$Node")) (C := RX5) (T := TX5) (N := 17) hx hb hts (fun _ h => List.mem_cons_of_mem _ (List.mem_append_left _ (List.mem_append_right _ h))) tyX5 tyX5_ok nmX5 hown hK hP hD hS 0 rfl rfl 15 (by decide) (hts (.fieldLink RX5 61 "Seekwell$Node" "copy" "LSeekwell$Node;") (by decide +kernel)) (fun _ h9 => h9) rfl (by decide +kernel) rfl rfl (Nat.le_of_ble_eq_true rfl) dX5_init_87 (fun H locs hP hD hS => ?_)
  have hP : va_P (dC, dI) vwCl [(q0, .inr (8, [.int 0, .int 0, .int 1, .int 0, .int 0, .int 0, .ref q1, .null, .null, .null, .null, .int 0, .int 0, .int 0, .int 0, .null, .null])), (q1, .inr (10, [.ref q2, .int 0]))] H := hP
  have hD : va_D A [(q0, .inr (8, [.int 0, .int 0, .int 1, .int 0, .int 0, .int 0, .ref q1, .null, .null, .null, .null, .int 0, .int 0, .int 0, .int 0, .null, .null])), (q1, .inr (10, [.ref q2, .int 0]))] := hD
  refine lv_aload_n hx hb dX5_init_90 rfl (lv_at hl 0 rfl) ?_
  refine lv_null hx hb dX5_init_91 ?_
  refine va_put (D := (dC, dI)) (ci := 8) (v := .null) (ty := (.object "Seekwell$Node")) (C := RX5) (T := TX5) (N := 17) hx hb hts (fun _ h => List.mem_cons_of_mem _ (List.mem_append_left _ (List.mem_append_right _ h))) tyX5 tyX5_ok nmX5 hown hK hP hD hS 0 rfl rfl 16 (by decide) (hts (.fieldLink RX5 64 "Seekwell$Node" "later" "LSeekwell$Node;") (by decide +kernel)) (fun _ h9 => h9) rfl (by decide +kernel) rfl rfl (Nat.le_of_ble_eq_true rfl) dX5_init_92 (fun H locs hP hD hS => ?_)
  have hP : va_P (dC, dI) vwCl [(q0, .inr (8, [.int 0, .int 0, .int 1, .int 0, .int 0, .int 0, .ref q1, .null, .null, .null, .null, .int 0, .int 0, .int 0, .int 0, .null, .null])), (q1, .inr (10, [.ref q2, .int 0]))] H := hP
  have hD : va_D A [(q0, .inr (8, [.int 0, .int 0, .int 1, .int 0, .int 0, .int 0, .ref q1, .null, .null, .null, .null, .int 0, .int 0, .int 0, .int 0, .null, .null])), (q1, .inr (10, [.ref q2, .int 0]))] := hD
  have hP9 := hP.sub (ws' := [(q0, .inr (8, [.int 0, .int 0, .int 1, .int 0, .int 0, .int 0, .ref q1, .null, .null, .null, .null, .int 0, .int 0, .int 0, .int 0, .null, .null])), (q1, .inr (10, [.ref q2, .int 0]))]) [0, 1] rfl
  have hD9 := hD.sub (ws' := [(q0, .inr (8, [.int 0, .int 0, .int 1, .int 0, .int 0, .int 0, .ref q1, .null, .null, .null, .null, .int 0, .int 0, .int 0, .int 0, .null, .null])), (q1, .inr (10, [.ref q2, .int 0]))]) [0, 1] (by decide) rfl
  have hK9 := hK.sub (tys' := []) [] rfl
  exact W.vret hx hb hr (fun t ht hW => ⟨⟨(), rfl, trivial, q1, q2, ⟨by rw [ht]; exact hP9, va_K.moved hW.alike hK9, hD9⟩⟩, hS.F ht⟩) hS.2.2 dX5_init_95
set_option maxHeartbeats 4000000 in
set_option maxRecDepth 100000 in
theorem c_X5_empty (l : Launch) (dC : Nat → ClassId) (dI : Nat → Nat → Nat) (q0 q1 : Nat) (sz : Nat) : Met l yX5_empty wsX5_empty ({ frames := 0, cells := 0, slots := 0, locals := 0 }) (va_Pc [.ref q0] (zB (dC, dI) [] [(q0, .inr (8, [.int 7, .int 0, .int 1, .int 0, .int 0, .int 0, .ref q1, .null, .null, .null, .null, .int 0, .int 0, .int 0, .int 0, .null, .null]))] sz)) (va_Qv (fun (_ : Unit) => True) (fun _ t => zE (dC, dI) [] [(q0, .inr (8, [.int 7, .int 0, .int 1, .int 0, .int 0, .int 0, .ref q1, .null, .null, .null, .null, .int 0, .int 0, .int 0, .int 0, .null, .null]))] (va_A [(q0, .inr (8, [.int 7, .int 0, .int 1, .int 0, .int 0, .int 0, .ref q1, .null, .null, .null, .null, .int 0, .int 0, .int 0, .int 0, .null, .null]))] sz) t) (va_A [(q0, .inr (8, [.int 7, .int 0, .int 1, .int 0, .int 0, .int 0, .ref q1, .null, .null, .null, .null, .int 0, .int 0, .int 0, .int 0, .null, .null]))] sz)) 0 0 (va_A [(q0, .inr (8, [.int 7, .int 0, .int 1, .int 0, .int 0, .int 0, .ref q1, .null, .null, .null, .null, .int 0, .int 0, .int 0, .int 0, .null, .null]))] sz) := by
  refine Met.ofW (cc := cX5_empty) (maxL := 1) (ret := none) (by decide) rfl ?_
  intro p e s m args below meth c s₁ B hml hv
  obtain ⟨rfl, hsz, hP, hK, hD0, hZ, hN⟩ := hv
  have hx := B.exec
  have hb := B.bytes
  have hr := B.returns
  have hts := atoms_spec (ws := wsX5_empty) B.pre
  have hown : s.vm.findClass RX5 = some m.cls := findClass_of_methodNamed B.named
  have hlocks := B.notSynchronized
  subst hsz
  have hD := hD0.self (sz := s.heap.size)
  generalize hAe : va_A [(q0, .inr (8, [.int 7, .int 0, .int 1, .int 0, .int 0, .int 0, .ref q1, .null, .null, .null, .null, .int 0, .int 0, .int 0, .int 0, .null, .null]))] s.heap.size = A at hD hZ ⊢
  have hA : ∀ q : Nat, s.heap.size ≤ q → A q := fun q h => by rw [← hAe]; exact Or.inr h
  have hS : va_S A s.heap s.heap [] := va_S.rf
  have hP : va_P (dC, dI) vwCl [(q0, .inr (8, [.int 7, .int 0, .int 1, .int 0, .int 0, .int 0, .ref q1, .null, .null, .null, .null, .int 0, .int 0, .int 0, .int 0, .null, .null]))] s.heap := hP
  have hl := lv_entry ([.ref q0]) (n := 1) (Nat.le_of_ble_eq_true rfl)
  rw [lg_entry_eq]
  generalize (lg_sl ([.ref q0]) ++ List.replicate (1 - (lg_sl ([.ref q0])).length) Slot.unset).toArray = ls at hl ⊢
  have hl : lv_has ls 1 [(0, .ref q0)] := hl
  refine lv_aload_n hx hb dX5_empty_0 rfl (lv_at hl 0 rfl) ?_
  refine lv_null hx hb dX5_empty_1 ?_
  refine va_put (D := (dC, dI)) (ci := 8) (v := .null) (ty := (.object "Seekwell$Node")) (C := RX5) (T := TX5) (N := 17) hx hb hts (fun _ h => List.mem_cons_of_mem _ (List.mem_append_right _ h)) tyX5 tyX5_ok nmX5 hown hK hP hD hS 0 rfl rfl 9 (by decide) (hts (.fieldLink RX5 43 "Seekwell$Node" "first" "LSeekwell$Node;") (by decide +kernel)) (fun _ h9 => h9) rfl (by decide +kernel) rfl rfl (Nat.le_of_ble_eq_true rfl) dX5_empty_2 (fun H locs hP hD hS => ?_)
  have hP : va_P (dC, dI) vwCl [(q0, .inr (8, [.int 7, .int 0, .int 1, .int 0, .int 0, .int 0, .ref q1, .null, .null, .null, .null, .int 0, .int 0, .int 0, .int 0, .null, .null]))] H := hP
  have hD : va_D A [(q0, .inr (8, [.int 7, .int 0, .int 1, .int 0, .int 0, .int 0, .ref q1, .null, .null, .null, .null, .int 0, .int 0, .int 0, .int 0, .null, .null]))] := hD
  refine lv_aload_n hx hb dX5_empty_5 rfl (lv_at hl 0 rfl) ?_
  refine lv_null hx hb dX5_empty_6 ?_
  refine va_put (D := (dC, dI)) (ci := 8) (v := .null) (ty := (.object "Seekwell$Node")) (C := RX5) (T := TX5) (N := 17) hx hb hts (fun _ h => List.mem_cons_of_mem _ (List.mem_append_right _ h)) tyX5 tyX5_ok nmX5 hown hK hP hD hS 0 rfl rfl 10 (by decide) (hts (.fieldLink RX5 46 "Seekwell$Node" "last" "LSeekwell$Node;") (by decide +kernel)) (fun _ h9 => h9) rfl (by decide +kernel) rfl rfl (Nat.le_of_ble_eq_true rfl) dX5_empty_7 (fun H locs hP hD hS => ?_)
  have hP : va_P (dC, dI) vwCl [(q0, .inr (8, [.int 7, .int 0, .int 1, .int 0, .int 0, .int 0, .ref q1, .null, .null, .null, .null, .int 0, .int 0, .int 0, .int 0, .null, .null]))] H := hP
  have hD : va_D A [(q0, .inr (8, [.int 7, .int 0, .int 1, .int 0, .int 0, .int 0, .ref q1, .null, .null, .null, .null, .int 0, .int 0, .int 0, .int 0, .null, .null]))] := hD
  refine lv_aload_n hx hb dX5_empty_10 rfl (lv_at hl 0 rfl) ?_
  refine lv_iconst (v := 0) hx hb dX5_empty_11 (by decide +kernel) ?_
  refine va_put (D := (dC, dI)) (ci := 8) (v := .int 0) (ty := .int) (C := RX5) (T := TX5) (N := 17) hx hb hts (fun _ h => List.mem_cons_of_mem _ (List.mem_append_right _ h)) tyX5 tyX5_ok nmX5 hown hK hP hD hS 0 rfl rfl 11 (by decide) (hts (.fieldLink RX5 49 "Seekwell$Node" "size" "I") (by decide +kernel)) (fun _ h9 => h9) rfl (by decide +kernel) rfl rfl (Nat.le_of_ble_eq_true rfl) dX5_empty_12 (fun H locs hP hD hS => ?_)
  have hP : va_P (dC, dI) vwCl [(q0, .inr (8, [.int 7, .int 0, .int 1, .int 0, .int 0, .int 0, .ref q1, .null, .null, .null, .null, .int 0, .int 0, .int 0, .int 0, .null, .null]))] H := hP
  have hD : va_D A [(q0, .inr (8, [.int 7, .int 0, .int 1, .int 0, .int 0, .int 0, .ref q1, .null, .null, .null, .null, .int 0, .int 0, .int 0, .int 0, .null, .null]))] := hD
  have hP9 := hP.sub (ws' := [(q0, .inr (8, [.int 7, .int 0, .int 1, .int 0, .int 0, .int 0, .ref q1, .null, .null, .null, .null, .int 0, .int 0, .int 0, .int 0, .null, .null]))]) [0] rfl
  have hD9 := hD.sub (ws' := [(q0, .inr (8, [.int 7, .int 0, .int 1, .int 0, .int 0, .int 0, .ref q1, .null, .null, .null, .null, .int 0, .int 0, .int 0, .int 0, .null, .null]))]) [0] (by decide) rfl
  have hK9 := hK.sub (tys' := []) [] rfl
  exact W.vret hx hb hr (fun t ht hW => ⟨⟨(), rfl, trivial, ⟨by rw [ht]; exact hP9, va_K.moved hW.alike hK9, hD9⟩⟩, hS.F ht⟩) hS.2.2 dX5_empty_15
set_option maxHeartbeats 4000000 in
set_option maxRecDepth 100000 in
theorem c_X5_reset (l : Launch) (dC : Nat → ClassId) (dI : Nat → Nat → Nat) (q0 q1 q2 : Nat) (sz : Nat) : Met l yX5_reset wsX5_reset ({ frames := 1, cells := 0, slots := 0, locals := 20 }) (va_Pc [.ref q0, .int 7] (zB (dC, dI) [] [(q0, .inr (8, [.int 0, .int 0, .int 1, .int 0, .int 0, .int 0, .ref q1, .null, .null, .null, .null, .int 0, .int 0, .int 0, .int 0, .null, .null])), (q1, .inr (10, [.ref q2, .int 0]))] sz)) (va_Qv (fun (_ : Unit) => True) (fun _ t => zE (dC, dI) [] [(q0, .inr (8, [.int 7, .int 0, .int 1, .int 0, .int 0, .int 0, .ref q1, .null, .null, .null, .null, .int 0, .int 0, .int 0, .int 0, .null, .null]))] (va_A [(q0, .inr (8, [.int 0, .int 0, .int 1, .int 0, .int 0, .int 0, .ref q1, .null, .null, .null, .null, .int 0, .int 0, .int 0, .int 0, .null, .null])), (q1, .inr (10, [.ref q2, .int 0]))] sz) t) (va_A [(q0, .inr (8, [.int 0, .int 0, .int 1, .int 0, .int 0, .int 0, .ref q1, .null, .null, .null, .null, .int 0, .int 0, .int 0, .int 0, .null, .null])), (q1, .inr (10, [.ref q2, .int 0]))] sz)) 0 0 (va_A [(q0, .inr (8, [.int 0, .int 0, .int 1, .int 0, .int 0, .int 0, .ref q1, .null, .null, .null, .null, .int 0, .int 0, .int 0, .int 0, .null, .null])), (q1, .inr (10, [.ref q2, .int 0]))] sz) := by
  refine Met.ofW (cc := cX5_reset) (maxL := 2) (ret := none) (by decide) rfl ?_
  intro p e s m args below meth c s₁ B hml hv
  obtain ⟨rfl, hsz, hP, hK, hD0, hZ, hN⟩ := hv
  have hx := B.exec
  have hb := B.bytes
  have hr := B.returns
  have hts := atoms_spec (ws := wsX5_reset) B.pre
  have hown : s.vm.findClass RX5 = some m.cls := findClass_of_methodNamed B.named
  have hlocks := B.notSynchronized
  subst hsz
  have hD := hD0.self (sz := s.heap.size)
  generalize hAe : va_A [(q0, .inr (8, [.int 0, .int 0, .int 1, .int 0, .int 0, .int 0, .ref q1, .null, .null, .null, .null, .int 0, .int 0, .int 0, .int 0, .null, .null])), (q1, .inr (10, [.ref q2, .int 0]))] s.heap.size = A at hD hZ ⊢
  have hA : ∀ q : Nat, s.heap.size ≤ q → A q := fun q h => by rw [← hAe]; exact Or.inr h
  have hS : va_S A s.heap s.heap [] := va_S.rf
  have hP : va_P (dC, dI) vwCl [(q0, .inr (8, [.int 0, .int 0, .int 1, .int 0, .int 0, .int 0, .ref q1, .null, .null, .null, .null, .int 0, .int 0, .int 0, .int 0, .null, .null])), (q1, .inr (10, [.ref q2, .int 0]))] s.heap := hP
  have hl := lv_entry ([.ref q0, .int 7]) (n := 2) (Nat.le_of_ble_eq_true rfl)
  rw [lg_entry_eq]
  generalize (lg_sl ([.ref q0, .int 7]) ++ List.replicate (2 - (lg_sl ([.ref q0, .int 7])).length) Slot.unset).toArray = ls at hl ⊢
  have hl : lv_has ls 2 [(0, .ref q0), (1, .int 7)] := hl
  refine lv_aload_n hx hb dX5_reset_0 rfl (lv_at hl 0 rfl) ?_
  refine lv_iload_n hx hb dX5_reset_1 rfl (lv_at hl 1 rfl) ?_
  refine va_put (D := (dC, dI)) (ci := 8) (v := .int 7) (ty := .int) (C := RX5) (T := TX5) (N := 17) hx hb hts (fun _ h => List.mem_cons_of_mem _ (List.mem_append_left _ (List.mem_append_right _ h))) tyX5 tyX5_ok nmX5 hown hK hP hD hS 0 rfl rfl 0 (by decide) (hts (.fieldLink RX5 9 "Seekwell$Node" "kind" "I") (by decide +kernel)) (fun _ h9 => h9) rfl (by decide +kernel) rfl rfl (Nat.le_of_ble_eq_true rfl) dX5_reset_2 (fun H locs hP hD hS => ?_)
  have hP : va_P (dC, dI) vwCl [(q0, .inr (8, [.int 7, .int 0, .int 1, .int 0, .int 0, .int 0, .ref q1, .null, .null, .null, .null, .int 0, .int 0, .int 0, .int 0, .null, .null])), (q1, .inr (10, [.ref q2, .int 0]))] H := hP
  have hD : va_D A [(q0, .inr (8, [.int 7, .int 0, .int 1, .int 0, .int 0, .int 0, .ref q1, .null, .null, .null, .null, .int 0, .int 0, .int 0, .int 0, .null, .null])), (q1, .inr (10, [.ref q2, .int 0]))] := hD
  refine lv_aload_n hx hb dX5_reset_5 rfl (lv_at hl 0 rfl) ?_
  refine lv_iconst (v := 0) hx hb dX5_reset_6 (by decide +kernel) ?_
  refine va_put (D := (dC, dI)) (ci := 8) (v := .int 0) (ty := .boolean) (C := RX5) (T := TX5) (N := 17) hx hb hts (fun _ h => List.mem_cons_of_mem _ (List.mem_append_left _ (List.mem_append_right _ h))) tyX5 tyX5_ok nmX5 hown hK hP hD hS 0 rfl rfl 1 (by decide) (hts (.fieldLink RX5 13 "Seekwell$Node" "isNot" "Z") (by decide +kernel)) (fun _ h9 => h9) rfl (by decide +kernel) rfl rfl (Nat.le_of_ble_eq_true rfl) dX5_reset_7 (fun H locs hP hD hS => ?_)
  have hP : va_P (dC, dI) vwCl [(q0, .inr (8, [.int 7, .int 0, .int 1, .int 0, .int 0, .int 0, .ref q1, .null, .null, .null, .null, .int 0, .int 0, .int 0, .int 0, .null, .null])), (q1, .inr (10, [.ref q2, .int 0]))] H := hP
  have hD : va_D A [(q0, .inr (8, [.int 7, .int 0, .int 1, .int 0, .int 0, .int 0, .ref q1, .null, .null, .null, .null, .int 0, .int 0, .int 0, .int 0, .null, .null])), (q1, .inr (10, [.ref q2, .int 0]))] := hD
  refine lv_aload_n hx hb dX5_reset_10 rfl (lv_at hl 0 rfl) ?_
  refine lv_iconst (v := 1) hx hb dX5_reset_11 (by decide +kernel) ?_
  refine va_put (D := (dC, dI)) (ci := 8) (v := .int 1) (ty := .int) (C := RX5) (T := TX5) (N := 17) hx hb hts (fun _ h => List.mem_cons_of_mem _ (List.mem_append_left _ (List.mem_append_right _ h))) tyX5 tyX5_ok nmX5 hown hK hP hD hS 0 rfl rfl 2 (by decide) (hts (.fieldLink RX5 17 "Seekwell$Node" "weight" "I") (by decide +kernel)) (fun _ h9 => h9) rfl (by decide +kernel) rfl rfl (Nat.le_of_ble_eq_true rfl) dX5_reset_12 (fun H locs hP hD hS => ?_)
  have hP : va_P (dC, dI) vwCl [(q0, .inr (8, [.int 7, .int 0, .int 1, .int 0, .int 0, .int 0, .ref q1, .null, .null, .null, .null, .int 0, .int 0, .int 0, .int 0, .null, .null])), (q1, .inr (10, [.ref q2, .int 0]))] H := hP
  have hD : va_D A [(q0, .inr (8, [.int 7, .int 0, .int 1, .int 0, .int 0, .int 0, .ref q1, .null, .null, .null, .null, .int 0, .int 0, .int 0, .int 0, .null, .null])), (q1, .inr (10, [.ref q2, .int 0]))] := hD
  refine lv_aload_n hx hb dX5_reset_15 rfl (lv_at hl 0 rfl) ?_
  refine lv_iconst (v := 0) hx hb dX5_reset_16 (by decide +kernel) ?_
  refine va_put (D := (dC, dI)) (ci := 8) (v := .int 0) (ty := .int) (C := RX5) (T := TX5) (N := 17) hx hb hts (fun _ h => List.mem_cons_of_mem _ (List.mem_append_left _ (List.mem_append_right _ h))) tyX5 tyX5_ok nmX5 hown hK hP hD hS 0 rfl rfl 3 (by decide) (hts (.fieldLink RX5 20 "Seekwell$Node" "where" "I") (by decide +kernel)) (fun _ h9 => h9) rfl (by decide +kernel) rfl rfl (Nat.le_of_ble_eq_true rfl) dX5_reset_17 (fun H locs hP hD hS => ?_)
  have hP : va_P (dC, dI) vwCl [(q0, .inr (8, [.int 7, .int 0, .int 1, .int 0, .int 0, .int 0, .ref q1, .null, .null, .null, .null, .int 0, .int 0, .int 0, .int 0, .null, .null])), (q1, .inr (10, [.ref q2, .int 0]))] H := hP
  have hD : va_D A [(q0, .inr (8, [.int 7, .int 0, .int 1, .int 0, .int 0, .int 0, .ref q1, .null, .null, .null, .null, .int 0, .int 0, .int 0, .int 0, .null, .null])), (q1, .inr (10, [.ref q2, .int 0]))] := hD
  refine lv_aload_n hx hb dX5_reset_20 rfl (lv_at hl 0 rfl) ?_
  refine lv_iconst (v := 0) hx hb dX5_reset_21 (by decide +kernel) ?_
  refine va_put (D := (dC, dI)) (ci := 8) (v := .int 0) (ty := .int) (C := RX5) (T := TX5) (N := 17) hx hb hts (fun _ h => List.mem_cons_of_mem _ (List.mem_append_left _ (List.mem_append_right _ h))) tyX5 tyX5_ok nmX5 hown hK hP hD hS 0 rfl rfl 4 (by decide) (hts (.fieldLink RX5 23 "Seekwell$Node" "low" "I") (by decide +kernel)) (fun _ h9 => h9) rfl (by decide +kernel) rfl rfl (Nat.le_of_ble_eq_true rfl) dX5_reset_22 (fun H locs hP hD hS => ?_)
  have hP : va_P (dC, dI) vwCl [(q0, .inr (8, [.int 7, .int 0, .int 1, .int 0, .int 0, .int 0, .ref q1, .null, .null, .null, .null, .int 0, .int 0, .int 0, .int 0, .null, .null])), (q1, .inr (10, [.ref q2, .int 0]))] H := hP
  have hD : va_D A [(q0, .inr (8, [.int 7, .int 0, .int 1, .int 0, .int 0, .int 0, .ref q1, .null, .null, .null, .null, .int 0, .int 0, .int 0, .int 0, .null, .null])), (q1, .inr (10, [.ref q2, .int 0]))] := hD
  refine lv_aload_n hx hb dX5_reset_25 rfl (lv_at hl 0 rfl) ?_
  refine lv_iconst (v := 0) hx hb dX5_reset_26 (by decide +kernel) ?_
  refine va_put (D := (dC, dI)) (ci := 8) (v := .int 0) (ty := .int) (C := RX5) (T := TX5) (N := 17) hx hb hts (fun _ h => List.mem_cons_of_mem _ (List.mem_append_left _ (List.mem_append_right _ h))) tyX5 tyX5_ok nmX5 hown hK hP hD hS 0 rfl rfl 5 (by decide) (hts (.fieldLink RX5 26 "Seekwell$Node" "high" "I") (by decide +kernel)) (fun _ h9 => h9) rfl (by decide +kernel) rfl rfl (Nat.le_of_ble_eq_true rfl) dX5_reset_27 (fun H locs hP hD hS => ?_)
  have hP : va_P (dC, dI) vwCl [(q0, .inr (8, [.int 7, .int 0, .int 1, .int 0, .int 0, .int 0, .ref q1, .null, .null, .null, .null, .int 0, .int 0, .int 0, .int 0, .null, .null])), (q1, .inr (10, [.ref q2, .int 0]))] H := hP
  have hD : va_D A [(q0, .inr (8, [.int 7, .int 0, .int 1, .int 0, .int 0, .int 0, .ref q1, .null, .null, .null, .null, .int 0, .int 0, .int 0, .int 0, .null, .null])), (q1, .inr (10, [.ref q2, .int 0]))] := hD
  refine lv_aload_n hx hb dX5_reset_30 rfl (lv_at hl 0 rfl) ?_
  refine va_get (D := (dC, dI)) (ci := 8) (v := .ref q1) (C := RX5) (T := TX5) (N := 17) hx hb hts (fun _ h => List.mem_cons_of_mem _ (List.mem_append_left _ (List.mem_append_right _ h))) hown hK hP 0 rfl rfl 6 (by decide) (hts (.fieldLink RX5 32 "Seekwell$Node" "row" "LSeekwell$Row;") (by decide +kernel)) (fun _ h9 => h9) rfl dX5_reset_31 ?_
  have hPc := hP.sub (ws' := [(q1, .inr (10, [.ref q2, .int 0]))]) [1] rfl
  have hDc := hD.sub (ws' := [(q1, .inr (10, [.ref q2, .int 0]))]) [1] (by decide) rfl
  have hKc := hK.sub (tys' := []) [] rfl
  have hFc := va_free (wc := [(q1, .inr (10, [.ref q2, .int 0]))]) hD hS hA [1] rfl
  refine va_callv (va_runV (As := []) (rest := []) ⟨hx, hb, hml, hown, hts⟩ (c_X7_clear l dC dI q1 q2 H.size  ) (cwV 0 hts gX5_reset_X7_clear rfl rfl rfl (by decide +kernel) ⟨Nat.le_of_ble_eq_true rfl, Nat.le_of_ble_eq_true rfl⟩) ⟨zB_blind, va_recv hK hP (ci := 10) (q0 := 1) rfl rfl, (zPre hPc hDc hKc hS hFc hZ hN)⟩ rfl rfl hl.1 rfl (lv_room (Nat.le_of_ble_eq_true rfl)) dX5_reset_34 ⟨Nat.le_of_ble_eq_true rfl, Nat.le_of_ble_eq_true rfl⟩) hS (fun q _ h => hFc q h) hFc (fun u t H1 locs ht hvm hw hB hz1 hk1 hS => ?_)
  obtain ⟨hP1, hK1, hD1⟩ := hB
  rw [ht] at hP1
  have hK1 := va_K.moved hvm.symm hK1
  obtain ⟨hP, hD⟩ := va_join (wr := [(q0, .inr (8, [.int 7, .int 0, .int 1, .int 0, .int 0, .int 0, .ref q1, .null, .null, .null, .null, .int 0, .int 0, .int 0, .int 0, .null, .null]))]) (w1 := []) hP hD [1] [0] rfl rfl (by decide) (by decide) hk1 hFc hP1 hD1
  have hK := (hK.sub (tys' := []) [] rfl).app hK1
  generalize H1 = H at hP hS ⊢
  have hP : va_P (dC, dI) vwCl [(q0, .inr (8, [.int 7, .int 0, .int 1, .int 0, .int 0, .int 0, .ref q1, .null, .null, .null, .null, .int 0, .int 0, .int 0, .int 0, .null, .null]))] H := hP
  have hD : va_D A [(q0, .inr (8, [.int 7, .int 0, .int 1, .int 0, .int 0, .int 0, .ref q1, .null, .null, .null, .null, .int 0, .int 0, .int 0, .int 0, .null, .null]))] := hD
  have hK : va_K (dC, dI) vwCl [] s := hK
  refine W.widen (k := 0) (n := 0) (Nat.le_of_ble_eq_true rfl) (Nat.le_of_ble_eq_true rfl) ?_
  refine lv_aload_n hx hb dX5_reset_37 rfl (lv_at hl 0 rfl) ?_
  refine lv_null hx hb dX5_reset_38 ?_
  refine va_put (D := (dC, dI)) (ci := 8) (v := .null) (ty := (.object "Seekwell$Node")) (C := RX5) (T := TX5) (N := 17) hx hb hts (fun _ h => List.mem_cons_of_mem _ (List.mem_append_left _ (List.mem_append_right _ h))) tyX5 tyX5_ok nmX5 hown hK hP hD hS 0 rfl rfl 7 (by decide) (hts (.fieldLink RX5 36 "Seekwell$Node" "parent" "LSeekwell$Node;") (by decide +kernel)) (fun _ h9 => h9) rfl (by decide +kernel) rfl rfl (Nat.le_of_ble_eq_true rfl) dX5_reset_39 (fun H locs hP hD hS => ?_)
  have hP : va_P (dC, dI) vwCl [(q0, .inr (8, [.int 7, .int 0, .int 1, .int 0, .int 0, .int 0, .ref q1, .null, .null, .null, .null, .int 0, .int 0, .int 0, .int 0, .null, .null]))] H := hP
  have hD : va_D A [(q0, .inr (8, [.int 7, .int 0, .int 1, .int 0, .int 0, .int 0, .ref q1, .null, .null, .null, .null, .int 0, .int 0, .int 0, .int 0, .null, .null]))] := hD
  refine lv_aload_n hx hb dX5_reset_42 rfl (lv_at hl 0 rfl) ?_
  refine lv_null hx hb dX5_reset_43 ?_
  refine va_put (D := (dC, dI)) (ci := 8) (v := .null) (ty := (.object "Seekwell$Node")) (C := RX5) (T := TX5) (N := 17) hx hb hts (fun _ h => List.mem_cons_of_mem _ (List.mem_append_left _ (List.mem_append_right _ h))) tyX5 tyX5_ok nmX5 hown hK hP hD hS 0 rfl rfl 8 (by decide) (hts (.fieldLink RX5 40 "Seekwell$Node" "next" "LSeekwell$Node;") (by decide +kernel)) (fun _ h9 => h9) rfl (by decide +kernel) rfl rfl (Nat.le_of_ble_eq_true rfl) dX5_reset_44 (fun H locs hP hD hS => ?_)
  have hP : va_P (dC, dI) vwCl [(q0, .inr (8, [.int 7, .int 0, .int 1, .int 0, .int 0, .int 0, .ref q1, .null, .null, .null, .null, .int 0, .int 0, .int 0, .int 0, .null, .null]))] H := hP
  have hD : va_D A [(q0, .inr (8, [.int 7, .int 0, .int 1, .int 0, .int 0, .int 0, .ref q1, .null, .null, .null, .null, .int 0, .int 0, .int 0, .int 0, .null, .null]))] := hD
  refine lv_aload_n hx hb dX5_reset_47 rfl (lv_at hl 0 rfl) ?_
  have hPc := hP.sub (ws' := [(q0, .inr (8, [.int 7, .int 0, .int 1, .int 0, .int 0, .int 0, .ref q1, .null, .null, .null, .null, .int 0, .int 0, .int 0, .int 0, .null, .null]))]) [0] rfl
  have hDc := hD.sub (ws' := [(q0, .inr (8, [.int 7, .int 0, .int 1, .int 0, .int 0, .int 0, .ref q1, .null, .null, .null, .null, .int 0, .int 0, .int 0, .int 0, .null, .null]))]) [0] (by decide) rfl
  have hKc := hK.sub (tys' := []) [] rfl
  have hFc := va_free (wc := [(q0, .inr (8, [.int 7, .int 0, .int 1, .int 0, .int 0, .int 0, .ref q1, .null, .null, .null, .null, .int 0, .int 0, .int 0, .int 0, .null, .null]))]) hD hS hA [0] rfl
  refine va_callv (va_runV (As := []) (rest := []) ⟨hx, hb, hml, hown, hts⟩ (c_X5_empty l dC dI q0 q1 H.size  ) (cwV 0 hts gX5_reset_X5_empty rfl rfl rfl (by decide +kernel) ⟨Nat.le_of_ble_eq_true rfl, Nat.le_of_ble_eq_true rfl⟩) ⟨zB_blind, va_recv hK hP (ci := 8) (q0 := 0) rfl rfl, (zPre hPc hDc hKc hS hFc hZ hN)⟩ rfl rfl hl.1 rfl (lv_room (Nat.le_of_ble_eq_true rfl)) dX5_reset_48 ⟨Nat.le_of_ble_eq_true rfl, Nat.le_of_ble_eq_true rfl⟩) hS (fun q _ h => hFc q h) hFc (fun u t H1 locs ht hvm hw hB hz1 hk1 hS => ?_)
  obtain ⟨hP1, hK1, hD1⟩ := hB
  rw [ht] at hP1
  have hK1 := va_K.moved hvm.symm hK1
  obtain ⟨hP, hD⟩ := va_join (wr := []) (w1 := [(q0, .inr (8, [.int 7, .int 0, .int 1, .int 0, .int 0, .int 0, .ref q1, .null, .null, .null, .null, .int 0, .int 0, .int 0, .int 0, .null, .null]))]) hP hD [0] [] rfl rfl (by decide) (by decide) hk1 hFc hP1 hD1
  have hK := (hK.sub (tys' := []) [] rfl).app hK1
  generalize H1 = H at hP hS ⊢
  have hP : va_P (dC, dI) vwCl [(q0, .inr (8, [.int 7, .int 0, .int 1, .int 0, .int 0, .int 0, .ref q1, .null, .null, .null, .null, .int 0, .int 0, .int 0, .int 0, .null, .null]))] H := hP
  have hD : va_D A [(q0, .inr (8, [.int 7, .int 0, .int 1, .int 0, .int 0, .int 0, .ref q1, .null, .null, .null, .null, .int 0, .int 0, .int 0, .int 0, .null, .null]))] := hD
  have hK : va_K (dC, dI) vwCl [] s := hK
  refine W.widen (k := 0) (n := 0) (Nat.le_of_ble_eq_true rfl) (Nat.le_of_ble_eq_true rfl) ?_
  have hP9 := hP.sub (ws' := [(q0, .inr (8, [.int 7, .int 0, .int 1, .int 0, .int 0, .int 0, .ref q1, .null, .null, .null, .null, .int 0, .int 0, .int 0, .int 0, .null, .null]))]) [0] rfl
  have hD9 := hD.sub (ws' := [(q0, .inr (8, [.int 7, .int 0, .int 1, .int 0, .int 0, .int 0, .ref q1, .null, .null, .null, .null, .int 0, .int 0, .int 0, .int 0, .null, .null]))]) [0] (by decide) rfl
  have hK9 := hK.sub (tys' := []) [] rfl
  exact W.vret hx hb hr (fun t ht hW => ⟨⟨(), rfl, trivial, ⟨by rw [ht]; exact hP9, va_K.moved hW.alike hK9, hD9⟩⟩, hS.F ht⟩) hS.2.2 dX5_reset_51
set_option maxHeartbeats 4000000 in
set_option maxRecDepth 100000 in
theorem c_X6_fresh (l : Launch) (dC : Nat → ClassId) (dI : Nat → Nat → Nat) (q0 q1 q2 : Nat) (sz : Nat) : Met l yX6_fresh wsX6_fresh ({ frames := 3, cells := 3, slots := 23, locals := 60 }) (va_Pc [.ref q0, .int 7] (zB (dC, dI) [] [(q0, .inr (9, [.ref q1, .ref q1, .null])), (q1, .inr (8, [.int 0, .int 0, .int 1, .int 0, .int 0, .int 0, .ref q2, .null, .null, .null, .null, .int 0, .int 0, .int 0, .int 0, .null, .null]))] sz)) (va_Qr (fun (_ : Unit) => True) (fun _ ra t => ∃ q3 : Nat, ∃ q4 : Nat, q3 = ra ∧ zE (dC, dI) [] [(q0, .inr (9, [.ref q1, .ref q3, .null])), (q3, .inr (8, [.int 7, .int 0, .int 1, .int 0, .int 0, .int 0, .ref q4, .null, .null, .null, .null, .int 0, .int 0, .int 0, .int 0, .null, .null]))] (va_A [(q0, .inr (9, [.ref q1, .ref q1, .null])), (q1, .inr (8, [.int 0, .int 0, .int 1, .int 0, .int 0, .int 0, .ref q2, .null, .null, .null, .null, .int 0, .int 0, .int 0, .int 0, .null, .null]))] sz) t) (va_A [(q0, .inr (9, [.ref q1, .ref q1, .null])), (q1, .inr (8, [.int 0, .int 0, .int 1, .int 0, .int 0, .int 0, .ref q2, .null, .null, .null, .null, .int 0, .int 0, .int 0, .int 0, .null, .null]))] sz)) 3 23 (va_A [(q0, .inr (9, [.ref q1, .ref q1, .null])), (q1, .inr (8, [.int 0, .int 0, .int 1, .int 0, .int 0, .int 0, .ref q2, .null, .null, .null, .null, .int 0, .int 0, .int 0, .int 0, .null, .null]))] sz) := by
  refine Met.ofW (cc := cX6_fresh) (maxL := 2) (ret := (some (.object "Seekwell$Node"))) (by decide) rfl ?_
  intro p e s m args below meth c s₁ B hml hv
  obtain ⟨rfl, hsz, hP, hK, hD0, hZ, hN⟩ := hv
  have hx := B.exec
  have hb := B.bytes
  have hr := B.returns
  have hts := atoms_spec (ws := wsX6_fresh) B.pre
  have hown : s.vm.findClass RX6 = some m.cls := findClass_of_methodNamed B.named
  have hlocks := B.notSynchronized
  subst hsz
  have hD := hD0.self (sz := s.heap.size)
  generalize hAe : va_A [(q0, .inr (9, [.ref q1, .ref q1, .null])), (q1, .inr (8, [.int 0, .int 0, .int 1, .int 0, .int 0, .int 0, .ref q2, .null, .null, .null, .null, .int 0, .int 0, .int 0, .int 0, .null, .null]))] s.heap.size = A at hD hZ ⊢
  have hA : ∀ q : Nat, s.heap.size ≤ q → A q := fun q h => by rw [← hAe]; exact Or.inr h
  have hS : va_S A s.heap s.heap [] := va_S.rf
  have hP : va_P (dC, dI) vwCl [(q0, .inr (9, [.ref q1, .ref q1, .null])), (q1, .inr (8, [.int 0, .int 0, .int 1, .int 0, .int 0, .int 0, .ref q2, .null, .null, .null, .null, .int 0, .int 0, .int 0, .int 0, .null, .null]))] s.heap := hP
  have hl := lv_entry ([.ref q0, .int 7]) (n := 2) (Nat.le_of_ble_eq_true rfl)
  rw [lg_entry_eq]
  generalize (lg_sl ([.ref q0, .int 7]) ++ List.replicate (2 - (lg_sl ([.ref q0, .int 7])).length) Slot.unset).toArray = ls at hl ⊢
  have hl : lv_has ls 2 [(0, .ref q0), (1, .int 7)] := hl
  refine lv_aload_n hx hb dX6_fresh_0 rfl (lv_at hl 0 rfl) ?_
  refine va_get (D := (dC, dI)) (ci := 9) (v := .ref q1) (C := RX6) (T := TX6) (N := 3) hx hb hts (fun _ h => List.mem_cons_of_mem _ (List.mem_append_left _ (List.mem_append_left _ (List.mem_append_right _ h)))) hown hK hP 0 rfl rfl 1 (by decide) (hts (.fieldLink RX6 16 "Seekwell$Question" "newest" "LSeekwell$Node;") (by decide +kernel)) (fun _ h9 => h9) rfl dX6_fresh_1 ?_
  refine va_get (D := (dC, dI)) (ci := 8) (v := .null) (C := RX5) (T := TX5) (N := 17) hx hb hts (fun _ h => List.mem_cons_of_mem _ (List.mem_append_left _ (List.mem_append_right _ h))) hown hK hP 1 rfl rfl 16 (by decide) (hts (.fieldLink RX6 22 "Seekwell$Node" "later" "LSeekwell$Node;") (by decide +kernel)) (fun _ h9 => h9) rfl dX6_fresh_4 ?_
  refine lv_ifnonnullN hx hb dX6_fresh_7 ?_
  refine lv_aload_n hx hb dX6_fresh_10 rfl (lv_at hl 0 rfl) ?_
  refine va_get (D := (dC, dI)) (ci := 9) (v := .ref q1) (C := RX6) (T := TX6) (N := 3) hx hb hts (fun _ h => List.mem_cons_of_mem _ (List.mem_append_left _ (List.mem_append_left _ (List.mem_append_right _ h)))) hown hK hP 0 rfl rfl 1 (by decide) (hts (.fieldLink RX6 16 "Seekwell$Question" "newest" "LSeekwell$Node;") (by decide +kernel)) (fun _ h9 => h9) rfl dX6_fresh_11 ?_
  refine va_new (D := (dC, dI)) (ci := 8) (fs := [.int 0, .int 0, .int 0, .int 0, .int 0, .int 0, .null, .null, .null, .null, .null, .int 0, .int 0, .int 0, .int 0, .null, .null]) (C := RX5) (T := TX5) (N := 17) hx hb hts (fun _ h => List.mem_cons_of_mem _ (List.mem_append_left _ (List.mem_append_right _ h))) tyX5 tyX5_ok hown (hts (.classLink RX6 7 RX5) (by decide +kernel)) (hts (.instantiable RX5 17) (by decide +kernel)) (hts (.initialized RX5) (by decide +kernel)) hK hP hD hS hA rfl (zfs (by decide)) (Nat.le_of_ble_eq_true rfl) (Nat.le_of_ble_eq_true rfl) dX6_fresh_14 (fun q3 H hP hD hS => ?_)
  have hP : va_P (dC, dI) vwCl [(q0, .inr (9, [.ref q1, .ref q1, .null])), (q1, .inr (8, [.int 0, .int 0, .int 1, .int 0, .int 0, .int 0, .ref q2, .null, .null, .null, .null, .int 0, .int 0, .int 0, .int 0, .null, .null])), (q3, .inr (8, [.int 0, .int 0, .int 0, .int 0, .int 0, .int 0, .null, .null, .null, .null, .null, .int 0, .int 0, .int 0, .int 0, .null, .null]))] H := hP
  have hD : va_D A [(q0, .inr (9, [.ref q1, .ref q1, .null])), (q1, .inr (8, [.int 0, .int 0, .int 1, .int 0, .int 0, .int 0, .ref q2, .null, .null, .null, .null, .int 0, .int 0, .int 0, .int 0, .null, .null])), (q3, .inr (8, [.int 0, .int 0, .int 0, .int 0, .int 0, .int 0, .null, .null, .null, .null, .null, .int 0, .int 0, .int 0, .int 0, .null, .null]))] := hD
  refine W.widen (k := 1) (n := 17) (Nat.le_of_ble_eq_true rfl) (Nat.le_of_ble_eq_true rfl) ?_
  refine lv_dup hx hb dX6_fresh_17 rfl ?_
  have hPc := hP.sub (ws' := [(q3, .inr (8, [.int 0, .int 0, .int 0, .int 0, .int 0, .int 0, .null, .null, .null, .null, .null, .int 0, .int 0, .int 0, .int 0, .null, .null]))]) [2] rfl
  have hDc := hD.sub (ws' := [(q3, .inr (8, [.int 0, .int 0, .int 0, .int 0, .int 0, .int 0, .null, .null, .null, .null, .null, .int 0, .int 0, .int 0, .int 0, .null, .null]))]) [2] (by decide) rfl
  have hKc := hK.sub (tys' := []) [] rfl
  have hFc := va_free (wc := [(q3, .inr (8, [.int 0, .int 0, .int 0, .int 0, .int 0, .int 0, .null, .null, .null, .null, .null, .int 0, .int 0, .int 0, .int 0, .null, .null]))]) hD hS hA [2] rfl
  refine va_callv (va_runIN (As := []) (rest := [.ref q3, .ref q1]) ⟨hx, hb, hml, hown, hts⟩ (c_X5_init_3 l dC dI q3 H.size  ) ⟨va_cnB (host := "Seekwell") 0 hts gX6_fresh_X5_init_n9 rfl rfl rfl (hN.1 (RX6, 9, yX5_init, "Seekwell") (by decide +kernel)) (hts (.initialized RX5) (by decide +kernel)) (by decide +kernel) ⟨Nat.le_of_ble_eq_true rfl, Nat.le_of_ble_eq_true rfl⟩, rfl, hts (.instanceMethod yX5_init) (by decide +kernel)⟩ ⟨zB_blind, (zPre hPc hDc hKc hS hFc hZ hN)⟩ rfl rfl hl.1 rfl (lv_room (Nat.le_of_ble_eq_true rfl)) dX6_fresh_18 ⟨Nat.le_of_ble_eq_true rfl, Nat.le_of_ble_eq_true rfl⟩) hS (fun q _ h => hFc q h) hFc (fun u t H1 locs ht hvm hw hB hz1 hk1 hS => ?_)
  obtain ⟨q4, q5, hP1, hK1, hD1⟩ := hB
  rw [ht] at hP1
  have hK1 := va_K.moved hvm.symm hK1
  obtain ⟨hP, hD⟩ := va_join (wr := [(q0, .inr (9, [.ref q1, .ref q1, .null])), (q1, .inr (8, [.int 0, .int 0, .int 1, .int 0, .int 0, .int 0, .ref q2, .null, .null, .null, .null, .int 0, .int 0, .int 0, .int 0, .null, .null]))]) (w1 := [(q3, .inr (8, [.int 0, .int 0, .int 1, .int 0, .int 0, .int 0, .ref q4, .null, .null, .null, .null, .int 0, .int 0, .int 0, .int 0, .null, .null])), (q4, .inr (10, [.ref q5, .int 0]))]) hP hD [2] [0, 1] rfl rfl (by decide) (by decide) hk1 hFc hP1 hD1
  have hK := (hK.sub (tys' := []) [] rfl).app hK1
  generalize H1 = H at hP hS ⊢
  have hP : va_P (dC, dI) vwCl [(q0, .inr (9, [.ref q1, .ref q1, .null])), (q1, .inr (8, [.int 0, .int 0, .int 1, .int 0, .int 0, .int 0, .ref q2, .null, .null, .null, .null, .int 0, .int 0, .int 0, .int 0, .null, .null])), (q3, .inr (8, [.int 0, .int 0, .int 1, .int 0, .int 0, .int 0, .ref q4, .null, .null, .null, .null, .int 0, .int 0, .int 0, .int 0, .null, .null])), (q4, .inr (10, [.ref q5, .int 0]))] H := hP
  have hD : va_D A [(q0, .inr (9, [.ref q1, .ref q1, .null])), (q1, .inr (8, [.int 0, .int 0, .int 1, .int 0, .int 0, .int 0, .ref q2, .null, .null, .null, .null, .int 0, .int 0, .int 0, .int 0, .null, .null])), (q3, .inr (8, [.int 0, .int 0, .int 1, .int 0, .int 0, .int 0, .ref q4, .null, .null, .null, .null, .int 0, .int 0, .int 0, .int 0, .null, .null])), (q4, .inr (10, [.ref q5, .int 0]))] := hD
  have hK : va_K (dC, dI) vwCl [] s := hK
  refine W.widen (k := 3) (n := 23) (Nat.le_of_ble_eq_true rfl) (Nat.le_of_ble_eq_true rfl) ?_
  refine va_put (D := (dC, dI)) (ci := 8) (v := .ref q3) (ty := (.object "Seekwell$Node")) (C := RX5) (T := TX5) (N := 17) hx hb hts (fun _ h => List.mem_cons_of_mem _ (List.mem_append_left _ (List.mem_append_right _ h))) tyX5 tyX5_ok nmX5 hown hK hP hD hS 1 rfl rfl 16 (by decide) (hts (.fieldLink RX6 22 "Seekwell$Node" "later" "LSeekwell$Node;") (by decide +kernel)) (fun _ h9 => h9) rfl (by decide +kernel) rfl rfl (Nat.le_of_ble_eq_true rfl) dX6_fresh_21 (fun H locs hP hD hS => ?_)
  have hP : va_P (dC, dI) vwCl [(q0, .inr (9, [.ref q1, .ref q1, .null])), (q1, .inr (8, [.int 0, .int 0, .int 1, .int 0, .int 0, .int 0, .ref q2, .null, .null, .null, .null, .int 0, .int 0, .int 0, .int 0, .null, .ref q3])), (q3, .inr (8, [.int 0, .int 0, .int 1, .int 0, .int 0, .int 0, .ref q4, .null, .null, .null, .null, .int 0, .int 0, .int 0, .int 0, .null, .null])), (q4, .inr (10, [.ref q5, .int 0]))] H := hP
  have hD : va_D A [(q0, .inr (9, [.ref q1, .ref q1, .null])), (q1, .inr (8, [.int 0, .int 0, .int 1, .int 0, .int 0, .int 0, .ref q2, .null, .null, .null, .null, .int 0, .int 0, .int 0, .int 0, .null, .ref q3])), (q3, .inr (8, [.int 0, .int 0, .int 1, .int 0, .int 0, .int 0, .ref q4, .null, .null, .null, .null, .int 0, .int 0, .int 0, .int 0, .null, .null])), (q4, .inr (10, [.ref q5, .int 0]))] := hD
  refine lv_aload_n hx hb dX6_fresh_24 rfl (lv_at hl 0 rfl) ?_
  refine lv_aload_n hx hb dX6_fresh_25 rfl (lv_at hl 0 rfl) ?_
  refine va_get (D := (dC, dI)) (ci := 9) (v := .ref q1) (C := RX6) (T := TX6) (N := 3) hx hb hts (fun _ h => List.mem_cons_of_mem _ (List.mem_append_left _ (List.mem_append_left _ (List.mem_append_right _ h)))) hown hK hP 0 rfl rfl 1 (by decide) (hts (.fieldLink RX6 16 "Seekwell$Question" "newest" "LSeekwell$Node;") (by decide +kernel)) (fun _ h9 => h9) rfl dX6_fresh_26 ?_
  refine va_get (D := (dC, dI)) (ci := 8) (v := .ref q3) (C := RX5) (T := TX5) (N := 17) hx hb hts (fun _ h => List.mem_cons_of_mem _ (List.mem_append_left _ (List.mem_append_right _ h))) hown hK hP 1 rfl rfl 16 (by decide) (hts (.fieldLink RX6 22 "Seekwell$Node" "later" "LSeekwell$Node;") (by decide +kernel)) (fun _ h9 => h9) rfl dX6_fresh_29 ?_
  refine va_put (D := (dC, dI)) (ci := 9) (v := .ref q3) (ty := (.object "Seekwell$Node")) (C := RX6) (T := TX6) (N := 3) hx hb hts (fun _ h => List.mem_cons_of_mem _ (List.mem_append_left _ (List.mem_append_left _ (List.mem_append_right _ h)))) tyX6 tyX6_ok nmX6 hown hK hP hD hS 0 rfl rfl 1 (by decide) (hts (.fieldLink RX6 16 "Seekwell$Question" "newest" "LSeekwell$Node;") (by decide +kernel)) (fun _ h9 => h9) rfl (by decide +kernel) rfl rfl (Nat.le_of_ble_eq_true rfl) dX6_fresh_32 (fun H locs hP hD hS => ?_)
  have hP : va_P (dC, dI) vwCl [(q0, .inr (9, [.ref q1, .ref q3, .null])), (q1, .inr (8, [.int 0, .int 0, .int 1, .int 0, .int 0, .int 0, .ref q2, .null, .null, .null, .null, .int 0, .int 0, .int 0, .int 0, .null, .ref q3])), (q3, .inr (8, [.int 0, .int 0, .int 1, .int 0, .int 0, .int 0, .ref q4, .null, .null, .null, .null, .int 0, .int 0, .int 0, .int 0, .null, .null])), (q4, .inr (10, [.ref q5, .int 0]))] H := hP
  have hD : va_D A [(q0, .inr (9, [.ref q1, .ref q3, .null])), (q1, .inr (8, [.int 0, .int 0, .int 1, .int 0, .int 0, .int 0, .ref q2, .null, .null, .null, .null, .int 0, .int 0, .int 0, .int 0, .null, .ref q3])), (q3, .inr (8, [.int 0, .int 0, .int 1, .int 0, .int 0, .int 0, .ref q4, .null, .null, .null, .null, .int 0, .int 0, .int 0, .int 0, .null, .null])), (q4, .inr (10, [.ref q5, .int 0]))] := hD
  refine lv_aload_n hx hb dX6_fresh_35 rfl (lv_at hl 0 rfl) ?_
  refine va_get (D := (dC, dI)) (ci := 9) (v := .ref q3) (C := RX6) (T := TX6) (N := 3) hx hb hts (fun _ h => List.mem_cons_of_mem _ (List.mem_append_left _ (List.mem_append_left _ (List.mem_append_right _ h)))) hown hK hP 0 rfl rfl 1 (by decide) (hts (.fieldLink RX6 16 "Seekwell$Question" "newest" "LSeekwell$Node;") (by decide +kernel)) (fun _ h9 => h9) rfl dX6_fresh_36 ?_
  refine lv_iload_n hx hb dX6_fresh_39 rfl (lv_at hl 1 rfl) ?_
  have hPc := hP.sub (ws' := [(q3, .inr (8, [.int 0, .int 0, .int 1, .int 0, .int 0, .int 0, .ref q4, .null, .null, .null, .null, .int 0, .int 0, .int 0, .int 0, .null, .null])), (q4, .inr (10, [.ref q5, .int 0]))]) [2, 3] rfl
  have hDc := hD.sub (ws' := [(q3, .inr (8, [.int 0, .int 0, .int 1, .int 0, .int 0, .int 0, .ref q4, .null, .null, .null, .null, .int 0, .int 0, .int 0, .int 0, .null, .null])), (q4, .inr (10, [.ref q5, .int 0]))]) [2, 3] (by decide) rfl
  have hKc := hK.sub (tys' := []) [] rfl
  have hFc := va_free (wc := [(q3, .inr (8, [.int 0, .int 0, .int 1, .int 0, .int 0, .int 0, .ref q4, .null, .null, .null, .null, .int 0, .int 0, .int 0, .int 0, .null, .null])), (q4, .inr (10, [.ref q5, .int 0]))]) hD hS hA [2, 3] rfl
  refine va_callv (va_runV (As := [.int 7]) (rest := []) ⟨hx, hb, hml, hown, hts⟩ (c_X5_reset l dC dI q3 q4 q5 H.size  ) (cwV 1 hts gX6_fresh_X5_reset rfl rfl rfl (by decide +kernel) ⟨Nat.le_of_ble_eq_true rfl, Nat.le_of_ble_eq_true rfl⟩) ⟨zB_blind, va_recv hK hP (ci := 8) (q0 := 2) rfl rfl, (zPre hPc hDc hKc hS hFc hZ hN)⟩ rfl rfl hl.1 rfl (lv_room (Nat.le_of_ble_eq_true rfl)) dX6_fresh_40 ⟨Nat.le_of_ble_eq_true rfl, Nat.le_of_ble_eq_true rfl⟩) hS (fun q _ h => hFc q h) hFc (fun u t H1 locs ht hvm hw hB hz1 hk1 hS => ?_)
  obtain ⟨hP1, hK1, hD1⟩ := hB
  rw [ht] at hP1
  have hK1 := va_K.moved hvm.symm hK1
  obtain ⟨hP, hD⟩ := va_join (wr := [(q0, .inr (9, [.ref q1, .ref q3, .null]))]) (w1 := [(q3, .inr (8, [.int 7, .int 0, .int 1, .int 0, .int 0, .int 0, .ref q4, .null, .null, .null, .null, .int 0, .int 0, .int 0, .int 0, .null, .null]))]) hP hD [2, 3] [0] rfl rfl (by decide) (by decide) hk1 hFc hP1 hD1
  have hK := (hK.sub (tys' := []) [] rfl).app hK1
  generalize H1 = H at hP hS ⊢
  have hP : va_P (dC, dI) vwCl [(q0, .inr (9, [.ref q1, .ref q3, .null])), (q3, .inr (8, [.int 7, .int 0, .int 1, .int 0, .int 0, .int 0, .ref q4, .null, .null, .null, .null, .int 0, .int 0, .int 0, .int 0, .null, .null]))] H := hP
  have hD : va_D A [(q0, .inr (9, [.ref q1, .ref q3, .null])), (q3, .inr (8, [.int 7, .int 0, .int 1, .int 0, .int 0, .int 0, .ref q4, .null, .null, .null, .null, .int 0, .int 0, .int 0, .int 0, .null, .null]))] := hD
  have hK : va_K (dC, dI) vwCl [] s := hK
  refine W.widen (k := 3) (n := 23) (Nat.le_of_ble_eq_true rfl) (Nat.le_of_ble_eq_true rfl) ?_
  refine lv_aload_n hx hb dX6_fresh_43 rfl (lv_at hl 0 rfl) ?_
  refine va_get (D := (dC, dI)) (ci := 9) (v := .ref q3) (C := RX6) (T := TX6) (N := 3) hx hb hts (fun _ h => List.mem_cons_of_mem _ (List.mem_append_left _ (List.mem_append_left _ (List.mem_append_right _ h)))) hown hK hP 0 rfl rfl 1 (by decide) (hts (.fieldLink RX6 16 "Seekwell$Question" "newest" "LSeekwell$Node;") (by decide +kernel)) (fun _ h9 => h9) rfl dX6_fresh_44 ?_
  have hP9 := hP.sub (ws' := [(q0, .inr (9, [.ref q1, .ref q3, .null])), (q3, .inr (8, [.int 7, .int 0, .int 1, .int 0, .int 0, .int 0, .ref q4, .null, .null, .null, .null, .int 0, .int 0, .int 0, .int 0, .null, .null]))]) [0, 1] rfl
  have hD9 := hD.sub (ws' := [(q0, .inr (9, [.ref q1, .ref q3, .null])), (q3, .inr (8, [.int 7, .int 0, .int 1, .int 0, .int 0, .int 0, .ref q4, .null, .null, .null, .null, .int 0, .int 0, .int 0, .int 0, .null, .null]))]) [0, 1] (by decide) rfl
  have hK9 := hK.sub (tys' := []) [] rfl
  exact W.aret (v := .ref q3) hx hb hr (Or.inl ⟨_, rfl⟩) (Or.inr ⟨_, rfl⟩) (fun t ht hW => ⟨⟨(), q3, rfl, trivial, q3, q4, rfl, ⟨by rw [ht]; exact hP9, va_K.moved hW.alike hK9, hD9⟩⟩, hS.F ht⟩) hS.2.2 dX6_fresh_47
set_option maxHeartbeats 4000000 in
set_option maxRecDepth 100000 in
theorem c_X5_empty_2 (l : Launch) (dC : Nat → ClassId) (dI : Nat → Nat → Nat) (q0 q1 : Nat) (sz : Nat) : Met l yX5_empty wsX5_empty ({ frames := 0, cells := 0, slots := 0, locals := 0 }) (va_Pc [.ref q0] (zB (dC, dI) [] [(q0, .inr (8, [.int 6, .int 0, .int 1, .int 0, .int 0, .int 0, .ref q1, .null, .null, .null, .null, .int 0, .int 0, .int 0, .int 0, .null, .null]))] sz)) (va_Qv (fun (_ : Unit) => True) (fun _ t => zE (dC, dI) [] [(q0, .inr (8, [.int 6, .int 0, .int 1, .int 0, .int 0, .int 0, .ref q1, .null, .null, .null, .null, .int 0, .int 0, .int 0, .int 0, .null, .null]))] (va_A [(q0, .inr (8, [.int 6, .int 0, .int 1, .int 0, .int 0, .int 0, .ref q1, .null, .null, .null, .null, .int 0, .int 0, .int 0, .int 0, .null, .null]))] sz) t) (va_A [(q0, .inr (8, [.int 6, .int 0, .int 1, .int 0, .int 0, .int 0, .ref q1, .null, .null, .null, .null, .int 0, .int 0, .int 0, .int 0, .null, .null]))] sz)) 0 0 (va_A [(q0, .inr (8, [.int 6, .int 0, .int 1, .int 0, .int 0, .int 0, .ref q1, .null, .null, .null, .null, .int 0, .int 0, .int 0, .int 0, .null, .null]))] sz) := by
  refine Met.ofW (cc := cX5_empty) (maxL := 1) (ret := none) (by decide) rfl ?_
  intro p e s m args below meth c s₁ B hml hv
  obtain ⟨rfl, hsz, hP, hK, hD0, hZ, hN⟩ := hv
  have hx := B.exec
  have hb := B.bytes
  have hr := B.returns
  have hts := atoms_spec (ws := wsX5_empty) B.pre
  have hown : s.vm.findClass RX5 = some m.cls := findClass_of_methodNamed B.named
  have hlocks := B.notSynchronized
  subst hsz
  have hD := hD0.self (sz := s.heap.size)
  generalize hAe : va_A [(q0, .inr (8, [.int 6, .int 0, .int 1, .int 0, .int 0, .int 0, .ref q1, .null, .null, .null, .null, .int 0, .int 0, .int 0, .int 0, .null, .null]))] s.heap.size = A at hD hZ ⊢
  have hA : ∀ q : Nat, s.heap.size ≤ q → A q := fun q h => by rw [← hAe]; exact Or.inr h
  have hS : va_S A s.heap s.heap [] := va_S.rf
  have hP : va_P (dC, dI) vwCl [(q0, .inr (8, [.int 6, .int 0, .int 1, .int 0, .int 0, .int 0, .ref q1, .null, .null, .null, .null, .int 0, .int 0, .int 0, .int 0, .null, .null]))] s.heap := hP
  have hl := lv_entry ([.ref q0]) (n := 1) (Nat.le_of_ble_eq_true rfl)
  rw [lg_entry_eq]
  generalize (lg_sl ([.ref q0]) ++ List.replicate (1 - (lg_sl ([.ref q0])).length) Slot.unset).toArray = ls at hl ⊢
  have hl : lv_has ls 1 [(0, .ref q0)] := hl
  refine lv_aload_n hx hb dX5_empty_0 rfl (lv_at hl 0 rfl) ?_
  refine lv_null hx hb dX5_empty_1 ?_
  refine va_put (D := (dC, dI)) (ci := 8) (v := .null) (ty := (.object "Seekwell$Node")) (C := RX5) (T := TX5) (N := 17) hx hb hts (fun _ h => List.mem_cons_of_mem _ (List.mem_append_right _ h)) tyX5 tyX5_ok nmX5 hown hK hP hD hS 0 rfl rfl 9 (by decide) (hts (.fieldLink RX5 43 "Seekwell$Node" "first" "LSeekwell$Node;") (by decide +kernel)) (fun _ h9 => h9) rfl (by decide +kernel) rfl rfl (Nat.le_of_ble_eq_true rfl) dX5_empty_2 (fun H locs hP hD hS => ?_)
  have hP : va_P (dC, dI) vwCl [(q0, .inr (8, [.int 6, .int 0, .int 1, .int 0, .int 0, .int 0, .ref q1, .null, .null, .null, .null, .int 0, .int 0, .int 0, .int 0, .null, .null]))] H := hP
  have hD : va_D A [(q0, .inr (8, [.int 6, .int 0, .int 1, .int 0, .int 0, .int 0, .ref q1, .null, .null, .null, .null, .int 0, .int 0, .int 0, .int 0, .null, .null]))] := hD
  refine lv_aload_n hx hb dX5_empty_5 rfl (lv_at hl 0 rfl) ?_
  refine lv_null hx hb dX5_empty_6 ?_
  refine va_put (D := (dC, dI)) (ci := 8) (v := .null) (ty := (.object "Seekwell$Node")) (C := RX5) (T := TX5) (N := 17) hx hb hts (fun _ h => List.mem_cons_of_mem _ (List.mem_append_right _ h)) tyX5 tyX5_ok nmX5 hown hK hP hD hS 0 rfl rfl 10 (by decide) (hts (.fieldLink RX5 46 "Seekwell$Node" "last" "LSeekwell$Node;") (by decide +kernel)) (fun _ h9 => h9) rfl (by decide +kernel) rfl rfl (Nat.le_of_ble_eq_true rfl) dX5_empty_7 (fun H locs hP hD hS => ?_)
  have hP : va_P (dC, dI) vwCl [(q0, .inr (8, [.int 6, .int 0, .int 1, .int 0, .int 0, .int 0, .ref q1, .null, .null, .null, .null, .int 0, .int 0, .int 0, .int 0, .null, .null]))] H := hP
  have hD : va_D A [(q0, .inr (8, [.int 6, .int 0, .int 1, .int 0, .int 0, .int 0, .ref q1, .null, .null, .null, .null, .int 0, .int 0, .int 0, .int 0, .null, .null]))] := hD
  refine lv_aload_n hx hb dX5_empty_10 rfl (lv_at hl 0 rfl) ?_
  refine lv_iconst (v := 0) hx hb dX5_empty_11 (by decide +kernel) ?_
  refine va_put (D := (dC, dI)) (ci := 8) (v := .int 0) (ty := .int) (C := RX5) (T := TX5) (N := 17) hx hb hts (fun _ h => List.mem_cons_of_mem _ (List.mem_append_right _ h)) tyX5 tyX5_ok nmX5 hown hK hP hD hS 0 rfl rfl 11 (by decide) (hts (.fieldLink RX5 49 "Seekwell$Node" "size" "I") (by decide +kernel)) (fun _ h9 => h9) rfl (by decide +kernel) rfl rfl (Nat.le_of_ble_eq_true rfl) dX5_empty_12 (fun H locs hP hD hS => ?_)
  have hP : va_P (dC, dI) vwCl [(q0, .inr (8, [.int 6, .int 0, .int 1, .int 0, .int 0, .int 0, .ref q1, .null, .null, .null, .null, .int 0, .int 0, .int 0, .int 0, .null, .null]))] H := hP
  have hD : va_D A [(q0, .inr (8, [.int 6, .int 0, .int 1, .int 0, .int 0, .int 0, .ref q1, .null, .null, .null, .null, .int 0, .int 0, .int 0, .int 0, .null, .null]))] := hD
  have hP9 := hP.sub (ws' := [(q0, .inr (8, [.int 6, .int 0, .int 1, .int 0, .int 0, .int 0, .ref q1, .null, .null, .null, .null, .int 0, .int 0, .int 0, .int 0, .null, .null]))]) [0] rfl
  have hD9 := hD.sub (ws' := [(q0, .inr (8, [.int 6, .int 0, .int 1, .int 0, .int 0, .int 0, .ref q1, .null, .null, .null, .null, .int 0, .int 0, .int 0, .int 0, .null, .null]))]) [0] (by decide) rfl
  have hK9 := hK.sub (tys' := []) [] rfl
  exact W.vret hx hb hr (fun t ht hW => ⟨⟨(), rfl, trivial, ⟨by rw [ht]; exact hP9, va_K.moved hW.alike hK9, hD9⟩⟩, hS.F ht⟩) hS.2.2 dX5_empty_15
set_option maxHeartbeats 4000000 in
set_option maxRecDepth 100000 in
theorem c_X5_reset_2 (l : Launch) (dC : Nat → ClassId) (dI : Nat → Nat → Nat) (q0 q1 q2 : Nat) (sz : Nat) : Met l yX5_reset wsX5_reset ({ frames := 1, cells := 0, slots := 0, locals := 20 }) (va_Pc [.ref q0, .int 6] (zB (dC, dI) [] [(q0, .inr (8, [.int 0, .int 0, .int 1, .int 0, .int 0, .int 0, .ref q1, .null, .null, .null, .null, .int 0, .int 0, .int 0, .int 0, .null, .null])), (q1, .inr (10, [.ref q2, .int 0]))] sz)) (va_Qv (fun (_ : Unit) => True) (fun _ t => zE (dC, dI) [] [(q0, .inr (8, [.int 6, .int 0, .int 1, .int 0, .int 0, .int 0, .ref q1, .null, .null, .null, .null, .int 0, .int 0, .int 0, .int 0, .null, .null]))] (va_A [(q0, .inr (8, [.int 0, .int 0, .int 1, .int 0, .int 0, .int 0, .ref q1, .null, .null, .null, .null, .int 0, .int 0, .int 0, .int 0, .null, .null])), (q1, .inr (10, [.ref q2, .int 0]))] sz) t) (va_A [(q0, .inr (8, [.int 0, .int 0, .int 1, .int 0, .int 0, .int 0, .ref q1, .null, .null, .null, .null, .int 0, .int 0, .int 0, .int 0, .null, .null])), (q1, .inr (10, [.ref q2, .int 0]))] sz)) 0 0 (va_A [(q0, .inr (8, [.int 0, .int 0, .int 1, .int 0, .int 0, .int 0, .ref q1, .null, .null, .null, .null, .int 0, .int 0, .int 0, .int 0, .null, .null])), (q1, .inr (10, [.ref q2, .int 0]))] sz) := by
  refine Met.ofW (cc := cX5_reset) (maxL := 2) (ret := none) (by decide) rfl ?_
  intro p e s m args below meth c s₁ B hml hv
  obtain ⟨rfl, hsz, hP, hK, hD0, hZ, hN⟩ := hv
  have hx := B.exec
  have hb := B.bytes
  have hr := B.returns
  have hts := atoms_spec (ws := wsX5_reset) B.pre
  have hown : s.vm.findClass RX5 = some m.cls := findClass_of_methodNamed B.named
  have hlocks := B.notSynchronized
  subst hsz
  have hD := hD0.self (sz := s.heap.size)
  generalize hAe : va_A [(q0, .inr (8, [.int 0, .int 0, .int 1, .int 0, .int 0, .int 0, .ref q1, .null, .null, .null, .null, .int 0, .int 0, .int 0, .int 0, .null, .null])), (q1, .inr (10, [.ref q2, .int 0]))] s.heap.size = A at hD hZ ⊢
  have hA : ∀ q : Nat, s.heap.size ≤ q → A q := fun q h => by rw [← hAe]; exact Or.inr h
  have hS : va_S A s.heap s.heap [] := va_S.rf
  have hP : va_P (dC, dI) vwCl [(q0, .inr (8, [.int 0, .int 0, .int 1, .int 0, .int 0, .int 0, .ref q1, .null, .null, .null, .null, .int 0, .int 0, .int 0, .int 0, .null, .null])), (q1, .inr (10, [.ref q2, .int 0]))] s.heap := hP
  have hl := lv_entry ([.ref q0, .int 6]) (n := 2) (Nat.le_of_ble_eq_true rfl)
  rw [lg_entry_eq]
  generalize (lg_sl ([.ref q0, .int 6]) ++ List.replicate (2 - (lg_sl ([.ref q0, .int 6])).length) Slot.unset).toArray = ls at hl ⊢
  have hl : lv_has ls 2 [(0, .ref q0), (1, .int 6)] := hl
  refine lv_aload_n hx hb dX5_reset_0 rfl (lv_at hl 0 rfl) ?_
  refine lv_iload_n hx hb dX5_reset_1 rfl (lv_at hl 1 rfl) ?_
  refine va_put (D := (dC, dI)) (ci := 8) (v := .int 6) (ty := .int) (C := RX5) (T := TX5) (N := 17) hx hb hts (fun _ h => List.mem_cons_of_mem _ (List.mem_append_left _ (List.mem_append_right _ h))) tyX5 tyX5_ok nmX5 hown hK hP hD hS 0 rfl rfl 0 (by decide) (hts (.fieldLink RX5 9 "Seekwell$Node" "kind" "I") (by decide +kernel)) (fun _ h9 => h9) rfl (by decide +kernel) rfl rfl (Nat.le_of_ble_eq_true rfl) dX5_reset_2 (fun H locs hP hD hS => ?_)
  have hP : va_P (dC, dI) vwCl [(q0, .inr (8, [.int 6, .int 0, .int 1, .int 0, .int 0, .int 0, .ref q1, .null, .null, .null, .null, .int 0, .int 0, .int 0, .int 0, .null, .null])), (q1, .inr (10, [.ref q2, .int 0]))] H := hP
  have hD : va_D A [(q0, .inr (8, [.int 6, .int 0, .int 1, .int 0, .int 0, .int 0, .ref q1, .null, .null, .null, .null, .int 0, .int 0, .int 0, .int 0, .null, .null])), (q1, .inr (10, [.ref q2, .int 0]))] := hD
  refine lv_aload_n hx hb dX5_reset_5 rfl (lv_at hl 0 rfl) ?_
  refine lv_iconst (v := 0) hx hb dX5_reset_6 (by decide +kernel) ?_
  refine va_put (D := (dC, dI)) (ci := 8) (v := .int 0) (ty := .boolean) (C := RX5) (T := TX5) (N := 17) hx hb hts (fun _ h => List.mem_cons_of_mem _ (List.mem_append_left _ (List.mem_append_right _ h))) tyX5 tyX5_ok nmX5 hown hK hP hD hS 0 rfl rfl 1 (by decide) (hts (.fieldLink RX5 13 "Seekwell$Node" "isNot" "Z") (by decide +kernel)) (fun _ h9 => h9) rfl (by decide +kernel) rfl rfl (Nat.le_of_ble_eq_true rfl) dX5_reset_7 (fun H locs hP hD hS => ?_)
  have hP : va_P (dC, dI) vwCl [(q0, .inr (8, [.int 6, .int 0, .int 1, .int 0, .int 0, .int 0, .ref q1, .null, .null, .null, .null, .int 0, .int 0, .int 0, .int 0, .null, .null])), (q1, .inr (10, [.ref q2, .int 0]))] H := hP
  have hD : va_D A [(q0, .inr (8, [.int 6, .int 0, .int 1, .int 0, .int 0, .int 0, .ref q1, .null, .null, .null, .null, .int 0, .int 0, .int 0, .int 0, .null, .null])), (q1, .inr (10, [.ref q2, .int 0]))] := hD
  refine lv_aload_n hx hb dX5_reset_10 rfl (lv_at hl 0 rfl) ?_
  refine lv_iconst (v := 1) hx hb dX5_reset_11 (by decide +kernel) ?_
  refine va_put (D := (dC, dI)) (ci := 8) (v := .int 1) (ty := .int) (C := RX5) (T := TX5) (N := 17) hx hb hts (fun _ h => List.mem_cons_of_mem _ (List.mem_append_left _ (List.mem_append_right _ h))) tyX5 tyX5_ok nmX5 hown hK hP hD hS 0 rfl rfl 2 (by decide) (hts (.fieldLink RX5 17 "Seekwell$Node" "weight" "I") (by decide +kernel)) (fun _ h9 => h9) rfl (by decide +kernel) rfl rfl (Nat.le_of_ble_eq_true rfl) dX5_reset_12 (fun H locs hP hD hS => ?_)
  have hP : va_P (dC, dI) vwCl [(q0, .inr (8, [.int 6, .int 0, .int 1, .int 0, .int 0, .int 0, .ref q1, .null, .null, .null, .null, .int 0, .int 0, .int 0, .int 0, .null, .null])), (q1, .inr (10, [.ref q2, .int 0]))] H := hP
  have hD : va_D A [(q0, .inr (8, [.int 6, .int 0, .int 1, .int 0, .int 0, .int 0, .ref q1, .null, .null, .null, .null, .int 0, .int 0, .int 0, .int 0, .null, .null])), (q1, .inr (10, [.ref q2, .int 0]))] := hD
  refine lv_aload_n hx hb dX5_reset_15 rfl (lv_at hl 0 rfl) ?_
  refine lv_iconst (v := 0) hx hb dX5_reset_16 (by decide +kernel) ?_
  refine va_put (D := (dC, dI)) (ci := 8) (v := .int 0) (ty := .int) (C := RX5) (T := TX5) (N := 17) hx hb hts (fun _ h => List.mem_cons_of_mem _ (List.mem_append_left _ (List.mem_append_right _ h))) tyX5 tyX5_ok nmX5 hown hK hP hD hS 0 rfl rfl 3 (by decide) (hts (.fieldLink RX5 20 "Seekwell$Node" "where" "I") (by decide +kernel)) (fun _ h9 => h9) rfl (by decide +kernel) rfl rfl (Nat.le_of_ble_eq_true rfl) dX5_reset_17 (fun H locs hP hD hS => ?_)
  have hP : va_P (dC, dI) vwCl [(q0, .inr (8, [.int 6, .int 0, .int 1, .int 0, .int 0, .int 0, .ref q1, .null, .null, .null, .null, .int 0, .int 0, .int 0, .int 0, .null, .null])), (q1, .inr (10, [.ref q2, .int 0]))] H := hP
  have hD : va_D A [(q0, .inr (8, [.int 6, .int 0, .int 1, .int 0, .int 0, .int 0, .ref q1, .null, .null, .null, .null, .int 0, .int 0, .int 0, .int 0, .null, .null])), (q1, .inr (10, [.ref q2, .int 0]))] := hD
  refine lv_aload_n hx hb dX5_reset_20 rfl (lv_at hl 0 rfl) ?_
  refine lv_iconst (v := 0) hx hb dX5_reset_21 (by decide +kernel) ?_
  refine va_put (D := (dC, dI)) (ci := 8) (v := .int 0) (ty := .int) (C := RX5) (T := TX5) (N := 17) hx hb hts (fun _ h => List.mem_cons_of_mem _ (List.mem_append_left _ (List.mem_append_right _ h))) tyX5 tyX5_ok nmX5 hown hK hP hD hS 0 rfl rfl 4 (by decide) (hts (.fieldLink RX5 23 "Seekwell$Node" "low" "I") (by decide +kernel)) (fun _ h9 => h9) rfl (by decide +kernel) rfl rfl (Nat.le_of_ble_eq_true rfl) dX5_reset_22 (fun H locs hP hD hS => ?_)
  have hP : va_P (dC, dI) vwCl [(q0, .inr (8, [.int 6, .int 0, .int 1, .int 0, .int 0, .int 0, .ref q1, .null, .null, .null, .null, .int 0, .int 0, .int 0, .int 0, .null, .null])), (q1, .inr (10, [.ref q2, .int 0]))] H := hP
  have hD : va_D A [(q0, .inr (8, [.int 6, .int 0, .int 1, .int 0, .int 0, .int 0, .ref q1, .null, .null, .null, .null, .int 0, .int 0, .int 0, .int 0, .null, .null])), (q1, .inr (10, [.ref q2, .int 0]))] := hD
  refine lv_aload_n hx hb dX5_reset_25 rfl (lv_at hl 0 rfl) ?_
  refine lv_iconst (v := 0) hx hb dX5_reset_26 (by decide +kernel) ?_
  refine va_put (D := (dC, dI)) (ci := 8) (v := .int 0) (ty := .int) (C := RX5) (T := TX5) (N := 17) hx hb hts (fun _ h => List.mem_cons_of_mem _ (List.mem_append_left _ (List.mem_append_right _ h))) tyX5 tyX5_ok nmX5 hown hK hP hD hS 0 rfl rfl 5 (by decide) (hts (.fieldLink RX5 26 "Seekwell$Node" "high" "I") (by decide +kernel)) (fun _ h9 => h9) rfl (by decide +kernel) rfl rfl (Nat.le_of_ble_eq_true rfl) dX5_reset_27 (fun H locs hP hD hS => ?_)
  have hP : va_P (dC, dI) vwCl [(q0, .inr (8, [.int 6, .int 0, .int 1, .int 0, .int 0, .int 0, .ref q1, .null, .null, .null, .null, .int 0, .int 0, .int 0, .int 0, .null, .null])), (q1, .inr (10, [.ref q2, .int 0]))] H := hP
  have hD : va_D A [(q0, .inr (8, [.int 6, .int 0, .int 1, .int 0, .int 0, .int 0, .ref q1, .null, .null, .null, .null, .int 0, .int 0, .int 0, .int 0, .null, .null])), (q1, .inr (10, [.ref q2, .int 0]))] := hD
  refine lv_aload_n hx hb dX5_reset_30 rfl (lv_at hl 0 rfl) ?_
  refine va_get (D := (dC, dI)) (ci := 8) (v := .ref q1) (C := RX5) (T := TX5) (N := 17) hx hb hts (fun _ h => List.mem_cons_of_mem _ (List.mem_append_left _ (List.mem_append_right _ h))) hown hK hP 0 rfl rfl 6 (by decide) (hts (.fieldLink RX5 32 "Seekwell$Node" "row" "LSeekwell$Row;") (by decide +kernel)) (fun _ h9 => h9) rfl dX5_reset_31 ?_
  have hPc := hP.sub (ws' := [(q1, .inr (10, [.ref q2, .int 0]))]) [1] rfl
  have hDc := hD.sub (ws' := [(q1, .inr (10, [.ref q2, .int 0]))]) [1] (by decide) rfl
  have hKc := hK.sub (tys' := []) [] rfl
  have hFc := va_free (wc := [(q1, .inr (10, [.ref q2, .int 0]))]) hD hS hA [1] rfl
  refine va_callv (va_runV (As := []) (rest := []) ⟨hx, hb, hml, hown, hts⟩ (c_X7_clear l dC dI q1 q2 H.size  ) (cwV 0 hts gX5_reset_X7_clear rfl rfl rfl (by decide +kernel) ⟨Nat.le_of_ble_eq_true rfl, Nat.le_of_ble_eq_true rfl⟩) ⟨zB_blind, va_recv hK hP (ci := 10) (q0 := 1) rfl rfl, (zPre hPc hDc hKc hS hFc hZ hN)⟩ rfl rfl hl.1 rfl (lv_room (Nat.le_of_ble_eq_true rfl)) dX5_reset_34 ⟨Nat.le_of_ble_eq_true rfl, Nat.le_of_ble_eq_true rfl⟩) hS (fun q _ h => hFc q h) hFc (fun u t H1 locs ht hvm hw hB hz1 hk1 hS => ?_)
  obtain ⟨hP1, hK1, hD1⟩ := hB
  rw [ht] at hP1
  have hK1 := va_K.moved hvm.symm hK1
  obtain ⟨hP, hD⟩ := va_join (wr := [(q0, .inr (8, [.int 6, .int 0, .int 1, .int 0, .int 0, .int 0, .ref q1, .null, .null, .null, .null, .int 0, .int 0, .int 0, .int 0, .null, .null]))]) (w1 := []) hP hD [1] [0] rfl rfl (by decide) (by decide) hk1 hFc hP1 hD1
  have hK := (hK.sub (tys' := []) [] rfl).app hK1
  generalize H1 = H at hP hS ⊢
  have hP : va_P (dC, dI) vwCl [(q0, .inr (8, [.int 6, .int 0, .int 1, .int 0, .int 0, .int 0, .ref q1, .null, .null, .null, .null, .int 0, .int 0, .int 0, .int 0, .null, .null]))] H := hP
  have hD : va_D A [(q0, .inr (8, [.int 6, .int 0, .int 1, .int 0, .int 0, .int 0, .ref q1, .null, .null, .null, .null, .int 0, .int 0, .int 0, .int 0, .null, .null]))] := hD
  have hK : va_K (dC, dI) vwCl [] s := hK
  refine W.widen (k := 0) (n := 0) (Nat.le_of_ble_eq_true rfl) (Nat.le_of_ble_eq_true rfl) ?_
  refine lv_aload_n hx hb dX5_reset_37 rfl (lv_at hl 0 rfl) ?_
  refine lv_null hx hb dX5_reset_38 ?_
  refine va_put (D := (dC, dI)) (ci := 8) (v := .null) (ty := (.object "Seekwell$Node")) (C := RX5) (T := TX5) (N := 17) hx hb hts (fun _ h => List.mem_cons_of_mem _ (List.mem_append_left _ (List.mem_append_right _ h))) tyX5 tyX5_ok nmX5 hown hK hP hD hS 0 rfl rfl 7 (by decide) (hts (.fieldLink RX5 36 "Seekwell$Node" "parent" "LSeekwell$Node;") (by decide +kernel)) (fun _ h9 => h9) rfl (by decide +kernel) rfl rfl (Nat.le_of_ble_eq_true rfl) dX5_reset_39 (fun H locs hP hD hS => ?_)
  have hP : va_P (dC, dI) vwCl [(q0, .inr (8, [.int 6, .int 0, .int 1, .int 0, .int 0, .int 0, .ref q1, .null, .null, .null, .null, .int 0, .int 0, .int 0, .int 0, .null, .null]))] H := hP
  have hD : va_D A [(q0, .inr (8, [.int 6, .int 0, .int 1, .int 0, .int 0, .int 0, .ref q1, .null, .null, .null, .null, .int 0, .int 0, .int 0, .int 0, .null, .null]))] := hD
  refine lv_aload_n hx hb dX5_reset_42 rfl (lv_at hl 0 rfl) ?_
  refine lv_null hx hb dX5_reset_43 ?_
  refine va_put (D := (dC, dI)) (ci := 8) (v := .null) (ty := (.object "Seekwell$Node")) (C := RX5) (T := TX5) (N := 17) hx hb hts (fun _ h => List.mem_cons_of_mem _ (List.mem_append_left _ (List.mem_append_right _ h))) tyX5 tyX5_ok nmX5 hown hK hP hD hS 0 rfl rfl 8 (by decide) (hts (.fieldLink RX5 40 "Seekwell$Node" "next" "LSeekwell$Node;") (by decide +kernel)) (fun _ h9 => h9) rfl (by decide +kernel) rfl rfl (Nat.le_of_ble_eq_true rfl) dX5_reset_44 (fun H locs hP hD hS => ?_)
  have hP : va_P (dC, dI) vwCl [(q0, .inr (8, [.int 6, .int 0, .int 1, .int 0, .int 0, .int 0, .ref q1, .null, .null, .null, .null, .int 0, .int 0, .int 0, .int 0, .null, .null]))] H := hP
  have hD : va_D A [(q0, .inr (8, [.int 6, .int 0, .int 1, .int 0, .int 0, .int 0, .ref q1, .null, .null, .null, .null, .int 0, .int 0, .int 0, .int 0, .null, .null]))] := hD
  refine lv_aload_n hx hb dX5_reset_47 rfl (lv_at hl 0 rfl) ?_
  have hPc := hP.sub (ws' := [(q0, .inr (8, [.int 6, .int 0, .int 1, .int 0, .int 0, .int 0, .ref q1, .null, .null, .null, .null, .int 0, .int 0, .int 0, .int 0, .null, .null]))]) [0] rfl
  have hDc := hD.sub (ws' := [(q0, .inr (8, [.int 6, .int 0, .int 1, .int 0, .int 0, .int 0, .ref q1, .null, .null, .null, .null, .int 0, .int 0, .int 0, .int 0, .null, .null]))]) [0] (by decide) rfl
  have hKc := hK.sub (tys' := []) [] rfl
  have hFc := va_free (wc := [(q0, .inr (8, [.int 6, .int 0, .int 1, .int 0, .int 0, .int 0, .ref q1, .null, .null, .null, .null, .int 0, .int 0, .int 0, .int 0, .null, .null]))]) hD hS hA [0] rfl
  refine va_callv (va_runV (As := []) (rest := []) ⟨hx, hb, hml, hown, hts⟩ (c_X5_empty_2 l dC dI q0 q1 H.size  ) (cwV 0 hts gX5_reset_X5_empty rfl rfl rfl (by decide +kernel) ⟨Nat.le_of_ble_eq_true rfl, Nat.le_of_ble_eq_true rfl⟩) ⟨zB_blind, va_recv hK hP (ci := 8) (q0 := 0) rfl rfl, (zPre hPc hDc hKc hS hFc hZ hN)⟩ rfl rfl hl.1 rfl (lv_room (Nat.le_of_ble_eq_true rfl)) dX5_reset_48 ⟨Nat.le_of_ble_eq_true rfl, Nat.le_of_ble_eq_true rfl⟩) hS (fun q _ h => hFc q h) hFc (fun u t H1 locs ht hvm hw hB hz1 hk1 hS => ?_)
  obtain ⟨hP1, hK1, hD1⟩ := hB
  rw [ht] at hP1
  have hK1 := va_K.moved hvm.symm hK1
  obtain ⟨hP, hD⟩ := va_join (wr := []) (w1 := [(q0, .inr (8, [.int 6, .int 0, .int 1, .int 0, .int 0, .int 0, .ref q1, .null, .null, .null, .null, .int 0, .int 0, .int 0, .int 0, .null, .null]))]) hP hD [0] [] rfl rfl (by decide) (by decide) hk1 hFc hP1 hD1
  have hK := (hK.sub (tys' := []) [] rfl).app hK1
  generalize H1 = H at hP hS ⊢
  have hP : va_P (dC, dI) vwCl [(q0, .inr (8, [.int 6, .int 0, .int 1, .int 0, .int 0, .int 0, .ref q1, .null, .null, .null, .null, .int 0, .int 0, .int 0, .int 0, .null, .null]))] H := hP
  have hD : va_D A [(q0, .inr (8, [.int 6, .int 0, .int 1, .int 0, .int 0, .int 0, .ref q1, .null, .null, .null, .null, .int 0, .int 0, .int 0, .int 0, .null, .null]))] := hD
  have hK : va_K (dC, dI) vwCl [] s := hK
  refine W.widen (k := 0) (n := 0) (Nat.le_of_ble_eq_true rfl) (Nat.le_of_ble_eq_true rfl) ?_
  have hP9 := hP.sub (ws' := [(q0, .inr (8, [.int 6, .int 0, .int 1, .int 0, .int 0, .int 0, .ref q1, .null, .null, .null, .null, .int 0, .int 0, .int 0, .int 0, .null, .null]))]) [0] rfl
  have hD9 := hD.sub (ws' := [(q0, .inr (8, [.int 6, .int 0, .int 1, .int 0, .int 0, .int 0, .ref q1, .null, .null, .null, .null, .int 0, .int 0, .int 0, .int 0, .null, .null]))]) [0] (by decide) rfl
  have hK9 := hK.sub (tys' := []) [] rfl
  exact W.vret hx hb hr (fun t ht hW => ⟨⟨(), rfl, trivial, ⟨by rw [ht]; exact hP9, va_K.moved hW.alike hK9, hD9⟩⟩, hS.F ht⟩) hS.2.2 dX5_reset_51
set_option maxHeartbeats 4000000 in
set_option maxRecDepth 100000 in
theorem c_X6_fresh_2 (l : Launch) (dC : Nat → ClassId) (dI : Nat → Nat → Nat) (q0 q1 q2 q3 : Nat) (sz : Nat) : Met l yX6_fresh wsX6_fresh ({ frames := 3, cells := 3, slots := 23, locals := 60 }) (va_Pc [.ref q0, .int 6] (zB (dC, dI) [] [(q0, .inr (9, [.ref q1, .ref q2, .null])), (q2, .inr (8, [.int 7, .int 0, .int 1, .int 0, .int 0, .int 0, .ref q3, .null, .null, .null, .null, .int 0, .int 0, .int 0, .int 0, .null, .null]))] sz)) (va_Qr (fun (_ : Unit) => True) (fun _ ra t => ∃ q4 : Nat, ∃ q5 : Nat, q4 = ra ∧ zE (dC, dI) [] [(q0, .inr (9, [.ref q1, .ref q4, .null])), (q4, .inr (8, [.int 6, .int 0, .int 1, .int 0, .int 0, .int 0, .ref q5, .null, .null, .null, .null, .int 0, .int 0, .int 0, .int 0, .null, .null]))] (va_A [(q0, .inr (9, [.ref q1, .ref q2, .null])), (q2, .inr (8, [.int 7, .int 0, .int 1, .int 0, .int 0, .int 0, .ref q3, .null, .null, .null, .null, .int 0, .int 0, .int 0, .int 0, .null, .null]))] sz) t) (va_A [(q0, .inr (9, [.ref q1, .ref q2, .null])), (q2, .inr (8, [.int 7, .int 0, .int 1, .int 0, .int 0, .int 0, .ref q3, .null, .null, .null, .null, .int 0, .int 0, .int 0, .int 0, .null, .null]))] sz)) 3 23 (va_A [(q0, .inr (9, [.ref q1, .ref q2, .null])), (q2, .inr (8, [.int 7, .int 0, .int 1, .int 0, .int 0, .int 0, .ref q3, .null, .null, .null, .null, .int 0, .int 0, .int 0, .int 0, .null, .null]))] sz) := by
  refine Met.ofW (cc := cX6_fresh) (maxL := 2) (ret := (some (.object "Seekwell$Node"))) (by decide) rfl ?_
  intro p e s m args below meth c s₁ B hml hv
  obtain ⟨rfl, hsz, hP, hK, hD0, hZ, hN⟩ := hv
  have hx := B.exec
  have hb := B.bytes
  have hr := B.returns
  have hts := atoms_spec (ws := wsX6_fresh) B.pre
  have hown : s.vm.findClass RX6 = some m.cls := findClass_of_methodNamed B.named
  have hlocks := B.notSynchronized
  subst hsz
  have hD := hD0.self (sz := s.heap.size)
  generalize hAe : va_A [(q0, .inr (9, [.ref q1, .ref q2, .null])), (q2, .inr (8, [.int 7, .int 0, .int 1, .int 0, .int 0, .int 0, .ref q3, .null, .null, .null, .null, .int 0, .int 0, .int 0, .int 0, .null, .null]))] s.heap.size = A at hD hZ ⊢
  have hA : ∀ q : Nat, s.heap.size ≤ q → A q := fun q h => by rw [← hAe]; exact Or.inr h
  have hS : va_S A s.heap s.heap [] := va_S.rf
  have hP : va_P (dC, dI) vwCl [(q0, .inr (9, [.ref q1, .ref q2, .null])), (q2, .inr (8, [.int 7, .int 0, .int 1, .int 0, .int 0, .int 0, .ref q3, .null, .null, .null, .null, .int 0, .int 0, .int 0, .int 0, .null, .null]))] s.heap := hP
  have hl := lv_entry ([.ref q0, .int 6]) (n := 2) (Nat.le_of_ble_eq_true rfl)
  rw [lg_entry_eq]
  generalize (lg_sl ([.ref q0, .int 6]) ++ List.replicate (2 - (lg_sl ([.ref q0, .int 6])).length) Slot.unset).toArray = ls at hl ⊢
  have hl : lv_has ls 2 [(0, .ref q0), (1, .int 6)] := hl
  refine lv_aload_n hx hb dX6_fresh_0 rfl (lv_at hl 0 rfl) ?_
  refine va_get (D := (dC, dI)) (ci := 9) (v := .ref q2) (C := RX6) (T := TX6) (N := 3) hx hb hts (fun _ h => List.mem_cons_of_mem _ (List.mem_append_left _ (List.mem_append_left _ (List.mem_append_right _ h)))) hown hK hP 0 rfl rfl 1 (by decide) (hts (.fieldLink RX6 16 "Seekwell$Question" "newest" "LSeekwell$Node;") (by decide +kernel)) (fun _ h9 => h9) rfl dX6_fresh_1 ?_
  refine va_get (D := (dC, dI)) (ci := 8) (v := .null) (C := RX5) (T := TX5) (N := 17) hx hb hts (fun _ h => List.mem_cons_of_mem _ (List.mem_append_left _ (List.mem_append_right _ h))) hown hK hP 1 rfl rfl 16 (by decide) (hts (.fieldLink RX6 22 "Seekwell$Node" "later" "LSeekwell$Node;") (by decide +kernel)) (fun _ h9 => h9) rfl dX6_fresh_4 ?_
  refine lv_ifnonnullN hx hb dX6_fresh_7 ?_
  refine lv_aload_n hx hb dX6_fresh_10 rfl (lv_at hl 0 rfl) ?_
  refine va_get (D := (dC, dI)) (ci := 9) (v := .ref q2) (C := RX6) (T := TX6) (N := 3) hx hb hts (fun _ h => List.mem_cons_of_mem _ (List.mem_append_left _ (List.mem_append_left _ (List.mem_append_right _ h)))) hown hK hP 0 rfl rfl 1 (by decide) (hts (.fieldLink RX6 16 "Seekwell$Question" "newest" "LSeekwell$Node;") (by decide +kernel)) (fun _ h9 => h9) rfl dX6_fresh_11 ?_
  refine va_new (D := (dC, dI)) (ci := 8) (fs := [.int 0, .int 0, .int 0, .int 0, .int 0, .int 0, .null, .null, .null, .null, .null, .int 0, .int 0, .int 0, .int 0, .null, .null]) (C := RX5) (T := TX5) (N := 17) hx hb hts (fun _ h => List.mem_cons_of_mem _ (List.mem_append_left _ (List.mem_append_right _ h))) tyX5 tyX5_ok hown (hts (.classLink RX6 7 RX5) (by decide +kernel)) (hts (.instantiable RX5 17) (by decide +kernel)) (hts (.initialized RX5) (by decide +kernel)) hK hP hD hS hA rfl (zfs (by decide)) (Nat.le_of_ble_eq_true rfl) (Nat.le_of_ble_eq_true rfl) dX6_fresh_14 (fun q4 H hP hD hS => ?_)
  have hP : va_P (dC, dI) vwCl [(q0, .inr (9, [.ref q1, .ref q2, .null])), (q2, .inr (8, [.int 7, .int 0, .int 1, .int 0, .int 0, .int 0, .ref q3, .null, .null, .null, .null, .int 0, .int 0, .int 0, .int 0, .null, .null])), (q4, .inr (8, [.int 0, .int 0, .int 0, .int 0, .int 0, .int 0, .null, .null, .null, .null, .null, .int 0, .int 0, .int 0, .int 0, .null, .null]))] H := hP
  have hD : va_D A [(q0, .inr (9, [.ref q1, .ref q2, .null])), (q2, .inr (8, [.int 7, .int 0, .int 1, .int 0, .int 0, .int 0, .ref q3, .null, .null, .null, .null, .int 0, .int 0, .int 0, .int 0, .null, .null])), (q4, .inr (8, [.int 0, .int 0, .int 0, .int 0, .int 0, .int 0, .null, .null, .null, .null, .null, .int 0, .int 0, .int 0, .int 0, .null, .null]))] := hD
  refine W.widen (k := 1) (n := 17) (Nat.le_of_ble_eq_true rfl) (Nat.le_of_ble_eq_true rfl) ?_
  refine lv_dup hx hb dX6_fresh_17 rfl ?_
  have hPc := hP.sub (ws' := [(q4, .inr (8, [.int 0, .int 0, .int 0, .int 0, .int 0, .int 0, .null, .null, .null, .null, .null, .int 0, .int 0, .int 0, .int 0, .null, .null]))]) [2] rfl
  have hDc := hD.sub (ws' := [(q4, .inr (8, [.int 0, .int 0, .int 0, .int 0, .int 0, .int 0, .null, .null, .null, .null, .null, .int 0, .int 0, .int 0, .int 0, .null, .null]))]) [2] (by decide) rfl
  have hKc := hK.sub (tys' := []) [] rfl
  have hFc := va_free (wc := [(q4, .inr (8, [.int 0, .int 0, .int 0, .int 0, .int 0, .int 0, .null, .null, .null, .null, .null, .int 0, .int 0, .int 0, .int 0, .null, .null]))]) hD hS hA [2] rfl
  refine va_callv (va_runIN (As := []) (rest := [.ref q4, .ref q2]) ⟨hx, hb, hml, hown, hts⟩ (c_X5_init_3 l dC dI q4 H.size  ) ⟨va_cnB (host := "Seekwell") 0 hts gX6_fresh_X5_init_n9 rfl rfl rfl (hN.1 (RX6, 9, yX5_init, "Seekwell") (by decide +kernel)) (hts (.initialized RX5) (by decide +kernel)) (by decide +kernel) ⟨Nat.le_of_ble_eq_true rfl, Nat.le_of_ble_eq_true rfl⟩, rfl, hts (.instanceMethod yX5_init) (by decide +kernel)⟩ ⟨zB_blind, (zPre hPc hDc hKc hS hFc hZ hN)⟩ rfl rfl hl.1 rfl (lv_room (Nat.le_of_ble_eq_true rfl)) dX6_fresh_18 ⟨Nat.le_of_ble_eq_true rfl, Nat.le_of_ble_eq_true rfl⟩) hS (fun q _ h => hFc q h) hFc (fun u t H1 locs ht hvm hw hB hz1 hk1 hS => ?_)
  obtain ⟨q5, q6, hP1, hK1, hD1⟩ := hB
  rw [ht] at hP1
  have hK1 := va_K.moved hvm.symm hK1
  obtain ⟨hP, hD⟩ := va_join (wr := [(q0, .inr (9, [.ref q1, .ref q2, .null])), (q2, .inr (8, [.int 7, .int 0, .int 1, .int 0, .int 0, .int 0, .ref q3, .null, .null, .null, .null, .int 0, .int 0, .int 0, .int 0, .null, .null]))]) (w1 := [(q4, .inr (8, [.int 0, .int 0, .int 1, .int 0, .int 0, .int 0, .ref q5, .null, .null, .null, .null, .int 0, .int 0, .int 0, .int 0, .null, .null])), (q5, .inr (10, [.ref q6, .int 0]))]) hP hD [2] [0, 1] rfl rfl (by decide) (by decide) hk1 hFc hP1 hD1
  have hK := (hK.sub (tys' := []) [] rfl).app hK1
  generalize H1 = H at hP hS ⊢
  have hP : va_P (dC, dI) vwCl [(q0, .inr (9, [.ref q1, .ref q2, .null])), (q2, .inr (8, [.int 7, .int 0, .int 1, .int 0, .int 0, .int 0, .ref q3, .null, .null, .null, .null, .int 0, .int 0, .int 0, .int 0, .null, .null])), (q4, .inr (8, [.int 0, .int 0, .int 1, .int 0, .int 0, .int 0, .ref q5, .null, .null, .null, .null, .int 0, .int 0, .int 0, .int 0, .null, .null])), (q5, .inr (10, [.ref q6, .int 0]))] H := hP
  have hD : va_D A [(q0, .inr (9, [.ref q1, .ref q2, .null])), (q2, .inr (8, [.int 7, .int 0, .int 1, .int 0, .int 0, .int 0, .ref q3, .null, .null, .null, .null, .int 0, .int 0, .int 0, .int 0, .null, .null])), (q4, .inr (8, [.int 0, .int 0, .int 1, .int 0, .int 0, .int 0, .ref q5, .null, .null, .null, .null, .int 0, .int 0, .int 0, .int 0, .null, .null])), (q5, .inr (10, [.ref q6, .int 0]))] := hD
  have hK : va_K (dC, dI) vwCl [] s := hK
  refine W.widen (k := 3) (n := 23) (Nat.le_of_ble_eq_true rfl) (Nat.le_of_ble_eq_true rfl) ?_
  refine va_put (D := (dC, dI)) (ci := 8) (v := .ref q4) (ty := (.object "Seekwell$Node")) (C := RX5) (T := TX5) (N := 17) hx hb hts (fun _ h => List.mem_cons_of_mem _ (List.mem_append_left _ (List.mem_append_right _ h))) tyX5 tyX5_ok nmX5 hown hK hP hD hS 1 rfl rfl 16 (by decide) (hts (.fieldLink RX6 22 "Seekwell$Node" "later" "LSeekwell$Node;") (by decide +kernel)) (fun _ h9 => h9) rfl (by decide +kernel) rfl rfl (Nat.le_of_ble_eq_true rfl) dX6_fresh_21 (fun H locs hP hD hS => ?_)
  have hP : va_P (dC, dI) vwCl [(q0, .inr (9, [.ref q1, .ref q2, .null])), (q2, .inr (8, [.int 7, .int 0, .int 1, .int 0, .int 0, .int 0, .ref q3, .null, .null, .null, .null, .int 0, .int 0, .int 0, .int 0, .null, .ref q4])), (q4, .inr (8, [.int 0, .int 0, .int 1, .int 0, .int 0, .int 0, .ref q5, .null, .null, .null, .null, .int 0, .int 0, .int 0, .int 0, .null, .null])), (q5, .inr (10, [.ref q6, .int 0]))] H := hP
  have hD : va_D A [(q0, .inr (9, [.ref q1, .ref q2, .null])), (q2, .inr (8, [.int 7, .int 0, .int 1, .int 0, .int 0, .int 0, .ref q3, .null, .null, .null, .null, .int 0, .int 0, .int 0, .int 0, .null, .ref q4])), (q4, .inr (8, [.int 0, .int 0, .int 1, .int 0, .int 0, .int 0, .ref q5, .null, .null, .null, .null, .int 0, .int 0, .int 0, .int 0, .null, .null])), (q5, .inr (10, [.ref q6, .int 0]))] := hD
  refine lv_aload_n hx hb dX6_fresh_24 rfl (lv_at hl 0 rfl) ?_
  refine lv_aload_n hx hb dX6_fresh_25 rfl (lv_at hl 0 rfl) ?_
  refine va_get (D := (dC, dI)) (ci := 9) (v := .ref q2) (C := RX6) (T := TX6) (N := 3) hx hb hts (fun _ h => List.mem_cons_of_mem _ (List.mem_append_left _ (List.mem_append_left _ (List.mem_append_right _ h)))) hown hK hP 0 rfl rfl 1 (by decide) (hts (.fieldLink RX6 16 "Seekwell$Question" "newest" "LSeekwell$Node;") (by decide +kernel)) (fun _ h9 => h9) rfl dX6_fresh_26 ?_
  refine va_get (D := (dC, dI)) (ci := 8) (v := .ref q4) (C := RX5) (T := TX5) (N := 17) hx hb hts (fun _ h => List.mem_cons_of_mem _ (List.mem_append_left _ (List.mem_append_right _ h))) hown hK hP 1 rfl rfl 16 (by decide) (hts (.fieldLink RX6 22 "Seekwell$Node" "later" "LSeekwell$Node;") (by decide +kernel)) (fun _ h9 => h9) rfl dX6_fresh_29 ?_
  refine va_put (D := (dC, dI)) (ci := 9) (v := .ref q4) (ty := (.object "Seekwell$Node")) (C := RX6) (T := TX6) (N := 3) hx hb hts (fun _ h => List.mem_cons_of_mem _ (List.mem_append_left _ (List.mem_append_left _ (List.mem_append_right _ h)))) tyX6 tyX6_ok nmX6 hown hK hP hD hS 0 rfl rfl 1 (by decide) (hts (.fieldLink RX6 16 "Seekwell$Question" "newest" "LSeekwell$Node;") (by decide +kernel)) (fun _ h9 => h9) rfl (by decide +kernel) rfl rfl (Nat.le_of_ble_eq_true rfl) dX6_fresh_32 (fun H locs hP hD hS => ?_)
  have hP : va_P (dC, dI) vwCl [(q0, .inr (9, [.ref q1, .ref q4, .null])), (q2, .inr (8, [.int 7, .int 0, .int 1, .int 0, .int 0, .int 0, .ref q3, .null, .null, .null, .null, .int 0, .int 0, .int 0, .int 0, .null, .ref q4])), (q4, .inr (8, [.int 0, .int 0, .int 1, .int 0, .int 0, .int 0, .ref q5, .null, .null, .null, .null, .int 0, .int 0, .int 0, .int 0, .null, .null])), (q5, .inr (10, [.ref q6, .int 0]))] H := hP
  have hD : va_D A [(q0, .inr (9, [.ref q1, .ref q4, .null])), (q2, .inr (8, [.int 7, .int 0, .int 1, .int 0, .int 0, .int 0, .ref q3, .null, .null, .null, .null, .int 0, .int 0, .int 0, .int 0, .null, .ref q4])), (q4, .inr (8, [.int 0, .int 0, .int 1, .int 0, .int 0, .int 0, .ref q5, .null, .null, .null, .null, .int 0, .int 0, .int 0, .int 0, .null, .null])), (q5, .inr (10, [.ref q6, .int 0]))] := hD
  refine lv_aload_n hx hb dX6_fresh_35 rfl (lv_at hl 0 rfl) ?_
  refine va_get (D := (dC, dI)) (ci := 9) (v := .ref q4) (C := RX6) (T := TX6) (N := 3) hx hb hts (fun _ h => List.mem_cons_of_mem _ (List.mem_append_left _ (List.mem_append_left _ (List.mem_append_right _ h)))) hown hK hP 0 rfl rfl 1 (by decide) (hts (.fieldLink RX6 16 "Seekwell$Question" "newest" "LSeekwell$Node;") (by decide +kernel)) (fun _ h9 => h9) rfl dX6_fresh_36 ?_
  refine lv_iload_n hx hb dX6_fresh_39 rfl (lv_at hl 1 rfl) ?_
  have hPc := hP.sub (ws' := [(q4, .inr (8, [.int 0, .int 0, .int 1, .int 0, .int 0, .int 0, .ref q5, .null, .null, .null, .null, .int 0, .int 0, .int 0, .int 0, .null, .null])), (q5, .inr (10, [.ref q6, .int 0]))]) [2, 3] rfl
  have hDc := hD.sub (ws' := [(q4, .inr (8, [.int 0, .int 0, .int 1, .int 0, .int 0, .int 0, .ref q5, .null, .null, .null, .null, .int 0, .int 0, .int 0, .int 0, .null, .null])), (q5, .inr (10, [.ref q6, .int 0]))]) [2, 3] (by decide) rfl
  have hKc := hK.sub (tys' := []) [] rfl
  have hFc := va_free (wc := [(q4, .inr (8, [.int 0, .int 0, .int 1, .int 0, .int 0, .int 0, .ref q5, .null, .null, .null, .null, .int 0, .int 0, .int 0, .int 0, .null, .null])), (q5, .inr (10, [.ref q6, .int 0]))]) hD hS hA [2, 3] rfl
  refine va_callv (va_runV (As := [.int 6]) (rest := []) ⟨hx, hb, hml, hown, hts⟩ (c_X5_reset_2 l dC dI q4 q5 q6 H.size  ) (cwV 1 hts gX6_fresh_X5_reset rfl rfl rfl (by decide +kernel) ⟨Nat.le_of_ble_eq_true rfl, Nat.le_of_ble_eq_true rfl⟩) ⟨zB_blind, va_recv hK hP (ci := 8) (q0 := 2) rfl rfl, (zPre hPc hDc hKc hS hFc hZ hN)⟩ rfl rfl hl.1 rfl (lv_room (Nat.le_of_ble_eq_true rfl)) dX6_fresh_40 ⟨Nat.le_of_ble_eq_true rfl, Nat.le_of_ble_eq_true rfl⟩) hS (fun q _ h => hFc q h) hFc (fun u t H1 locs ht hvm hw hB hz1 hk1 hS => ?_)
  obtain ⟨hP1, hK1, hD1⟩ := hB
  rw [ht] at hP1
  have hK1 := va_K.moved hvm.symm hK1
  obtain ⟨hP, hD⟩ := va_join (wr := [(q0, .inr (9, [.ref q1, .ref q4, .null]))]) (w1 := [(q4, .inr (8, [.int 6, .int 0, .int 1, .int 0, .int 0, .int 0, .ref q5, .null, .null, .null, .null, .int 0, .int 0, .int 0, .int 0, .null, .null]))]) hP hD [2, 3] [0] rfl rfl (by decide) (by decide) hk1 hFc hP1 hD1
  have hK := (hK.sub (tys' := []) [] rfl).app hK1
  generalize H1 = H at hP hS ⊢
  have hP : va_P (dC, dI) vwCl [(q0, .inr (9, [.ref q1, .ref q4, .null])), (q4, .inr (8, [.int 6, .int 0, .int 1, .int 0, .int 0, .int 0, .ref q5, .null, .null, .null, .null, .int 0, .int 0, .int 0, .int 0, .null, .null]))] H := hP
  have hD : va_D A [(q0, .inr (9, [.ref q1, .ref q4, .null])), (q4, .inr (8, [.int 6, .int 0, .int 1, .int 0, .int 0, .int 0, .ref q5, .null, .null, .null, .null, .int 0, .int 0, .int 0, .int 0, .null, .null]))] := hD
  have hK : va_K (dC, dI) vwCl [] s := hK
  refine W.widen (k := 3) (n := 23) (Nat.le_of_ble_eq_true rfl) (Nat.le_of_ble_eq_true rfl) ?_
  refine lv_aload_n hx hb dX6_fresh_43 rfl (lv_at hl 0 rfl) ?_
  refine va_get (D := (dC, dI)) (ci := 9) (v := .ref q4) (C := RX6) (T := TX6) (N := 3) hx hb hts (fun _ h => List.mem_cons_of_mem _ (List.mem_append_left _ (List.mem_append_left _ (List.mem_append_right _ h)))) hown hK hP 0 rfl rfl 1 (by decide) (hts (.fieldLink RX6 16 "Seekwell$Question" "newest" "LSeekwell$Node;") (by decide +kernel)) (fun _ h9 => h9) rfl dX6_fresh_44 ?_
  have hP9 := hP.sub (ws' := [(q0, .inr (9, [.ref q1, .ref q4, .null])), (q4, .inr (8, [.int 6, .int 0, .int 1, .int 0, .int 0, .int 0, .ref q5, .null, .null, .null, .null, .int 0, .int 0, .int 0, .int 0, .null, .null]))]) [0, 1] rfl
  have hD9 := hD.sub (ws' := [(q0, .inr (9, [.ref q1, .ref q4, .null])), (q4, .inr (8, [.int 6, .int 0, .int 1, .int 0, .int 0, .int 0, .ref q5, .null, .null, .null, .null, .int 0, .int 0, .int 0, .int 0, .null, .null]))]) [0, 1] (by decide) rfl
  have hK9 := hK.sub (tys' := []) [] rfl
  exact W.aret (v := .ref q4) hx hb hr (Or.inl ⟨_, rfl⟩) (Or.inr ⟨_, rfl⟩) (fun t ht hW => ⟨⟨(), q4, rfl, trivial, q4, q5, rfl, ⟨by rw [ht]; exact hP9, va_K.moved hW.alike hK9, hD9⟩⟩, hS.F ht⟩) hS.2.2 dX6_fresh_47
set_option maxHeartbeats 4000000 in
set_option maxRecDepth 100000 in
theorem c_X0_beginTerms (l : Launch) (dC : Nat → ClassId) (dI : Nat → Nat → Nat) (q0 q1 q2 q3 q4 q5 : Nat) (sz : Nat) : Met l yX0_beginTerms wsX0_beginTerms ({ frames := 4, cells := 3, slots := 23, locals := 81 }) (va_Pc [.ref q0, .ref q1] (zB (dC, dI) [] [(q0, .inr (3, [.ref q2, .ref q3, .int 0, .int 0, .null])), (q3, .inr (9, [.ref q4, .ref q1, .null])), (q1, .inr (8, [.int 7, .int 0, .int 1, .int 0, .int 0, .int 0, .ref q5, .null, .null, .null, .null, .int 0, .int 0, .int 0, .int 0, .null, .null]))] sz)) (va_Qv (fun (_ : Unit) => True) (fun _ t => ∃ q6 : Nat, ∃ q7 : Nat, zE (dC, dI) [] [(q0, .inr (3, [.ref q2, .ref q3, .int 0, .int 0, .ref q6])), (q3, .inr (9, [.ref q4, .ref q6, .null])), (q6, .inr (8, [.int 6, .int 0, .int 1, .int 0, .int 0, .int 0, .ref q7, .ref q1, .null, .null, .null, .int 0, .int 0, .int 0, .int 0, .null, .null]))] (va_A [(q0, .inr (3, [.ref q2, .ref q3, .int 0, .int 0, .null])), (q3, .inr (9, [.ref q4, .ref q1, .null])), (q1, .inr (8, [.int 7, .int 0, .int 1, .int 0, .int 0, .int 0, .ref q5, .null, .null, .null, .null, .int 0, .int 0, .int 0, .int 0, .null, .null]))] sz) t) (va_A [(q0, .inr (3, [.ref q2, .ref q3, .int 0, .int 0, .null])), (q3, .inr (9, [.ref q4, .ref q1, .null])), (q1, .inr (8, [.int 7, .int 0, .int 1, .int 0, .int 0, .int 0, .ref q5, .null, .null, .null, .null, .int 0, .int 0, .int 0, .int 0, .null, .null]))] sz)) 3 23 (va_A [(q0, .inr (3, [.ref q2, .ref q3, .int 0, .int 0, .null])), (q3, .inr (9, [.ref q4, .ref q1, .null])), (q1, .inr (8, [.int 7, .int 0, .int 1, .int 0, .int 0, .int 0, .ref q5, .null, .null, .null, .null, .int 0, .int 0, .int 0, .int 0, .null, .null]))] sz) := by
  refine Met.ofW (cc := cX0_beginTerms) (maxL := 2) (ret := none) (by decide) rfl ?_
  intro p e s m args below meth c s₁ B hml hv
  obtain ⟨rfl, hsz, hP, hK, hD0, hZ, hN⟩ := hv
  have hx := B.exec
  have hb := B.bytes
  have hr := B.returns
  have hts := atoms_spec (ws := wsX0_beginTerms) B.pre
  have hown : s.vm.findClass RX0 = some m.cls := findClass_of_methodNamed B.named
  have hlocks := B.notSynchronized
  subst hsz
  have hD := hD0.self (sz := s.heap.size)
  generalize hAe : va_A [(q0, .inr (3, [.ref q2, .ref q3, .int 0, .int 0, .null])), (q3, .inr (9, [.ref q4, .ref q1, .null])), (q1, .inr (8, [.int 7, .int 0, .int 1, .int 0, .int 0, .int 0, .ref q5, .null, .null, .null, .null, .int 0, .int 0, .int 0, .int 0, .null, .null]))] s.heap.size = A at hD hZ ⊢
  have hA : ∀ q : Nat, s.heap.size ≤ q → A q := fun q h => by rw [← hAe]; exact Or.inr h
  have hS : va_S A s.heap s.heap [] := va_S.rf
  have hP : va_P (dC, dI) vwCl [(q0, .inr (3, [.ref q2, .ref q3, .int 0, .int 0, .null])), (q3, .inr (9, [.ref q4, .ref q1, .null])), (q1, .inr (8, [.int 7, .int 0, .int 1, .int 0, .int 0, .int 0, .ref q5, .null, .null, .null, .null, .int 0, .int 0, .int 0, .int 0, .null, .null]))] s.heap := hP
  have hl := lv_entry ([.ref q0, .ref q1]) (n := 2) (Nat.le_of_ble_eq_true rfl)
  rw [lg_entry_eq]
  generalize (lg_sl ([.ref q0, .ref q1]) ++ List.replicate (2 - (lg_sl ([.ref q0, .ref q1])).length) Slot.unset).toArray = ls at hl ⊢
  have hl : lv_has ls 2 [(0, .ref q0), (1, .ref q1)] := hl
  refine lv_aload_n hx hb dX0_beginTerms_0 rfl (lv_at hl 0 rfl) ?_
  refine lv_aload_n hx hb dX0_beginTerms_1 rfl (lv_at hl 0 rfl) ?_
  refine va_get (D := (dC, dI)) (ci := 3) (v := .ref q3) (C := RX0) (T := TX0) (N := 5) hx hb hts (fun _ h => List.mem_cons_of_mem _ (List.mem_append_left _ (List.mem_append_left _ (List.mem_append_left _ (List.mem_append_right _ h))))) hown hK hP 0 rfl rfl 1 (by decide) (hts (.fieldLink RX0 15 "Seekwell$Asker" "question" "LSeekwell$Question;") (by decide +kernel)) (fun _ h9 => h9) rfl dX0_beginTerms_2 ?_
  refine lv_bipush (v := 6) hx hb dX0_beginTerms_5 (by decide +kernel) ?_
  have hPc := hP.sub (ws' := [(q3, .inr (9, [.ref q4, .ref q1, .null])), (q1, .inr (8, [.int 7, .int 0, .int 1, .int 0, .int 0, .int 0, .ref q5, .null, .null, .null, .null, .int 0, .int 0, .int 0, .int 0, .null, .null]))]) [1, 2] rfl
  have hDc := hD.sub (ws' := [(q3, .inr (9, [.ref q4, .ref q1, .null])), (q1, .inr (8, [.int 7, .int 0, .int 1, .int 0, .int 0, .int 0, .ref q5, .null, .null, .null, .null, .int 0, .int 0, .int 0, .int 0, .null, .null]))]) [1, 2] (by decide) rfl
  have hKc := hK.sub (tys' := []) [] rfl
  have hFc := va_free (wc := [(q3, .inr (9, [.ref q4, .ref q1, .null])), (q1, .inr (8, [.int 7, .int 0, .int 1, .int 0, .int 0, .int 0, .ref q5, .null, .null, .null, .null, .int 0, .int 0, .int 0, .int 0, .null, .null]))]) hD hS hA [1, 2] rfl
  refine va_callr (va_runV (As := [.int 6]) (rest := [.ref q0]) ⟨hx, hb, hml, hown, hts⟩ (c_X6_fresh_2 l dC dI q3 q4 q1 q5 s.heap.size  ) (cwV 1 hts gX0_beginTerms_X6_fresh rfl rfl rfl (by decide +kernel) ⟨Nat.le_of_ble_eq_true rfl, Nat.le_of_ble_eq_true rfl⟩) ⟨zB_blind, va_recv hK hP (ci := 9) (q0 := 1) rfl rfl, (zPre hPc hDc hKc hS hFc hZ hN)⟩ rfl rfl hl.1 rfl (lv_room (Nat.le_of_ble_eq_true rfl)) dX0_beginTerms_7 ⟨Nat.le_of_ble_eq_true rfl, Nat.le_of_ble_eq_true rfl⟩) hS (fun q _ h => hFc q h) hFc (fun u ra t H1 locs ht hvm hw hB hz1 hk1 hS => ?_)
  obtain ⟨q6, q7, hra, hP1, hK1, hD1⟩ := hB
  subst hra
  rw [ht] at hP1
  have hK1 := va_K.moved hvm.symm hK1
  obtain ⟨hP, hD⟩ := va_join (wr := [(q0, .inr (3, [.ref q2, .ref q3, .int 0, .int 0, .null]))]) (w1 := [(q3, .inr (9, [.ref q4, .ref q6, .null])), (q6, .inr (8, [.int 6, .int 0, .int 1, .int 0, .int 0, .int 0, .ref q7, .null, .null, .null, .null, .int 0, .int 0, .int 0, .int 0, .null, .null]))]) hP hD [1, 2] [0] rfl rfl (by decide) (by decide) hk1 hFc hP1 hD1
  have hK := (hK.sub (tys' := []) [] rfl).app hK1
  generalize H1 = H at hP hS ⊢
  have hP : va_P (dC, dI) vwCl [(q0, .inr (3, [.ref q2, .ref q3, .int 0, .int 0, .null])), (q3, .inr (9, [.ref q4, .ref q6, .null])), (q6, .inr (8, [.int 6, .int 0, .int 1, .int 0, .int 0, .int 0, .ref q7, .null, .null, .null, .null, .int 0, .int 0, .int 0, .int 0, .null, .null]))] H := hP
  have hD : va_D A [(q0, .inr (3, [.ref q2, .ref q3, .int 0, .int 0, .null])), (q3, .inr (9, [.ref q4, .ref q6, .null])), (q6, .inr (8, [.int 6, .int 0, .int 1, .int 0, .int 0, .int 0, .ref q7, .null, .null, .null, .null, .int 0, .int 0, .int 0, .int 0, .null, .null]))] := hD
  have hK : va_K (dC, dI) vwCl [] s := hK
  refine W.widen (k := 3) (n := 23) (Nat.le_of_ble_eq_true rfl) (Nat.le_of_ble_eq_true rfl) ?_
  refine va_put (D := (dC, dI)) (ci := 3) (v := .ref q6) (ty := (.object "Seekwell$Node")) (C := RX0) (T := TX0) (N := 5) hx hb hts (fun _ h => List.mem_cons_of_mem _ (List.mem_append_left _ (List.mem_append_left _ (List.mem_append_left _ (List.mem_append_right _ h))))) tyX0 tyX0_ok nmX0 hown hK hP hD hS 0 rfl rfl 4 (by decide) (hts (.fieldLink RX0 26 "Seekwell$Asker" "terms" "LSeekwell$Node;") (by decide +kernel)) (fun _ h9 => h9) rfl (by decide +kernel) rfl rfl (Nat.le_of_ble_eq_true rfl) dX0_beginTerms_10 (fun H locs hP hD hS => ?_)
  have hP : va_P (dC, dI) vwCl [(q0, .inr (3, [.ref q2, .ref q3, .int 0, .int 0, .ref q6])), (q3, .inr (9, [.ref q4, .ref q6, .null])), (q6, .inr (8, [.int 6, .int 0, .int 1, .int 0, .int 0, .int 0, .ref q7, .null, .null, .null, .null, .int 0, .int 0, .int 0, .int 0, .null, .null]))] H := hP
  have hD : va_D A [(q0, .inr (3, [.ref q2, .ref q3, .int 0, .int 0, .ref q6])), (q3, .inr (9, [.ref q4, .ref q6, .null])), (q6, .inr (8, [.int 6, .int 0, .int 1, .int 0, .int 0, .int 0, .ref q7, .null, .null, .null, .null, .int 0, .int 0, .int 0, .int 0, .null, .null]))] := hD
  refine lv_aload_n hx hb dX0_beginTerms_13 rfl (lv_at hl 0 rfl) ?_
  refine va_get (D := (dC, dI)) (ci := 3) (v := .ref q6) (C := RX0) (T := TX0) (N := 5) hx hb hts (fun _ h => List.mem_cons_of_mem _ (List.mem_append_left _ (List.mem_append_left _ (List.mem_append_left _ (List.mem_append_right _ h))))) hown hK hP 0 rfl rfl 4 (by decide) (hts (.fieldLink RX0 26 "Seekwell$Asker" "terms" "LSeekwell$Node;") (by decide +kernel)) (fun _ h9 => h9) rfl dX0_beginTerms_14 ?_
  refine lv_aload_n hx hb dX0_beginTerms_17 rfl (lv_at hl 1 rfl) ?_
  refine va_put (D := (dC, dI)) (ci := 8) (v := .ref q1) (ty := (.object "Seekwell$Node")) (C := RX5) (T := TX5) (N := 17) hx hb hts (fun _ h => List.mem_cons_of_mem _ (List.mem_append_left _ (List.mem_append_left _ (List.mem_append_right _ h)))) tyX5 tyX5_ok nmX5 hown hK hP hD hS 2 rfl rfl 7 (by decide) (hts (.fieldLink RX0 85 "Seekwell$Node" "parent" "LSeekwell$Node;") (by decide +kernel)) (fun _ h9 => h9) rfl (by decide +kernel) rfl rfl (Nat.le_of_ble_eq_true rfl) dX0_beginTerms_18 (fun H locs hP hD hS => ?_)
  have hP : va_P (dC, dI) vwCl [(q0, .inr (3, [.ref q2, .ref q3, .int 0, .int 0, .ref q6])), (q3, .inr (9, [.ref q4, .ref q6, .null])), (q6, .inr (8, [.int 6, .int 0, .int 1, .int 0, .int 0, .int 0, .ref q7, .ref q1, .null, .null, .null, .int 0, .int 0, .int 0, .int 0, .null, .null]))] H := hP
  have hD : va_D A [(q0, .inr (3, [.ref q2, .ref q3, .int 0, .int 0, .ref q6])), (q3, .inr (9, [.ref q4, .ref q6, .null])), (q6, .inr (8, [.int 6, .int 0, .int 1, .int 0, .int 0, .int 0, .ref q7, .ref q1, .null, .null, .null, .int 0, .int 0, .int 0, .int 0, .null, .null]))] := hD
  have hP9 := hP.sub (ws' := [(q0, .inr (3, [.ref q2, .ref q3, .int 0, .int 0, .ref q6])), (q3, .inr (9, [.ref q4, .ref q6, .null])), (q6, .inr (8, [.int 6, .int 0, .int 1, .int 0, .int 0, .int 0, .ref q7, .ref q1, .null, .null, .null, .int 0, .int 0, .int 0, .int 0, .null, .null]))]) [0, 1, 2] rfl
  have hD9 := hD.sub (ws' := [(q0, .inr (3, [.ref q2, .ref q3, .int 0, .int 0, .ref q6])), (q3, .inr (9, [.ref q4, .ref q6, .null])), (q6, .inr (8, [.int 6, .int 0, .int 1, .int 0, .int 0, .int 0, .ref q7, .ref q1, .null, .null, .null, .int 0, .int 0, .int 0, .int 0, .null, .null]))]) [0, 1, 2] (by decide) rfl
  have hK9 := hK.sub (tys' := []) [] rfl
  exact W.vret hx hb hr (fun t ht hW => ⟨⟨(), rfl, trivial, q6, q7, ⟨by rw [ht]; exact hP9, va_K.moved hW.alike hK9, hD9⟩⟩, hS.F ht⟩) hS.2.2 dX0_beginTerms_21
set_option maxHeartbeats 4000000 in
set_option maxRecDepth 100000 in
theorem c_X0_open (l : Launch) (dC : Nat → ClassId) (dI : Nat → Nat → Nat) (q0 q1 q2 q3 q4 : Nat) (sz : Nat) : Met l yX0_open wsX0_open ({ frames := 5, cells := 6, slots := 46, locals := 102 }) (va_Pc [.ref q0, .int 0] (zB (dC, dI) [] [(q0, .inr (3, [.ref q1, .ref q2, .int 0, .int 0, .null])), (q2, .inr (9, [.ref q3, .ref q3, .null])), (q3, .inr (8, [.int 0, .int 0, .int 1, .int 0, .int 0, .int 0, .ref q4, .null, .null, .null, .null, .int 0, .int 0, .int 0, .int 0, .null, .null]))] sz)) (va_Qv (fun (_ : Unit) => True) (fun _ t => ∃ q5 : Nat, ∃ q6 : Nat, ∃ q7 : Nat, zE (dC, dI) [] [(q0, .inr (3, [.ref q1, .ref q2, .int 0, .int 0, .ref q5])), (q2, .inr (9, [.ref q3, .ref q5, .null])), (q5, .inr (8, [.int 6, .int 0, .int 1, .int 0, .int 0, .int 0, .ref q6, .ref q7, .null, .null, .null, .int 0, .int 0, .int 0, .int 0, .null, .null]))] (va_A [(q0, .inr (3, [.ref q1, .ref q2, .int 0, .int 0, .null])), (q2, .inr (9, [.ref q3, .ref q3, .null])), (q3, .inr (8, [.int 0, .int 0, .int 1, .int 0, .int 0, .int 0, .ref q4, .null, .null, .null, .null, .int 0, .int 0, .int 0, .int 0, .null, .null]))] sz) t) (va_A [(q0, .inr (3, [.ref q1, .ref q2, .int 0, .int 0, .null])), (q2, .inr (9, [.ref q3, .ref q3, .null])), (q3, .inr (8, [.int 0, .int 0, .int 1, .int 0, .int 0, .int 0, .ref q4, .null, .null, .null, .null, .int 0, .int 0, .int 0, .int 0, .null, .null]))] sz)) 6 46 (va_A [(q0, .inr (3, [.ref q1, .ref q2, .int 0, .int 0, .null])), (q2, .inr (9, [.ref q3, .ref q3, .null])), (q3, .inr (8, [.int 0, .int 0, .int 1, .int 0, .int 0, .int 0, .ref q4, .null, .null, .null, .null, .int 0, .int 0, .int 0, .int 0, .null, .null]))] sz) := by
  refine Met.ofW (cc := cX0_open) (maxL := 3) (ret := none) (by decide) rfl ?_
  intro p e s m args below meth c s₁ B hml hv
  obtain ⟨rfl, hsz, hP, hK, hD0, hZ, hN⟩ := hv
  have hx := B.exec
  have hb := B.bytes
  have hr := B.returns
  have hts := atoms_spec (ws := wsX0_open) B.pre
  have hown : s.vm.findClass RX0 = some m.cls := findClass_of_methodNamed B.named
  have hlocks := B.notSynchronized
  subst hsz
  have hD := hD0.self (sz := s.heap.size)
  generalize hAe : va_A [(q0, .inr (3, [.ref q1, .ref q2, .int 0, .int 0, .null])), (q2, .inr (9, [.ref q3, .ref q3, .null])), (q3, .inr (8, [.int 0, .int 0, .int 1, .int 0, .int 0, .int 0, .ref q4, .null, .null, .null, .null, .int 0, .int 0, .int 0, .int 0, .null, .null]))] s.heap.size = A at hD hZ ⊢
  have hA : ∀ q : Nat, s.heap.size ≤ q → A q := fun q h => by rw [← hAe]; exact Or.inr h
  have hS : va_S A s.heap s.heap [] := va_S.rf
  have hP : va_P (dC, dI) vwCl [(q0, .inr (3, [.ref q1, .ref q2, .int 0, .int 0, .null])), (q2, .inr (9, [.ref q3, .ref q3, .null])), (q3, .inr (8, [.int 0, .int 0, .int 1, .int 0, .int 0, .int 0, .ref q4, .null, .null, .null, .null, .int 0, .int 0, .int 0, .int 0, .null, .null]))] s.heap := hP
  have hl := lv_entry ([.ref q0, .int 0]) (n := 3) (Nat.le_of_ble_eq_true rfl)
  rw [lg_entry_eq]
  generalize (lg_sl ([.ref q0, .int 0]) ++ List.replicate (3 - (lg_sl ([.ref q0, .int 0])).length) Slot.unset).toArray = ls at hl ⊢
  have hl : lv_has ls 3 [(0, .ref q0), (1, .int 0)] := hl
  refine lv_aload_n hx hb dX0_open_0 rfl (lv_at hl 0 rfl) ?_
  refine va_get (D := (dC, dI)) (ci := 3) (v := .ref q2) (C := RX0) (T := TX0) (N := 5) hx hb hts (fun _ h => List.mem_cons_of_mem _ (List.mem_append_left _ (List.mem_append_left _ (List.mem_append_left _ (List.mem_append_right _ h))))) hown hK hP 0 rfl rfl 1 (by decide) (hts (.fieldLink RX0 15 "Seekwell$Asker" "question" "LSeekwell$Question;") (by decide +kernel)) (fun _ h9 => h9) rfl dX0_open_1 ?_
  refine lv_bipush (v := 7) hx hb dX0_open_4 (by decide +kernel) ?_
  have hPc := hP.sub (ws' := [(q2, .inr (9, [.ref q3, .ref q3, .null])), (q3, .inr (8, [.int 0, .int 0, .int 1, .int 0, .int 0, .int 0, .ref q4, .null, .null, .null, .null, .int 0, .int 0, .int 0, .int 0, .null, .null]))]) [1, 2] rfl
  have hDc := hD.sub (ws' := [(q2, .inr (9, [.ref q3, .ref q3, .null])), (q3, .inr (8, [.int 0, .int 0, .int 1, .int 0, .int 0, .int 0, .ref q4, .null, .null, .null, .null, .int 0, .int 0, .int 0, .int 0, .null, .null]))]) [1, 2] (by decide) rfl
  have hKc := hK.sub (tys' := []) [] rfl
  have hFc := va_free (wc := [(q2, .inr (9, [.ref q3, .ref q3, .null])), (q3, .inr (8, [.int 0, .int 0, .int 1, .int 0, .int 0, .int 0, .ref q4, .null, .null, .null, .null, .int 0, .int 0, .int 0, .int 0, .null, .null]))]) hD hS hA [1, 2] rfl
  refine va_callr (va_runV (As := [.int 7]) (rest := []) ⟨hx, hb, hml, hown, hts⟩ (c_X6_fresh l dC dI q2 q3 q4 s.heap.size  ) (cwV 1 hts gX0_open_X6_fresh rfl rfl rfl (by decide +kernel) ⟨Nat.le_of_ble_eq_true rfl, Nat.le_of_ble_eq_true rfl⟩) ⟨zB_blind, va_recv hK hP (ci := 9) (q0 := 1) rfl rfl, (zPre hPc hDc hKc hS hFc hZ hN)⟩ rfl rfl hl.1 rfl (lv_room (Nat.le_of_ble_eq_true rfl)) dX0_open_6 ⟨Nat.le_of_ble_eq_true rfl, Nat.le_of_ble_eq_true rfl⟩) hS (fun q _ h => hFc q h) hFc (fun u ra t H1 locs ht hvm hw hB hz1 hk1 hS => ?_)
  obtain ⟨q7, q8, hra, hP1, hK1, hD1⟩ := hB
  subst hra
  rw [ht] at hP1
  have hK1 := va_K.moved hvm.symm hK1
  obtain ⟨hP, hD⟩ := va_join (wr := [(q0, .inr (3, [.ref q1, .ref q2, .int 0, .int 0, .null]))]) (w1 := [(q2, .inr (9, [.ref q3, .ref q7, .null])), (q7, .inr (8, [.int 7, .int 0, .int 1, .int 0, .int 0, .int 0, .ref q8, .null, .null, .null, .null, .int 0, .int 0, .int 0, .int 0, .null, .null]))]) hP hD [1, 2] [0] rfl rfl (by decide) (by decide) hk1 hFc hP1 hD1
  have hK := (hK.sub (tys' := []) [] rfl).app hK1
  generalize H1 = H at hP hS ⊢
  have hP : va_P (dC, dI) vwCl [(q0, .inr (3, [.ref q1, .ref q2, .int 0, .int 0, .null])), (q2, .inr (9, [.ref q3, .ref q7, .null])), (q7, .inr (8, [.int 7, .int 0, .int 1, .int 0, .int 0, .int 0, .ref q8, .null, .null, .null, .null, .int 0, .int 0, .int 0, .int 0, .null, .null]))] H := hP
  have hD : va_D A [(q0, .inr (3, [.ref q1, .ref q2, .int 0, .int 0, .null])), (q2, .inr (9, [.ref q3, .ref q7, .null])), (q7, .inr (8, [.int 7, .int 0, .int 1, .int 0, .int 0, .int 0, .ref q8, .null, .null, .null, .null, .int 0, .int 0, .int 0, .int 0, .null, .null]))] := hD
  have hK : va_K (dC, dI) vwCl [] s := hK
  refine W.widen (k := 3) (n := 23) (Nat.le_of_ble_eq_true rfl) (Nat.le_of_ble_eq_true rfl) ?_
  refine lv_astore_n (lv' := [(2, .ref q7), (0, .ref q0), (1, .int 0)]) hx hb dX0_open_9 rfl hl (by decide) rfl (fun ls hl => ?_)
  refine lv_aload_n hx hb dX0_open_10 rfl (lv_at hl 0 rfl) ?_
  refine lv_iload_n hx hb dX0_open_11 rfl (lv_at hl 2 rfl) ?_
  refine va_put (D := (dC, dI)) (ci := 8) (v := .int 0) (ty := .boolean) (C := RX5) (T := TX5) (N := 17) hx hb hts (fun _ h => List.mem_cons_of_mem _ (List.mem_append_left _ (List.mem_append_left _ (List.mem_append_right _ h)))) tyX5 tyX5_ok nmX5 hown hK hP hD hS 2 rfl rfl 1 (by decide) (hts (.fieldLink RX0 81 "Seekwell$Node" "isNot" "Z") (by decide +kernel)) (fun _ h9 => h9) rfl (by decide +kernel) rfl rfl (Nat.le_of_ble_eq_true rfl) dX0_open_12 (fun H locs hP hD hS => ?_)
  have hP : va_P (dC, dI) vwCl [(q0, .inr (3, [.ref q1, .ref q2, .int 0, .int 0, .null])), (q2, .inr (9, [.ref q3, .ref q7, .null])), (q7, .inr (8, [.int 7, .int 0, .int 1, .int 0, .int 0, .int 0, .ref q8, .null, .null, .null, .null, .int 0, .int 0, .int 0, .int 0, .null, .null]))] H := hP
  have hD : va_D A [(q0, .inr (3, [.ref q1, .ref q2, .int 0, .int 0, .null])), (q2, .inr (9, [.ref q3, .ref q7, .null])), (q7, .inr (8, [.int 7, .int 0, .int 1, .int 0, .int 0, .int 0, .ref q8, .null, .null, .null, .null, .int 0, .int 0, .int 0, .int 0, .null, .null]))] := hD
  refine lv_aload_n hx hb dX0_open_15 rfl (lv_at hl 0 rfl) ?_
  refine lv_aload_n hx hb dX0_open_16 rfl (lv_at hl 1 rfl) ?_
  refine va_get (D := (dC, dI)) (ci := 3) (v := .null) (C := RX0) (T := TX0) (N := 5) hx hb hts (fun _ h => List.mem_cons_of_mem _ (List.mem_append_left _ (List.mem_append_left _ (List.mem_append_left _ (List.mem_append_right _ h))))) hown hK hP 0 rfl rfl 4 (by decide) (hts (.fieldLink RX0 26 "Seekwell$Asker" "terms" "LSeekwell$Node;") (by decide +kernel)) (fun _ h9 => h9) rfl dX0_open_17 ?_
  refine va_put (D := (dC, dI)) (ci := 8) (v := .null) (ty := (.object "Seekwell$Node")) (C := RX5) (T := TX5) (N := 17) hx hb hts (fun _ h => List.mem_cons_of_mem _ (List.mem_append_left _ (List.mem_append_left _ (List.mem_append_right _ h)))) tyX5 tyX5_ok nmX5 hown hK hP hD hS 2 rfl rfl 7 (by decide) (hts (.fieldLink RX0 85 "Seekwell$Node" "parent" "LSeekwell$Node;") (by decide +kernel)) (fun _ h9 => h9) rfl (by decide +kernel) rfl rfl (Nat.le_of_ble_eq_true rfl) dX0_open_20 (fun H locs hP hD hS => ?_)
  have hP : va_P (dC, dI) vwCl [(q0, .inr (3, [.ref q1, .ref q2, .int 0, .int 0, .null])), (q2, .inr (9, [.ref q3, .ref q7, .null])), (q7, .inr (8, [.int 7, .int 0, .int 1, .int 0, .int 0, .int 0, .ref q8, .null, .null, .null, .null, .int 0, .int 0, .int 0, .int 0, .null, .null]))] H := hP
  have hD : va_D A [(q0, .inr (3, [.ref q1, .ref q2, .int 0, .int 0, .null])), (q2, .inr (9, [.ref q3, .ref q7, .null])), (q7, .inr (8, [.int 7, .int 0, .int 1, .int 0, .int 0, .int 0, .ref q8, .null, .null, .null, .null, .int 0, .int 0, .int 0, .int 0, .null, .null]))] := hD
  refine lv_aload_n hx hb dX0_open_23 rfl (lv_at hl 1 rfl) ?_
  refine lv_aload_n hx hb dX0_open_24 rfl (lv_at hl 0 rfl) ?_
  have hPc := hP.sub (ws' := [(q0, .inr (3, [.ref q1, .ref q2, .int 0, .int 0, .null])), (q2, .inr (9, [.ref q3, .ref q7, .null])), (q7, .inr (8, [.int 7, .int 0, .int 1, .int 0, .int 0, .int 0, .ref q8, .null, .null, .null, .null, .int 0, .int 0, .int 0, .int 0, .null, .null]))]) [0, 1, 2] rfl
  have hDc := hD.sub (ws' := [(q0, .inr (3, [.ref q1, .ref q2, .int 0, .int 0, .null])), (q2, .inr (9, [.ref q3, .ref q7, .null])), (q7, .inr (8, [.int 7, .int 0, .int 1, .int 0, .int 0, .int 0, .ref q8, .null, .null, .null, .null, .int 0, .int 0, .int 0, .int 0, .null, .null]))]) [0, 1, 2] (by decide) rfl
  have hKc := hK.sub (tys' := []) [] rfl
  have hFc := va_free (wc := [(q0, .inr (3, [.ref q1, .ref q2, .int 0, .int 0, .null])), (q2, .inr (9, [.ref q3, .ref q7, .null])), (q7, .inr (8, [.int 7, .int 0, .int 1, .int 0, .int 0, .int 0, .ref q8, .null, .null, .null, .null, .int 0, .int 0, .int 0, .int 0, .null, .null]))]) hD hS hA [0, 1, 2] rfl
  refine va_callv (va_runV (As := [.ref q7]) (rest := []) ⟨hx, hb, hml, hown, hts⟩ (c_X0_beginTerms l dC dI q0 q7 q1 q2 q3 q8 H.size  ) (cwV 1 hts gX0_open_X0_beginTerms rfl rfl rfl (by decide +kernel) ⟨Nat.le_of_ble_eq_true rfl, Nat.le_of_ble_eq_true rfl⟩) ⟨zB_blind, va_recv hK hP (ci := 3) (q0 := 0) rfl rfl, (zPre hPc hDc hKc hS hFc hZ hN)⟩ rfl rfl hl.1 rfl (lv_room (Nat.le_of_ble_eq_true rfl)) dX0_open_25 ⟨Nat.le_of_ble_eq_true rfl, Nat.le_of_ble_eq_true rfl⟩) hS (fun q _ h => hFc q h) hFc (fun u t H1 locs ht hvm hw hB hz1 hk1 hS => ?_)
  obtain ⟨q5, q6, hP1, hK1, hD1⟩ := hB
  rw [ht] at hP1
  have hK1 := va_K.moved hvm.symm hK1
  obtain ⟨hP, hD⟩ := va_join (wr := []) (w1 := [(q0, .inr (3, [.ref q1, .ref q2, .int 0, .int 0, .ref q5])), (q2, .inr (9, [.ref q3, .ref q5, .null])), (q5, .inr (8, [.int 6, .int 0, .int 1, .int 0, .int 0, .int 0, .ref q6, .ref q7, .null, .null, .null, .int 0, .int 0, .int 0, .int 0, .null, .null]))]) hP hD [0, 1, 2] [] rfl rfl (by decide) (by decide) hk1 hFc hP1 hD1
  have hK := (hK.sub (tys' := []) [] rfl).app hK1
  generalize H1 = H at hP hS ⊢
  have hP : va_P (dC, dI) vwCl [(q0, .inr (3, [.ref q1, .ref q2, .int 0, .int 0, .ref q5])), (q2, .inr (9, [.ref q3, .ref q5, .null])), (q5, .inr (8, [.int 6, .int 0, .int 1, .int 0, .int 0, .int 0, .ref q6, .ref q7, .null, .null, .null, .int 0, .int 0, .int 0, .int 0, .null, .null]))] H := hP
  have hD : va_D A [(q0, .inr (3, [.ref q1, .ref q2, .int 0, .int 0, .ref q5])), (q2, .inr (9, [.ref q3, .ref q5, .null])), (q5, .inr (8, [.int 6, .int 0, .int 1, .int 0, .int 0, .int 0, .ref q6, .ref q7, .null, .null, .null, .int 0, .int 0, .int 0, .int 0, .null, .null]))] := hD
  have hK : va_K (dC, dI) vwCl [] s := hK
  refine W.widen (k := 6) (n := 46) (Nat.le_of_ble_eq_true rfl) (Nat.le_of_ble_eq_true rfl) ?_
  have hP9 := hP.sub (ws' := [(q0, .inr (3, [.ref q1, .ref q2, .int 0, .int 0, .ref q5])), (q2, .inr (9, [.ref q3, .ref q5, .null])), (q5, .inr (8, [.int 6, .int 0, .int 1, .int 0, .int 0, .int 0, .ref q6, .ref q7, .null, .null, .null, .int 0, .int 0, .int 0, .int 0, .null, .null]))]) [0, 1, 2] rfl
  have hD9 := hD.sub (ws' := [(q0, .inr (3, [.ref q1, .ref q2, .int 0, .int 0, .ref q5])), (q2, .inr (9, [.ref q3, .ref q5, .null])), (q5, .inr (8, [.int 6, .int 0, .int 1, .int 0, .int 0, .int 0, .ref q6, .ref q7, .null, .null, .null, .int 0, .int 0, .int 0, .int 0, .null, .null]))]) [0, 1, 2] (by decide) rfl
  have hK9 := hK.sub (tys' := []) [] rfl
  exact W.vret hx hb hr (fun t ht hW => ⟨⟨(), rfl, trivial, q5, q6, q7, ⟨by rw [ht]; exact hP9, va_K.moved hW.alike hK9, hD9⟩⟩, hS.F ht⟩) hS.2.2 dX0_open_28
set_option maxHeartbeats 4000000 in
set_option maxRecDepth 100000 in
theorem c_X4_at (l : Launch) (dC : Nat → ClassId) (dI : Nat → Nat → Nat) (q0 q1 : Nat) (sz : Nat) : Met l yX4_at wsX4_at ({ frames := 0, cells := 0, slots := 0, locals := 0 }) (va_Pc [.ref q0, .int 0] (zB (dC, dI) [] [(q0, .inr (7, [.ref q1, .int 0]))] sz)) (va_Qi (fun (r : Int32) (_ : Unit) => 0 = r) (fun _ t => zE (dC, dI) [] [(q0, .inr (7, [.ref q1, .int 0]))] (va_A [(q0, .inr (7, [.ref q1, .int 0]))] sz) t) (va_A [(q0, .inr (7, [.ref q1, .int 0]))] sz)) 0 0 (va_A [(q0, .inr (7, [.ref q1, .int 0]))] sz) := by
  refine Met.ofW (cc := cX4_at) (maxL := 2) (ret := (some .char)) (by decide) rfl ?_
  intro p e s m args below meth c s₁ B hml hv
  obtain ⟨rfl, hsz, hP, hK, hD0, hZ, hN⟩ := hv
  have hx := B.exec
  have hb := B.bytes
  have hr := B.returns
  have hts := atoms_spec (ws := wsX4_at) B.pre
  have hown : s.vm.findClass RX4 = some m.cls := findClass_of_methodNamed B.named
  have hlocks := B.notSynchronized
  subst hsz
  have hD := hD0.self (sz := s.heap.size)
  generalize hAe : va_A [(q0, .inr (7, [.ref q1, .int 0]))] s.heap.size = A at hD hZ ⊢
  have hA : ∀ q : Nat, s.heap.size ≤ q → A q := fun q h => by rw [← hAe]; exact Or.inr h
  have hS : va_S A s.heap s.heap [] := va_S.rf
  have hP : va_P (dC, dI) vwCl [(q0, .inr (7, [.ref q1, .int 0]))] s.heap := hP
  have hl := lv_entry ([.ref q0, .int 0]) (n := 2) (Nat.le_of_ble_eq_true rfl)
  rw [lg_entry_eq]
  generalize (lg_sl ([.ref q0, .int 0]) ++ List.replicate (2 - (lg_sl ([.ref q0, .int 0])).length) Slot.unset).toArray = ls at hl ⊢
  have hl : lv_has ls 2 [(0, .ref q0), (1, .int 0)] := hl
  refine lv_iload_n hx hb dX4_at_0 rfl (lv_at hl 1 rfl) ?_
  refine lv_if_lt (tgt := 30) hx hb dX4_at_1 (by decide) (fun h9 => absurd h9 (show ¬ (0 : Int32) < (0 : Int32) by decide +kernel)) (fun _ => ?_)
  refine lv_iload_n hx hb dX4_at_4 rfl (lv_at hl 1 rfl) ?_
  refine lv_aload_n hx hb dX4_at_5 rfl (lv_at hl 0 rfl) ?_
  refine va_get (D := (dC, dI)) (ci := 7) (v := .int 0) (C := RX4) (T := TX4) (N := 2) hx hb hts (fun _ h => List.mem_cons_of_mem _ (List.mem_append_left _ (List.mem_append_right _ h))) hown hK hP 0 rfl rfl 1 (by decide) (hts (.fieldLink RX4 15 "Seekwell$Line" "size" "I") (by decide +kernel)) (fun _ h9 => h9) rfl dX4_at_6 ?_
  refine lv_icmp_ge (tgt := 30) hx hb dX4_at_9 (by decide) (fun _ => ?_) (fun h9 => absurd (show (0 : Int32) ≤ (0 : Int32) by decide +kernel) h9)
  refine lv_iconst (v := 0) hx hb dX4_at_30 (by decide +kernel) ?_
  have hP9 := hP.sub (ws' := [(q0, .inr (7, [.ref q1, .int 0]))]) [0] rfl
  have hD9 := hD.sub (ws' := [(q0, .inr (7, [.ref q1, .int 0]))]) [0] (by decide) rfl
  have hK9 := hK.sub (tys' := []) [] rfl
  exact W.zret (v := 0) hx hb hr (by decide +kernel) (fun t ht hW => ⟨⟨0, (), rfl, rfl, ⟨by rw [ht]; exact hP9, va_K.moved hW.alike hK9, hD9⟩⟩, hS.F ht⟩) hS.2.2 dX4_at_31
set_option maxHeartbeats 4000000 in
set_option maxRecDepth 100000 in
theorem c_X0_take (l : Launch) (dC : Nat → ClassId) (dI : Nat → Nat → Nat) (q0 q1 q2 q3 q4 : Nat) (sz : Nat) : Met l yX0_take wsX0_take ({ frames := 1, cells := 0, slots := 0, locals := 21 }) (va_Pc [.ref q0, .int 33] (zB (dC, dI) [] [(q0, .inr (3, [.ref q1, .ref q2, .int 0, .int 0, .ref q3])), (q1, .inr (7, [.ref q4, .int 0]))] sz)) (va_Qi (fun (r : Int32) (_ : Unit) => 0 = r) (fun _ t => zE (dC, dI) [] [(q0, .inr (3, [.ref q1, .ref q2, .int 0, .int 0, .ref q3])), (q1, .inr (7, [.ref q4, .int 0]))] (va_A [(q0, .inr (3, [.ref q1, .ref q2, .int 0, .int 0, .ref q3])), (q1, .inr (7, [.ref q4, .int 0]))] sz) t) (va_A [(q0, .inr (3, [.ref q1, .ref q2, .int 0, .int 0, .ref q3])), (q1, .inr (7, [.ref q4, .int 0]))] sz)) 0 0 (va_A [(q0, .inr (3, [.ref q1, .ref q2, .int 0, .int 0, .ref q3])), (q1, .inr (7, [.ref q4, .int 0]))] sz) := by
  refine Met.ofW (cc := cX0_take) (maxL := 3) (ret := (some .boolean)) (by decide) rfl ?_
  intro p e s m args below meth c s₁ B hml hv
  obtain ⟨rfl, hsz, hP, hK, hD0, hZ, hN⟩ := hv
  have hx := B.exec
  have hb := B.bytes
  have hr := B.returns
  have hts := atoms_spec (ws := wsX0_take) B.pre
  have hown : s.vm.findClass RX0 = some m.cls := findClass_of_methodNamed B.named
  have hlocks := B.notSynchronized
  subst hsz
  have hD := hD0.self (sz := s.heap.size)
  generalize hAe : va_A [(q0, .inr (3, [.ref q1, .ref q2, .int 0, .int 0, .ref q3])), (q1, .inr (7, [.ref q4, .int 0]))] s.heap.size = A at hD hZ ⊢
  have hA : ∀ q : Nat, s.heap.size ≤ q → A q := fun q h => by rw [← hAe]; exact Or.inr h
  have hS : va_S A s.heap s.heap [] := va_S.rf
  have hP : va_P (dC, dI) vwCl [(q0, .inr (3, [.ref q1, .ref q2, .int 0, .int 0, .ref q3])), (q1, .inr (7, [.ref q4, .int 0]))] s.heap := hP
  have hl := lv_entry ([.ref q0, .int 33]) (n := 3) (Nat.le_of_ble_eq_true rfl)
  rw [lg_entry_eq]
  generalize (lg_sl ([.ref q0, .int 33]) ++ List.replicate (3 - (lg_sl ([.ref q0, .int 33])).length) Slot.unset).toArray = ls at hl ⊢
  have hl : lv_has ls 3 [(0, .ref q0), (1, .int 33)] := hl
  refine lv_aload_n hx hb dX0_take_0 rfl (lv_at hl 0 rfl) ?_
  refine va_get (D := (dC, dI)) (ci := 3) (v := .ref q1) (C := RX0) (T := TX0) (N := 5) hx hb hts (fun _ h => List.mem_cons_of_mem _ (List.mem_append_left _ (List.mem_append_left _ (List.mem_append_right _ h)))) hown hK hP 0 rfl rfl 0 (by decide) (hts (.fieldLink RX0 9 "Seekwell$Asker" "line" "LSeekwell$Line;") (by decide +kernel)) (fun _ h9 => h9) rfl dX0_take_1 ?_
  refine lv_aload_n hx hb dX0_take_4 rfl (lv_at hl 0 rfl) ?_
  refine va_get (D := (dC, dI)) (ci := 3) (v := .int 0) (C := RX0) (T := TX0) (N := 5) hx hb hts (fun _ h => List.mem_cons_of_mem _ (List.mem_append_left _ (List.mem_append_left _ (List.mem_append_right _ h)))) hown hK hP 0 rfl rfl 2 (by decide) (hts (.fieldLink RX0 19 "Seekwell$Asker" "place" "I") (by decide +kernel)) (fun _ h9 => h9) rfl dX0_take_5 ?_
  have hPc := hP.sub (ws' := [(q1, .inr (7, [.ref q4, .int 0]))]) [1] rfl
  have hDc := hD.sub (ws' := [(q1, .inr (7, [.ref q4, .int 0]))]) [1] (by decide) rfl
  have hKc := hK.sub (tys' := []) [] rfl
  have hFc := va_free (wc := [(q1, .inr (7, [.ref q4, .int 0]))]) hD hS hA [1] rfl
  refine va_calli (va_runV (As := [.int 0]) (rest := []) ⟨hx, hb, hml, hown, hts⟩ (c_X4_at l dC dI q1 q4 s.heap.size  ) (cwV 1 hts gX0_take_X4_at rfl rfl rfl (by decide +kernel) ⟨Nat.le_of_ble_eq_true rfl, Nat.le_of_ble_eq_true rfl⟩) ⟨zB_blind, va_recv hK hP (ci := 7) (q0 := 1) rfl rfl, (zPre hPc hDc hKc hS hFc hZ hN)⟩ rfl rfl hl.1 rfl (lv_room (Nat.le_of_ble_eq_true rfl)) dX0_take_8 ⟨Nat.le_of_ble_eq_true rfl, Nat.le_of_ble_eq_true rfl⟩) hS (fun q _ h => hFc q h) hFc (fun r u t H1 locs ht hvm hw hB hz1 hk1 hS => ?_)
  subst hw
  obtain ⟨hP1, hK1, hD1⟩ := hB
  rw [ht] at hP1
  have hK1 := va_K.moved hvm.symm hK1
  obtain ⟨hP, hD⟩ := va_join (wr := [(q0, .inr (3, [.ref q1, .ref q2, .int 0, .int 0, .ref q3]))]) (w1 := [(q1, .inr (7, [.ref q4, .int 0]))]) hP hD [1] [0] rfl rfl (by decide) (by decide) hk1 hFc hP1 hD1
  have hK := (hK.sub (tys' := []) [] rfl).app hK1
  generalize H1 = H at hP hS ⊢
  have hP : va_P (dC, dI) vwCl [(q0, .inr (3, [.ref q1, .ref q2, .int 0, .int 0, .ref q3])), (q1, .inr (7, [.ref q4, .int 0]))] H := hP
  have hD : va_D A [(q0, .inr (3, [.ref q1, .ref q2, .int 0, .int 0, .ref q3])), (q1, .inr (7, [.ref q4, .int 0]))] := hD
  have hK : va_K (dC, dI) vwCl [] s := hK
  refine W.widen (k := 0) (n := 0) (Nat.le_of_ble_eq_true rfl) (Nat.le_of_ble_eq_true rfl) ?_
  refine lv_iload_n hx hb dX0_take_11 rfl (lv_at hl 1 rfl) ?_
  refine lv_icmp_ne (tgt := 19) hx hb dX0_take_12 (by decide) (fun _ => ?_) (fun h9 => absurd h9 (show ¬ (0 : Int32) = (33 : Int32) by decide +kernel))
  refine lv_iconst (v := 0) hx hb dX0_take_19 (by decide +kernel) ?_
  refine lv_istore_n (lv' := [(2, .int 0), (0, .ref q0), (1, .int 33)]) hx hb dX0_take_20 rfl hl (by decide) rfl (fun ls hl => ?_)
  refine lv_iload_n hx hb dX0_take_21 rfl (lv_at hl 0 rfl) ?_
  refine lv_if_eq (tgt := 35) hx hb dX0_take_22 (by decide) (fun _ => ?_) (fun h9 => absurd (show (0 : Int32) = (0 : Int32) by decide +kernel) h9)
  refine lv_iload_n hx hb dX0_take_35 rfl (lv_at hl 0 rfl) ?_
  have hP9 := hP.sub (ws' := [(q0, .inr (3, [.ref q1, .ref q2, .int 0, .int 0, .ref q3])), (q1, .inr (7, [.ref q4, .int 0]))]) [0, 1] rfl
  have hD9 := hD.sub (ws' := [(q0, .inr (3, [.ref q1, .ref q2, .int 0, .int 0, .ref q3])), (q1, .inr (7, [.ref q4, .int 0]))]) [0, 1] (by decide) rfl
  have hK9 := hK.sub (tys' := []) [] rfl
  exact W.zret (v := 0) hx hb hr (by decide +kernel) (fun t ht hW => ⟨⟨0, (), rfl, rfl, ⟨by rw [ht]; exact hP9, va_K.moved hW.alike hK9, hD9⟩⟩, hS.F ht⟩) hS.2.2 dX0_take_36
set_option maxHeartbeats 4000000 in
set_option maxRecDepth 100000 in
theorem c_X0_take_2 (l : Launch) (dC : Nat → ClassId) (dI : Nat → Nat → Nat) (q0 q1 q2 q3 q4 : Nat) (sz : Nat) : Met l yX0_take wsX0_take ({ frames := 1, cells := 0, slots := 0, locals := 21 }) (va_Pc [.ref q0, .int 40] (zB (dC, dI) [] [(q0, .inr (3, [.ref q1, .ref q2, .int 0, .int 0, .ref q3])), (q1, .inr (7, [.ref q4, .int 0]))] sz)) (va_Qi (fun (r : Int32) (_ : Unit) => 0 = r) (fun _ t => zE (dC, dI) [] [(q0, .inr (3, [.ref q1, .ref q2, .int 0, .int 0, .ref q3])), (q1, .inr (7, [.ref q4, .int 0]))] (va_A [(q0, .inr (3, [.ref q1, .ref q2, .int 0, .int 0, .ref q3])), (q1, .inr (7, [.ref q4, .int 0]))] sz) t) (va_A [(q0, .inr (3, [.ref q1, .ref q2, .int 0, .int 0, .ref q3])), (q1, .inr (7, [.ref q4, .int 0]))] sz)) 0 0 (va_A [(q0, .inr (3, [.ref q1, .ref q2, .int 0, .int 0, .ref q3])), (q1, .inr (7, [.ref q4, .int 0]))] sz) := by
  refine Met.ofW (cc := cX0_take) (maxL := 3) (ret := (some .boolean)) (by decide) rfl ?_
  intro p e s m args below meth c s₁ B hml hv
  obtain ⟨rfl, hsz, hP, hK, hD0, hZ, hN⟩ := hv
  have hx := B.exec
  have hb := B.bytes
  have hr := B.returns
  have hts := atoms_spec (ws := wsX0_take) B.pre
  have hown : s.vm.findClass RX0 = some m.cls := findClass_of_methodNamed B.named
  have hlocks := B.notSynchronized
  subst hsz
  have hD := hD0.self (sz := s.heap.size)
  generalize hAe : va_A [(q0, .inr (3, [.ref q1, .ref q2, .int 0, .int 0, .ref q3])), (q1, .inr (7, [.ref q4, .int 0]))] s.heap.size = A at hD hZ ⊢
  have hA : ∀ q : Nat, s.heap.size ≤ q → A q := fun q h => by rw [← hAe]; exact Or.inr h
  have hS : va_S A s.heap s.heap [] := va_S.rf
  have hP : va_P (dC, dI) vwCl [(q0, .inr (3, [.ref q1, .ref q2, .int 0, .int 0, .ref q3])), (q1, .inr (7, [.ref q4, .int 0]))] s.heap := hP
  have hl := lv_entry ([.ref q0, .int 40]) (n := 3) (Nat.le_of_ble_eq_true rfl)
  rw [lg_entry_eq]
  generalize (lg_sl ([.ref q0, .int 40]) ++ List.replicate (3 - (lg_sl ([.ref q0, .int 40])).length) Slot.unset).toArray = ls at hl ⊢
  have hl : lv_has ls 3 [(0, .ref q0), (1, .int 40)] := hl
  refine lv_aload_n hx hb dX0_take_0 rfl (lv_at hl 0 rfl) ?_
  refine va_get (D := (dC, dI)) (ci := 3) (v := .ref q1) (C := RX0) (T := TX0) (N := 5) hx hb hts (fun _ h => List.mem_cons_of_mem _ (List.mem_append_left _ (List.mem_append_left _ (List.mem_append_right _ h)))) hown hK hP 0 rfl rfl 0 (by decide) (hts (.fieldLink RX0 9 "Seekwell$Asker" "line" "LSeekwell$Line;") (by decide +kernel)) (fun _ h9 => h9) rfl dX0_take_1 ?_
  refine lv_aload_n hx hb dX0_take_4 rfl (lv_at hl 0 rfl) ?_
  refine va_get (D := (dC, dI)) (ci := 3) (v := .int 0) (C := RX0) (T := TX0) (N := 5) hx hb hts (fun _ h => List.mem_cons_of_mem _ (List.mem_append_left _ (List.mem_append_left _ (List.mem_append_right _ h)))) hown hK hP 0 rfl rfl 2 (by decide) (hts (.fieldLink RX0 19 "Seekwell$Asker" "place" "I") (by decide +kernel)) (fun _ h9 => h9) rfl dX0_take_5 ?_
  have hPc := hP.sub (ws' := [(q1, .inr (7, [.ref q4, .int 0]))]) [1] rfl
  have hDc := hD.sub (ws' := [(q1, .inr (7, [.ref q4, .int 0]))]) [1] (by decide) rfl
  have hKc := hK.sub (tys' := []) [] rfl
  have hFc := va_free (wc := [(q1, .inr (7, [.ref q4, .int 0]))]) hD hS hA [1] rfl
  refine va_calli (va_runV (As := [.int 0]) (rest := []) ⟨hx, hb, hml, hown, hts⟩ (c_X4_at l dC dI q1 q4 s.heap.size  ) (cwV 1 hts gX0_take_X4_at rfl rfl rfl (by decide +kernel) ⟨Nat.le_of_ble_eq_true rfl, Nat.le_of_ble_eq_true rfl⟩) ⟨zB_blind, va_recv hK hP (ci := 7) (q0 := 1) rfl rfl, (zPre hPc hDc hKc hS hFc hZ hN)⟩ rfl rfl hl.1 rfl (lv_room (Nat.le_of_ble_eq_true rfl)) dX0_take_8 ⟨Nat.le_of_ble_eq_true rfl, Nat.le_of_ble_eq_true rfl⟩) hS (fun q _ h => hFc q h) hFc (fun r u t H1 locs ht hvm hw hB hz1 hk1 hS => ?_)
  subst hw
  obtain ⟨hP1, hK1, hD1⟩ := hB
  rw [ht] at hP1
  have hK1 := va_K.moved hvm.symm hK1
  obtain ⟨hP, hD⟩ := va_join (wr := [(q0, .inr (3, [.ref q1, .ref q2, .int 0, .int 0, .ref q3]))]) (w1 := [(q1, .inr (7, [.ref q4, .int 0]))]) hP hD [1] [0] rfl rfl (by decide) (by decide) hk1 hFc hP1 hD1
  have hK := (hK.sub (tys' := []) [] rfl).app hK1
  generalize H1 = H at hP hS ⊢
  have hP : va_P (dC, dI) vwCl [(q0, .inr (3, [.ref q1, .ref q2, .int 0, .int 0, .ref q3])), (q1, .inr (7, [.ref q4, .int 0]))] H := hP
  have hD : va_D A [(q0, .inr (3, [.ref q1, .ref q2, .int 0, .int 0, .ref q3])), (q1, .inr (7, [.ref q4, .int 0]))] := hD
  have hK : va_K (dC, dI) vwCl [] s := hK
  refine W.widen (k := 0) (n := 0) (Nat.le_of_ble_eq_true rfl) (Nat.le_of_ble_eq_true rfl) ?_
  refine lv_iload_n hx hb dX0_take_11 rfl (lv_at hl 1 rfl) ?_
  refine lv_icmp_ne (tgt := 19) hx hb dX0_take_12 (by decide) (fun _ => ?_) (fun h9 => absurd h9 (show ¬ (0 : Int32) = (40 : Int32) by decide +kernel))
  refine lv_iconst (v := 0) hx hb dX0_take_19 (by decide +kernel) ?_
  refine lv_istore_n (lv' := [(2, .int 0), (0, .ref q0), (1, .int 40)]) hx hb dX0_take_20 rfl hl (by decide) rfl (fun ls hl => ?_)
  refine lv_iload_n hx hb dX0_take_21 rfl (lv_at hl 0 rfl) ?_
  refine lv_if_eq (tgt := 35) hx hb dX0_take_22 (by decide) (fun _ => ?_) (fun h9 => absurd (show (0 : Int32) = (0 : Int32) by decide +kernel) h9)
  refine lv_iload_n hx hb dX0_take_35 rfl (lv_at hl 0 rfl) ?_
  have hP9 := hP.sub (ws' := [(q0, .inr (3, [.ref q1, .ref q2, .int 0, .int 0, .ref q3])), (q1, .inr (7, [.ref q4, .int 0]))]) [0, 1] rfl
  have hD9 := hD.sub (ws' := [(q0, .inr (3, [.ref q1, .ref q2, .int 0, .int 0, .ref q3])), (q1, .inr (7, [.ref q4, .int 0]))]) [0, 1] (by decide) rfl
  have hK9 := hK.sub (tys' := []) [] rfl
  exact W.zret (v := 0) hx hb hr (by decide +kernel) (fun t ht hW => ⟨⟨0, (), rfl, rfl, ⟨by rw [ht]; exact hP9, va_K.moved hW.alike hK9, hD9⟩⟩, hS.F ht⟩) hS.2.2 dX0_take_36
set_option maxHeartbeats 4000000 in
set_option maxRecDepth 100000 in
theorem c_X5_empty_3 (l : Launch) (dC : Nat → ClassId) (dI : Nat → Nat → Nat) (q0 q1 : Nat) (sz : Nat) : Met l yX5_empty wsX5_empty ({ frames := 0, cells := 0, slots := 0, locals := 0 }) (va_Pc [.ref q0] (zB (dC, dI) [] [(q0, .inr (8, [.int 0, .int 0, .int 1, .int 0, .int 0, .int 0, .ref q1, .null, .null, .null, .null, .int 0, .int 0, .int 0, .int 0, .null, .null]))] sz)) (va_Qv (fun (_ : Unit) => True) (fun _ t => zE (dC, dI) [] [(q0, .inr (8, [.int 0, .int 0, .int 1, .int 0, .int 0, .int 0, .ref q1, .null, .null, .null, .null, .int 0, .int 0, .int 0, .int 0, .null, .null]))] (va_A [(q0, .inr (8, [.int 0, .int 0, .int 1, .int 0, .int 0, .int 0, .ref q1, .null, .null, .null, .null, .int 0, .int 0, .int 0, .int 0, .null, .null]))] sz) t) (va_A [(q0, .inr (8, [.int 0, .int 0, .int 1, .int 0, .int 0, .int 0, .ref q1, .null, .null, .null, .null, .int 0, .int 0, .int 0, .int 0, .null, .null]))] sz)) 0 0 (va_A [(q0, .inr (8, [.int 0, .int 0, .int 1, .int 0, .int 0, .int 0, .ref q1, .null, .null, .null, .null, .int 0, .int 0, .int 0, .int 0, .null, .null]))] sz) := by
  refine Met.ofW (cc := cX5_empty) (maxL := 1) (ret := none) (by decide) rfl ?_
  intro p e s m args below meth c s₁ B hml hv
  obtain ⟨rfl, hsz, hP, hK, hD0, hZ, hN⟩ := hv
  have hx := B.exec
  have hb := B.bytes
  have hr := B.returns
  have hts := atoms_spec (ws := wsX5_empty) B.pre
  have hown : s.vm.findClass RX5 = some m.cls := findClass_of_methodNamed B.named
  have hlocks := B.notSynchronized
  subst hsz
  have hD := hD0.self (sz := s.heap.size)
  generalize hAe : va_A [(q0, .inr (8, [.int 0, .int 0, .int 1, .int 0, .int 0, .int 0, .ref q1, .null, .null, .null, .null, .int 0, .int 0, .int 0, .int 0, .null, .null]))] s.heap.size = A at hD hZ ⊢
  have hA : ∀ q : Nat, s.heap.size ≤ q → A q := fun q h => by rw [← hAe]; exact Or.inr h
  have hS : va_S A s.heap s.heap [] := va_S.rf
  have hP : va_P (dC, dI) vwCl [(q0, .inr (8, [.int 0, .int 0, .int 1, .int 0, .int 0, .int 0, .ref q1, .null, .null, .null, .null, .int 0, .int 0, .int 0, .int 0, .null, .null]))] s.heap := hP
  have hl := lv_entry ([.ref q0]) (n := 1) (Nat.le_of_ble_eq_true rfl)
  rw [lg_entry_eq]
  generalize (lg_sl ([.ref q0]) ++ List.replicate (1 - (lg_sl ([.ref q0])).length) Slot.unset).toArray = ls at hl ⊢
  have hl : lv_has ls 1 [(0, .ref q0)] := hl
  refine lv_aload_n hx hb dX5_empty_0 rfl (lv_at hl 0 rfl) ?_
  refine lv_null hx hb dX5_empty_1 ?_
  refine va_put (D := (dC, dI)) (ci := 8) (v := .null) (ty := (.object "Seekwell$Node")) (C := RX5) (T := TX5) (N := 17) hx hb hts (fun _ h => List.mem_cons_of_mem _ (List.mem_append_right _ h)) tyX5 tyX5_ok nmX5 hown hK hP hD hS 0 rfl rfl 9 (by decide) (hts (.fieldLink RX5 43 "Seekwell$Node" "first" "LSeekwell$Node;") (by decide +kernel)) (fun _ h9 => h9) rfl (by decide +kernel) rfl rfl (Nat.le_of_ble_eq_true rfl) dX5_empty_2 (fun H locs hP hD hS => ?_)
  have hP : va_P (dC, dI) vwCl [(q0, .inr (8, [.int 0, .int 0, .int 1, .int 0, .int 0, .int 0, .ref q1, .null, .null, .null, .null, .int 0, .int 0, .int 0, .int 0, .null, .null]))] H := hP
  have hD : va_D A [(q0, .inr (8, [.int 0, .int 0, .int 1, .int 0, .int 0, .int 0, .ref q1, .null, .null, .null, .null, .int 0, .int 0, .int 0, .int 0, .null, .null]))] := hD
  refine lv_aload_n hx hb dX5_empty_5 rfl (lv_at hl 0 rfl) ?_
  refine lv_null hx hb dX5_empty_6 ?_
  refine va_put (D := (dC, dI)) (ci := 8) (v := .null) (ty := (.object "Seekwell$Node")) (C := RX5) (T := TX5) (N := 17) hx hb hts (fun _ h => List.mem_cons_of_mem _ (List.mem_append_right _ h)) tyX5 tyX5_ok nmX5 hown hK hP hD hS 0 rfl rfl 10 (by decide) (hts (.fieldLink RX5 46 "Seekwell$Node" "last" "LSeekwell$Node;") (by decide +kernel)) (fun _ h9 => h9) rfl (by decide +kernel) rfl rfl (Nat.le_of_ble_eq_true rfl) dX5_empty_7 (fun H locs hP hD hS => ?_)
  have hP : va_P (dC, dI) vwCl [(q0, .inr (8, [.int 0, .int 0, .int 1, .int 0, .int 0, .int 0, .ref q1, .null, .null, .null, .null, .int 0, .int 0, .int 0, .int 0, .null, .null]))] H := hP
  have hD : va_D A [(q0, .inr (8, [.int 0, .int 0, .int 1, .int 0, .int 0, .int 0, .ref q1, .null, .null, .null, .null, .int 0, .int 0, .int 0, .int 0, .null, .null]))] := hD
  refine lv_aload_n hx hb dX5_empty_10 rfl (lv_at hl 0 rfl) ?_
  refine lv_iconst (v := 0) hx hb dX5_empty_11 (by decide +kernel) ?_
  refine va_put (D := (dC, dI)) (ci := 8) (v := .int 0) (ty := .int) (C := RX5) (T := TX5) (N := 17) hx hb hts (fun _ h => List.mem_cons_of_mem _ (List.mem_append_right _ h)) tyX5 tyX5_ok nmX5 hown hK hP hD hS 0 rfl rfl 11 (by decide) (hts (.fieldLink RX5 49 "Seekwell$Node" "size" "I") (by decide +kernel)) (fun _ h9 => h9) rfl (by decide +kernel) rfl rfl (Nat.le_of_ble_eq_true rfl) dX5_empty_12 (fun H locs hP hD hS => ?_)
  have hP : va_P (dC, dI) vwCl [(q0, .inr (8, [.int 0, .int 0, .int 1, .int 0, .int 0, .int 0, .ref q1, .null, .null, .null, .null, .int 0, .int 0, .int 0, .int 0, .null, .null]))] H := hP
  have hD : va_D A [(q0, .inr (8, [.int 0, .int 0, .int 1, .int 0, .int 0, .int 0, .ref q1, .null, .null, .null, .null, .int 0, .int 0, .int 0, .int 0, .null, .null]))] := hD
  have hP9 := hP.sub (ws' := [(q0, .inr (8, [.int 0, .int 0, .int 1, .int 0, .int 0, .int 0, .ref q1, .null, .null, .null, .null, .int 0, .int 0, .int 0, .int 0, .null, .null]))]) [0] rfl
  have hD9 := hD.sub (ws' := [(q0, .inr (8, [.int 0, .int 0, .int 1, .int 0, .int 0, .int 0, .ref q1, .null, .null, .null, .null, .int 0, .int 0, .int 0, .int 0, .null, .null]))]) [0] (by decide) rfl
  have hK9 := hK.sub (tys' := []) [] rfl
  exact W.vret hx hb hr (fun t ht hW => ⟨⟨(), rfl, trivial, ⟨by rw [ht]; exact hP9, va_K.moved hW.alike hK9, hD9⟩⟩, hS.F ht⟩) hS.2.2 dX5_empty_15
set_option maxHeartbeats 4000000 in
set_option maxRecDepth 100000 in
theorem c_X5_reset_3 (l : Launch) (dC : Nat → ClassId) (dI : Nat → Nat → Nat) (q0 q1 q2 : Nat) (sz : Nat) : Met l yX5_reset wsX5_reset ({ frames := 1, cells := 0, slots := 0, locals := 20 }) (va_Pc [.ref q0, .int 0] (zB (dC, dI) [] [(q0, .inr (8, [.int 0, .int 0, .int 1, .int 0, .int 0, .int 0, .ref q1, .null, .null, .null, .null, .int 0, .int 0, .int 0, .int 0, .null, .null])), (q1, .inr (10, [.ref q2, .int 0]))] sz)) (va_Qv (fun (_ : Unit) => True) (fun _ t => zE (dC, dI) [] [(q0, .inr (8, [.int 0, .int 0, .int 1, .int 0, .int 0, .int 0, .ref q1, .null, .null, .null, .null, .int 0, .int 0, .int 0, .int 0, .null, .null]))] (va_A [(q0, .inr (8, [.int 0, .int 0, .int 1, .int 0, .int 0, .int 0, .ref q1, .null, .null, .null, .null, .int 0, .int 0, .int 0, .int 0, .null, .null])), (q1, .inr (10, [.ref q2, .int 0]))] sz) t) (va_A [(q0, .inr (8, [.int 0, .int 0, .int 1, .int 0, .int 0, .int 0, .ref q1, .null, .null, .null, .null, .int 0, .int 0, .int 0, .int 0, .null, .null])), (q1, .inr (10, [.ref q2, .int 0]))] sz)) 0 0 (va_A [(q0, .inr (8, [.int 0, .int 0, .int 1, .int 0, .int 0, .int 0, .ref q1, .null, .null, .null, .null, .int 0, .int 0, .int 0, .int 0, .null, .null])), (q1, .inr (10, [.ref q2, .int 0]))] sz) := by
  refine Met.ofW (cc := cX5_reset) (maxL := 2) (ret := none) (by decide) rfl ?_
  intro p e s m args below meth c s₁ B hml hv
  obtain ⟨rfl, hsz, hP, hK, hD0, hZ, hN⟩ := hv
  have hx := B.exec
  have hb := B.bytes
  have hr := B.returns
  have hts := atoms_spec (ws := wsX5_reset) B.pre
  have hown : s.vm.findClass RX5 = some m.cls := findClass_of_methodNamed B.named
  have hlocks := B.notSynchronized
  subst hsz
  have hD := hD0.self (sz := s.heap.size)
  generalize hAe : va_A [(q0, .inr (8, [.int 0, .int 0, .int 1, .int 0, .int 0, .int 0, .ref q1, .null, .null, .null, .null, .int 0, .int 0, .int 0, .int 0, .null, .null])), (q1, .inr (10, [.ref q2, .int 0]))] s.heap.size = A at hD hZ ⊢
  have hA : ∀ q : Nat, s.heap.size ≤ q → A q := fun q h => by rw [← hAe]; exact Or.inr h
  have hS : va_S A s.heap s.heap [] := va_S.rf
  have hP : va_P (dC, dI) vwCl [(q0, .inr (8, [.int 0, .int 0, .int 1, .int 0, .int 0, .int 0, .ref q1, .null, .null, .null, .null, .int 0, .int 0, .int 0, .int 0, .null, .null])), (q1, .inr (10, [.ref q2, .int 0]))] s.heap := hP
  have hl := lv_entry ([.ref q0, .int 0]) (n := 2) (Nat.le_of_ble_eq_true rfl)
  rw [lg_entry_eq]
  generalize (lg_sl ([.ref q0, .int 0]) ++ List.replicate (2 - (lg_sl ([.ref q0, .int 0])).length) Slot.unset).toArray = ls at hl ⊢
  have hl : lv_has ls 2 [(0, .ref q0), (1, .int 0)] := hl
  refine lv_aload_n hx hb dX5_reset_0 rfl (lv_at hl 0 rfl) ?_
  refine lv_iload_n hx hb dX5_reset_1 rfl (lv_at hl 1 rfl) ?_
  refine va_put (D := (dC, dI)) (ci := 8) (v := .int 0) (ty := .int) (C := RX5) (T := TX5) (N := 17) hx hb hts (fun _ h => List.mem_cons_of_mem _ (List.mem_append_left _ (List.mem_append_right _ h))) tyX5 tyX5_ok nmX5 hown hK hP hD hS 0 rfl rfl 0 (by decide) (hts (.fieldLink RX5 9 "Seekwell$Node" "kind" "I") (by decide +kernel)) (fun _ h9 => h9) rfl (by decide +kernel) rfl rfl (Nat.le_of_ble_eq_true rfl) dX5_reset_2 (fun H locs hP hD hS => ?_)
  have hP : va_P (dC, dI) vwCl [(q0, .inr (8, [.int 0, .int 0, .int 1, .int 0, .int 0, .int 0, .ref q1, .null, .null, .null, .null, .int 0, .int 0, .int 0, .int 0, .null, .null])), (q1, .inr (10, [.ref q2, .int 0]))] H := hP
  have hD : va_D A [(q0, .inr (8, [.int 0, .int 0, .int 1, .int 0, .int 0, .int 0, .ref q1, .null, .null, .null, .null, .int 0, .int 0, .int 0, .int 0, .null, .null])), (q1, .inr (10, [.ref q2, .int 0]))] := hD
  refine lv_aload_n hx hb dX5_reset_5 rfl (lv_at hl 0 rfl) ?_
  refine lv_iconst (v := 0) hx hb dX5_reset_6 (by decide +kernel) ?_
  refine va_put (D := (dC, dI)) (ci := 8) (v := .int 0) (ty := .boolean) (C := RX5) (T := TX5) (N := 17) hx hb hts (fun _ h => List.mem_cons_of_mem _ (List.mem_append_left _ (List.mem_append_right _ h))) tyX5 tyX5_ok nmX5 hown hK hP hD hS 0 rfl rfl 1 (by decide) (hts (.fieldLink RX5 13 "Seekwell$Node" "isNot" "Z") (by decide +kernel)) (fun _ h9 => h9) rfl (by decide +kernel) rfl rfl (Nat.le_of_ble_eq_true rfl) dX5_reset_7 (fun H locs hP hD hS => ?_)
  have hP : va_P (dC, dI) vwCl [(q0, .inr (8, [.int 0, .int 0, .int 1, .int 0, .int 0, .int 0, .ref q1, .null, .null, .null, .null, .int 0, .int 0, .int 0, .int 0, .null, .null])), (q1, .inr (10, [.ref q2, .int 0]))] H := hP
  have hD : va_D A [(q0, .inr (8, [.int 0, .int 0, .int 1, .int 0, .int 0, .int 0, .ref q1, .null, .null, .null, .null, .int 0, .int 0, .int 0, .int 0, .null, .null])), (q1, .inr (10, [.ref q2, .int 0]))] := hD
  refine lv_aload_n hx hb dX5_reset_10 rfl (lv_at hl 0 rfl) ?_
  refine lv_iconst (v := 1) hx hb dX5_reset_11 (by decide +kernel) ?_
  refine va_put (D := (dC, dI)) (ci := 8) (v := .int 1) (ty := .int) (C := RX5) (T := TX5) (N := 17) hx hb hts (fun _ h => List.mem_cons_of_mem _ (List.mem_append_left _ (List.mem_append_right _ h))) tyX5 tyX5_ok nmX5 hown hK hP hD hS 0 rfl rfl 2 (by decide) (hts (.fieldLink RX5 17 "Seekwell$Node" "weight" "I") (by decide +kernel)) (fun _ h9 => h9) rfl (by decide +kernel) rfl rfl (Nat.le_of_ble_eq_true rfl) dX5_reset_12 (fun H locs hP hD hS => ?_)
  have hP : va_P (dC, dI) vwCl [(q0, .inr (8, [.int 0, .int 0, .int 1, .int 0, .int 0, .int 0, .ref q1, .null, .null, .null, .null, .int 0, .int 0, .int 0, .int 0, .null, .null])), (q1, .inr (10, [.ref q2, .int 0]))] H := hP
  have hD : va_D A [(q0, .inr (8, [.int 0, .int 0, .int 1, .int 0, .int 0, .int 0, .ref q1, .null, .null, .null, .null, .int 0, .int 0, .int 0, .int 0, .null, .null])), (q1, .inr (10, [.ref q2, .int 0]))] := hD
  refine lv_aload_n hx hb dX5_reset_15 rfl (lv_at hl 0 rfl) ?_
  refine lv_iconst (v := 0) hx hb dX5_reset_16 (by decide +kernel) ?_
  refine va_put (D := (dC, dI)) (ci := 8) (v := .int 0) (ty := .int) (C := RX5) (T := TX5) (N := 17) hx hb hts (fun _ h => List.mem_cons_of_mem _ (List.mem_append_left _ (List.mem_append_right _ h))) tyX5 tyX5_ok nmX5 hown hK hP hD hS 0 rfl rfl 3 (by decide) (hts (.fieldLink RX5 20 "Seekwell$Node" "where" "I") (by decide +kernel)) (fun _ h9 => h9) rfl (by decide +kernel) rfl rfl (Nat.le_of_ble_eq_true rfl) dX5_reset_17 (fun H locs hP hD hS => ?_)
  have hP : va_P (dC, dI) vwCl [(q0, .inr (8, [.int 0, .int 0, .int 1, .int 0, .int 0, .int 0, .ref q1, .null, .null, .null, .null, .int 0, .int 0, .int 0, .int 0, .null, .null])), (q1, .inr (10, [.ref q2, .int 0]))] H := hP
  have hD : va_D A [(q0, .inr (8, [.int 0, .int 0, .int 1, .int 0, .int 0, .int 0, .ref q1, .null, .null, .null, .null, .int 0, .int 0, .int 0, .int 0, .null, .null])), (q1, .inr (10, [.ref q2, .int 0]))] := hD
  refine lv_aload_n hx hb dX5_reset_20 rfl (lv_at hl 0 rfl) ?_
  refine lv_iconst (v := 0) hx hb dX5_reset_21 (by decide +kernel) ?_
  refine va_put (D := (dC, dI)) (ci := 8) (v := .int 0) (ty := .int) (C := RX5) (T := TX5) (N := 17) hx hb hts (fun _ h => List.mem_cons_of_mem _ (List.mem_append_left _ (List.mem_append_right _ h))) tyX5 tyX5_ok nmX5 hown hK hP hD hS 0 rfl rfl 4 (by decide) (hts (.fieldLink RX5 23 "Seekwell$Node" "low" "I") (by decide +kernel)) (fun _ h9 => h9) rfl (by decide +kernel) rfl rfl (Nat.le_of_ble_eq_true rfl) dX5_reset_22 (fun H locs hP hD hS => ?_)
  have hP : va_P (dC, dI) vwCl [(q0, .inr (8, [.int 0, .int 0, .int 1, .int 0, .int 0, .int 0, .ref q1, .null, .null, .null, .null, .int 0, .int 0, .int 0, .int 0, .null, .null])), (q1, .inr (10, [.ref q2, .int 0]))] H := hP
  have hD : va_D A [(q0, .inr (8, [.int 0, .int 0, .int 1, .int 0, .int 0, .int 0, .ref q1, .null, .null, .null, .null, .int 0, .int 0, .int 0, .int 0, .null, .null])), (q1, .inr (10, [.ref q2, .int 0]))] := hD
  refine lv_aload_n hx hb dX5_reset_25 rfl (lv_at hl 0 rfl) ?_
  refine lv_iconst (v := 0) hx hb dX5_reset_26 (by decide +kernel) ?_
  refine va_put (D := (dC, dI)) (ci := 8) (v := .int 0) (ty := .int) (C := RX5) (T := TX5) (N := 17) hx hb hts (fun _ h => List.mem_cons_of_mem _ (List.mem_append_left _ (List.mem_append_right _ h))) tyX5 tyX5_ok nmX5 hown hK hP hD hS 0 rfl rfl 5 (by decide) (hts (.fieldLink RX5 26 "Seekwell$Node" "high" "I") (by decide +kernel)) (fun _ h9 => h9) rfl (by decide +kernel) rfl rfl (Nat.le_of_ble_eq_true rfl) dX5_reset_27 (fun H locs hP hD hS => ?_)
  have hP : va_P (dC, dI) vwCl [(q0, .inr (8, [.int 0, .int 0, .int 1, .int 0, .int 0, .int 0, .ref q1, .null, .null, .null, .null, .int 0, .int 0, .int 0, .int 0, .null, .null])), (q1, .inr (10, [.ref q2, .int 0]))] H := hP
  have hD : va_D A [(q0, .inr (8, [.int 0, .int 0, .int 1, .int 0, .int 0, .int 0, .ref q1, .null, .null, .null, .null, .int 0, .int 0, .int 0, .int 0, .null, .null])), (q1, .inr (10, [.ref q2, .int 0]))] := hD
  refine lv_aload_n hx hb dX5_reset_30 rfl (lv_at hl 0 rfl) ?_
  refine va_get (D := (dC, dI)) (ci := 8) (v := .ref q1) (C := RX5) (T := TX5) (N := 17) hx hb hts (fun _ h => List.mem_cons_of_mem _ (List.mem_append_left _ (List.mem_append_right _ h))) hown hK hP 0 rfl rfl 6 (by decide) (hts (.fieldLink RX5 32 "Seekwell$Node" "row" "LSeekwell$Row;") (by decide +kernel)) (fun _ h9 => h9) rfl dX5_reset_31 ?_
  have hPc := hP.sub (ws' := [(q1, .inr (10, [.ref q2, .int 0]))]) [1] rfl
  have hDc := hD.sub (ws' := [(q1, .inr (10, [.ref q2, .int 0]))]) [1] (by decide) rfl
  have hKc := hK.sub (tys' := []) [] rfl
  have hFc := va_free (wc := [(q1, .inr (10, [.ref q2, .int 0]))]) hD hS hA [1] rfl
  refine va_callv (va_runV (As := []) (rest := []) ⟨hx, hb, hml, hown, hts⟩ (c_X7_clear l dC dI q1 q2 H.size  ) (cwV 0 hts gX5_reset_X7_clear rfl rfl rfl (by decide +kernel) ⟨Nat.le_of_ble_eq_true rfl, Nat.le_of_ble_eq_true rfl⟩) ⟨zB_blind, va_recv hK hP (ci := 10) (q0 := 1) rfl rfl, (zPre hPc hDc hKc hS hFc hZ hN)⟩ rfl rfl hl.1 rfl (lv_room (Nat.le_of_ble_eq_true rfl)) dX5_reset_34 ⟨Nat.le_of_ble_eq_true rfl, Nat.le_of_ble_eq_true rfl⟩) hS (fun q _ h => hFc q h) hFc (fun u t H1 locs ht hvm hw hB hz1 hk1 hS => ?_)
  obtain ⟨hP1, hK1, hD1⟩ := hB
  rw [ht] at hP1
  have hK1 := va_K.moved hvm.symm hK1
  obtain ⟨hP, hD⟩ := va_join (wr := [(q0, .inr (8, [.int 0, .int 0, .int 1, .int 0, .int 0, .int 0, .ref q1, .null, .null, .null, .null, .int 0, .int 0, .int 0, .int 0, .null, .null]))]) (w1 := []) hP hD [1] [0] rfl rfl (by decide) (by decide) hk1 hFc hP1 hD1
  have hK := (hK.sub (tys' := []) [] rfl).app hK1
  generalize H1 = H at hP hS ⊢
  have hP : va_P (dC, dI) vwCl [(q0, .inr (8, [.int 0, .int 0, .int 1, .int 0, .int 0, .int 0, .ref q1, .null, .null, .null, .null, .int 0, .int 0, .int 0, .int 0, .null, .null]))] H := hP
  have hD : va_D A [(q0, .inr (8, [.int 0, .int 0, .int 1, .int 0, .int 0, .int 0, .ref q1, .null, .null, .null, .null, .int 0, .int 0, .int 0, .int 0, .null, .null]))] := hD
  have hK : va_K (dC, dI) vwCl [] s := hK
  refine W.widen (k := 0) (n := 0) (Nat.le_of_ble_eq_true rfl) (Nat.le_of_ble_eq_true rfl) ?_
  refine lv_aload_n hx hb dX5_reset_37 rfl (lv_at hl 0 rfl) ?_
  refine lv_null hx hb dX5_reset_38 ?_
  refine va_put (D := (dC, dI)) (ci := 8) (v := .null) (ty := (.object "Seekwell$Node")) (C := RX5) (T := TX5) (N := 17) hx hb hts (fun _ h => List.mem_cons_of_mem _ (List.mem_append_left _ (List.mem_append_right _ h))) tyX5 tyX5_ok nmX5 hown hK hP hD hS 0 rfl rfl 7 (by decide) (hts (.fieldLink RX5 36 "Seekwell$Node" "parent" "LSeekwell$Node;") (by decide +kernel)) (fun _ h9 => h9) rfl (by decide +kernel) rfl rfl (Nat.le_of_ble_eq_true rfl) dX5_reset_39 (fun H locs hP hD hS => ?_)
  have hP : va_P (dC, dI) vwCl [(q0, .inr (8, [.int 0, .int 0, .int 1, .int 0, .int 0, .int 0, .ref q1, .null, .null, .null, .null, .int 0, .int 0, .int 0, .int 0, .null, .null]))] H := hP
  have hD : va_D A [(q0, .inr (8, [.int 0, .int 0, .int 1, .int 0, .int 0, .int 0, .ref q1, .null, .null, .null, .null, .int 0, .int 0, .int 0, .int 0, .null, .null]))] := hD
  refine lv_aload_n hx hb dX5_reset_42 rfl (lv_at hl 0 rfl) ?_
  refine lv_null hx hb dX5_reset_43 ?_
  refine va_put (D := (dC, dI)) (ci := 8) (v := .null) (ty := (.object "Seekwell$Node")) (C := RX5) (T := TX5) (N := 17) hx hb hts (fun _ h => List.mem_cons_of_mem _ (List.mem_append_left _ (List.mem_append_right _ h))) tyX5 tyX5_ok nmX5 hown hK hP hD hS 0 rfl rfl 8 (by decide) (hts (.fieldLink RX5 40 "Seekwell$Node" "next" "LSeekwell$Node;") (by decide +kernel)) (fun _ h9 => h9) rfl (by decide +kernel) rfl rfl (Nat.le_of_ble_eq_true rfl) dX5_reset_44 (fun H locs hP hD hS => ?_)
  have hP : va_P (dC, dI) vwCl [(q0, .inr (8, [.int 0, .int 0, .int 1, .int 0, .int 0, .int 0, .ref q1, .null, .null, .null, .null, .int 0, .int 0, .int 0, .int 0, .null, .null]))] H := hP
  have hD : va_D A [(q0, .inr (8, [.int 0, .int 0, .int 1, .int 0, .int 0, .int 0, .ref q1, .null, .null, .null, .null, .int 0, .int 0, .int 0, .int 0, .null, .null]))] := hD
  refine lv_aload_n hx hb dX5_reset_47 rfl (lv_at hl 0 rfl) ?_
  have hPc := hP.sub (ws' := [(q0, .inr (8, [.int 0, .int 0, .int 1, .int 0, .int 0, .int 0, .ref q1, .null, .null, .null, .null, .int 0, .int 0, .int 0, .int 0, .null, .null]))]) [0] rfl
  have hDc := hD.sub (ws' := [(q0, .inr (8, [.int 0, .int 0, .int 1, .int 0, .int 0, .int 0, .ref q1, .null, .null, .null, .null, .int 0, .int 0, .int 0, .int 0, .null, .null]))]) [0] (by decide) rfl
  have hKc := hK.sub (tys' := []) [] rfl
  have hFc := va_free (wc := [(q0, .inr (8, [.int 0, .int 0, .int 1, .int 0, .int 0, .int 0, .ref q1, .null, .null, .null, .null, .int 0, .int 0, .int 0, .int 0, .null, .null]))]) hD hS hA [0] rfl
  refine va_callv (va_runV (As := []) (rest := []) ⟨hx, hb, hml, hown, hts⟩ (c_X5_empty_3 l dC dI q0 q1 H.size  ) (cwV 0 hts gX5_reset_X5_empty rfl rfl rfl (by decide +kernel) ⟨Nat.le_of_ble_eq_true rfl, Nat.le_of_ble_eq_true rfl⟩) ⟨zB_blind, va_recv hK hP (ci := 8) (q0 := 0) rfl rfl, (zPre hPc hDc hKc hS hFc hZ hN)⟩ rfl rfl hl.1 rfl (lv_room (Nat.le_of_ble_eq_true rfl)) dX5_reset_48 ⟨Nat.le_of_ble_eq_true rfl, Nat.le_of_ble_eq_true rfl⟩) hS (fun q _ h => hFc q h) hFc (fun u t H1 locs ht hvm hw hB hz1 hk1 hS => ?_)
  obtain ⟨hP1, hK1, hD1⟩ := hB
  rw [ht] at hP1
  have hK1 := va_K.moved hvm.symm hK1
  obtain ⟨hP, hD⟩ := va_join (wr := []) (w1 := [(q0, .inr (8, [.int 0, .int 0, .int 1, .int 0, .int 0, .int 0, .ref q1, .null, .null, .null, .null, .int 0, .int 0, .int 0, .int 0, .null, .null]))]) hP hD [0] [] rfl rfl (by decide) (by decide) hk1 hFc hP1 hD1
  have hK := (hK.sub (tys' := []) [] rfl).app hK1
  generalize H1 = H at hP hS ⊢
  have hP : va_P (dC, dI) vwCl [(q0, .inr (8, [.int 0, .int 0, .int 1, .int 0, .int 0, .int 0, .ref q1, .null, .null, .null, .null, .int 0, .int 0, .int 0, .int 0, .null, .null]))] H := hP
  have hD : va_D A [(q0, .inr (8, [.int 0, .int 0, .int 1, .int 0, .int 0, .int 0, .ref q1, .null, .null, .null, .null, .int 0, .int 0, .int 0, .int 0, .null, .null]))] := hD
  have hK : va_K (dC, dI) vwCl [] s := hK
  refine W.widen (k := 0) (n := 0) (Nat.le_of_ble_eq_true rfl) (Nat.le_of_ble_eq_true rfl) ?_
  have hP9 := hP.sub (ws' := [(q0, .inr (8, [.int 0, .int 0, .int 1, .int 0, .int 0, .int 0, .ref q1, .null, .null, .null, .null, .int 0, .int 0, .int 0, .int 0, .null, .null]))]) [0] rfl
  have hD9 := hD.sub (ws' := [(q0, .inr (8, [.int 0, .int 0, .int 1, .int 0, .int 0, .int 0, .ref q1, .null, .null, .null, .null, .int 0, .int 0, .int 0, .int 0, .null, .null]))]) [0] (by decide) rfl
  have hK9 := hK.sub (tys' := []) [] rfl
  exact W.vret hx hb hr (fun t ht hW => ⟨⟨(), rfl, trivial, ⟨by rw [ht]; exact hP9, va_K.moved hW.alike hK9, hD9⟩⟩, hS.F ht⟩) hS.2.2 dX5_reset_51
set_option maxHeartbeats 4000000 in
set_option maxRecDepth 100000 in
theorem c_X6_fresh_3 (l : Launch) (dC : Nat → ClassId) (dI : Nat → Nat → Nat) (q0 q1 q2 q3 q4 : Nat) (sz : Nat) : Met l yX6_fresh wsX6_fresh ({ frames := 3, cells := 3, slots := 23, locals := 60 }) (va_Pc [.ref q0, .int 0] (zB (dC, dI) [] [(q0, .inr (9, [.ref q1, .ref q2, .null])), (q2, .inr (8, [.int 6, .int 0, .int 1, .int 0, .int 0, .int 0, .ref q3, .ref q4, .null, .null, .null, .int 0, .int 0, .int 0, .int 0, .null, .null]))] sz)) (va_Qr (fun (_ : Unit) => True) (fun _ ra t => ∃ q5 : Nat, ∃ q6 : Nat, q5 = ra ∧ zE (dC, dI) [] [(q5, .inr (8, [.int 0, .int 0, .int 1, .int 0, .int 0, .int 0, .ref q6, .null, .null, .null, .null, .int 0, .int 0, .int 0, .int 0, .null, .null]))] (va_A [(q0, .inr (9, [.ref q1, .ref q2, .null])), (q2, .inr (8, [.int 6, .int 0, .int 1, .int 0, .int 0, .int 0, .ref q3, .ref q4, .null, .null, .null, .int 0, .int 0, .int 0, .int 0, .null, .null]))] sz) t) (va_A [(q0, .inr (9, [.ref q1, .ref q2, .null])), (q2, .inr (8, [.int 6, .int 0, .int 1, .int 0, .int 0, .int 0, .ref q3, .ref q4, .null, .null, .null, .int 0, .int 0, .int 0, .int 0, .null, .null]))] sz)) 3 23 (va_A [(q0, .inr (9, [.ref q1, .ref q2, .null])), (q2, .inr (8, [.int 6, .int 0, .int 1, .int 0, .int 0, .int 0, .ref q3, .ref q4, .null, .null, .null, .int 0, .int 0, .int 0, .int 0, .null, .null]))] sz) := by
  refine Met.ofW (cc := cX6_fresh) (maxL := 2) (ret := (some (.object "Seekwell$Node"))) (by decide) rfl ?_
  intro p e s m args below meth c s₁ B hml hv
  obtain ⟨rfl, hsz, hP, hK, hD0, hZ, hN⟩ := hv
  have hx := B.exec
  have hb := B.bytes
  have hr := B.returns
  have hts := atoms_spec (ws := wsX6_fresh) B.pre
  have hown : s.vm.findClass RX6 = some m.cls := findClass_of_methodNamed B.named
  have hlocks := B.notSynchronized
  subst hsz
  have hD := hD0.self (sz := s.heap.size)
  generalize hAe : va_A [(q0, .inr (9, [.ref q1, .ref q2, .null])), (q2, .inr (8, [.int 6, .int 0, .int 1, .int 0, .int 0, .int 0, .ref q3, .ref q4, .null, .null, .null, .int 0, .int 0, .int 0, .int 0, .null, .null]))] s.heap.size = A at hD hZ ⊢
  have hA : ∀ q : Nat, s.heap.size ≤ q → A q := fun q h => by rw [← hAe]; exact Or.inr h
  have hS : va_S A s.heap s.heap [] := va_S.rf
  have hP : va_P (dC, dI) vwCl [(q0, .inr (9, [.ref q1, .ref q2, .null])), (q2, .inr (8, [.int 6, .int 0, .int 1, .int 0, .int 0, .int 0, .ref q3, .ref q4, .null, .null, .null, .int 0, .int 0, .int 0, .int 0, .null, .null]))] s.heap := hP
  have hl := lv_entry ([.ref q0, .int 0]) (n := 2) (Nat.le_of_ble_eq_true rfl)
  rw [lg_entry_eq]
  generalize (lg_sl ([.ref q0, .int 0]) ++ List.replicate (2 - (lg_sl ([.ref q0, .int 0])).length) Slot.unset).toArray = ls at hl ⊢
  have hl : lv_has ls 2 [(0, .ref q0), (1, .int 0)] := hl
  refine lv_aload_n hx hb dX6_fresh_0 rfl (lv_at hl 0 rfl) ?_
  refine va_get (D := (dC, dI)) (ci := 9) (v := .ref q2) (C := RX6) (T := TX6) (N := 3) hx hb hts (fun _ h => List.mem_cons_of_mem _ (List.mem_append_left _ (List.mem_append_left _ (List.mem_append_right _ h)))) hown hK hP 0 rfl rfl 1 (by decide) (hts (.fieldLink RX6 16 "Seekwell$Question" "newest" "LSeekwell$Node;") (by decide +kernel)) (fun _ h9 => h9) rfl dX6_fresh_1 ?_
  refine va_get (D := (dC, dI)) (ci := 8) (v := .null) (C := RX5) (T := TX5) (N := 17) hx hb hts (fun _ h => List.mem_cons_of_mem _ (List.mem_append_left _ (List.mem_append_right _ h))) hown hK hP 1 rfl rfl 16 (by decide) (hts (.fieldLink RX6 22 "Seekwell$Node" "later" "LSeekwell$Node;") (by decide +kernel)) (fun _ h9 => h9) rfl dX6_fresh_4 ?_
  refine lv_ifnonnullN hx hb dX6_fresh_7 ?_
  refine lv_aload_n hx hb dX6_fresh_10 rfl (lv_at hl 0 rfl) ?_
  refine va_get (D := (dC, dI)) (ci := 9) (v := .ref q2) (C := RX6) (T := TX6) (N := 3) hx hb hts (fun _ h => List.mem_cons_of_mem _ (List.mem_append_left _ (List.mem_append_left _ (List.mem_append_right _ h)))) hown hK hP 0 rfl rfl 1 (by decide) (hts (.fieldLink RX6 16 "Seekwell$Question" "newest" "LSeekwell$Node;") (by decide +kernel)) (fun _ h9 => h9) rfl dX6_fresh_11 ?_
  refine va_new (D := (dC, dI)) (ci := 8) (fs := [.int 0, .int 0, .int 0, .int 0, .int 0, .int 0, .null, .null, .null, .null, .null, .int 0, .int 0, .int 0, .int 0, .null, .null]) (C := RX5) (T := TX5) (N := 17) hx hb hts (fun _ h => List.mem_cons_of_mem _ (List.mem_append_left _ (List.mem_append_right _ h))) tyX5 tyX5_ok hown (hts (.classLink RX6 7 RX5) (by decide +kernel)) (hts (.instantiable RX5 17) (by decide +kernel)) (hts (.initialized RX5) (by decide +kernel)) hK hP hD hS hA rfl (zfs (by decide)) (Nat.le_of_ble_eq_true rfl) (Nat.le_of_ble_eq_true rfl) dX6_fresh_14 (fun q5 H hP hD hS => ?_)
  have hP : va_P (dC, dI) vwCl [(q0, .inr (9, [.ref q1, .ref q2, .null])), (q2, .inr (8, [.int 6, .int 0, .int 1, .int 0, .int 0, .int 0, .ref q3, .ref q4, .null, .null, .null, .int 0, .int 0, .int 0, .int 0, .null, .null])), (q5, .inr (8, [.int 0, .int 0, .int 0, .int 0, .int 0, .int 0, .null, .null, .null, .null, .null, .int 0, .int 0, .int 0, .int 0, .null, .null]))] H := hP
  have hD : va_D A [(q0, .inr (9, [.ref q1, .ref q2, .null])), (q2, .inr (8, [.int 6, .int 0, .int 1, .int 0, .int 0, .int 0, .ref q3, .ref q4, .null, .null, .null, .int 0, .int 0, .int 0, .int 0, .null, .null])), (q5, .inr (8, [.int 0, .int 0, .int 0, .int 0, .int 0, .int 0, .null, .null, .null, .null, .null, .int 0, .int 0, .int 0, .int 0, .null, .null]))] := hD
  refine W.widen (k := 1) (n := 17) (Nat.le_of_ble_eq_true rfl) (Nat.le_of_ble_eq_true rfl) ?_
  refine lv_dup hx hb dX6_fresh_17 rfl ?_
  have hPc := hP.sub (ws' := [(q5, .inr (8, [.int 0, .int 0, .int 0, .int 0, .int 0, .int 0, .null, .null, .null, .null, .null, .int 0, .int 0, .int 0, .int 0, .null, .null]))]) [2] rfl
  have hDc := hD.sub (ws' := [(q5, .inr (8, [.int 0, .int 0, .int 0, .int 0, .int 0, .int 0, .null, .null, .null, .null, .null, .int 0, .int 0, .int 0, .int 0, .null, .null]))]) [2] (by decide) rfl
  have hKc := hK.sub (tys' := []) [] rfl
  have hFc := va_free (wc := [(q5, .inr (8, [.int 0, .int 0, .int 0, .int 0, .int 0, .int 0, .null, .null, .null, .null, .null, .int 0, .int 0, .int 0, .int 0, .null, .null]))]) hD hS hA [2] rfl
  refine va_callv (va_runIN (As := []) (rest := [.ref q5, .ref q2]) ⟨hx, hb, hml, hown, hts⟩ (c_X5_init_3 l dC dI q5 H.size  ) ⟨va_cnB (host := "Seekwell") 0 hts gX6_fresh_X5_init_n9 rfl rfl rfl (hN.1 (RX6, 9, yX5_init, "Seekwell") (by decide +kernel)) (hts (.initialized RX5) (by decide +kernel)) (by decide +kernel) ⟨Nat.le_of_ble_eq_true rfl, Nat.le_of_ble_eq_true rfl⟩, rfl, hts (.instanceMethod yX5_init) (by decide +kernel)⟩ ⟨zB_blind, (zPre hPc hDc hKc hS hFc hZ hN)⟩ rfl rfl hl.1 rfl (lv_room (Nat.le_of_ble_eq_true rfl)) dX6_fresh_18 ⟨Nat.le_of_ble_eq_true rfl, Nat.le_of_ble_eq_true rfl⟩) hS (fun q _ h => hFc q h) hFc (fun u t H1 locs ht hvm hw hB hz1 hk1 hS => ?_)
  obtain ⟨q6, q7, hP1, hK1, hD1⟩ := hB
  rw [ht] at hP1
  have hK1 := va_K.moved hvm.symm hK1
  obtain ⟨hP, hD⟩ := va_join (wr := [(q0, .inr (9, [.ref q1, .ref q2, .null])), (q2, .inr (8, [.int 6, .int 0, .int 1, .int 0, .int 0, .int 0, .ref q3, .ref q4, .null, .null, .null, .int 0, .int 0, .int 0, .int 0, .null, .null]))]) (w1 := [(q5, .inr (8, [.int 0, .int 0, .int 1, .int 0, .int 0, .int 0, .ref q6, .null, .null, .null, .null, .int 0, .int 0, .int 0, .int 0, .null, .null])), (q6, .inr (10, [.ref q7, .int 0]))]) hP hD [2] [0, 1] rfl rfl (by decide) (by decide) hk1 hFc hP1 hD1
  have hK := (hK.sub (tys' := []) [] rfl).app hK1
  generalize H1 = H at hP hS ⊢
  have hP : va_P (dC, dI) vwCl [(q0, .inr (9, [.ref q1, .ref q2, .null])), (q2, .inr (8, [.int 6, .int 0, .int 1, .int 0, .int 0, .int 0, .ref q3, .ref q4, .null, .null, .null, .int 0, .int 0, .int 0, .int 0, .null, .null])), (q5, .inr (8, [.int 0, .int 0, .int 1, .int 0, .int 0, .int 0, .ref q6, .null, .null, .null, .null, .int 0, .int 0, .int 0, .int 0, .null, .null])), (q6, .inr (10, [.ref q7, .int 0]))] H := hP
  have hD : va_D A [(q0, .inr (9, [.ref q1, .ref q2, .null])), (q2, .inr (8, [.int 6, .int 0, .int 1, .int 0, .int 0, .int 0, .ref q3, .ref q4, .null, .null, .null, .int 0, .int 0, .int 0, .int 0, .null, .null])), (q5, .inr (8, [.int 0, .int 0, .int 1, .int 0, .int 0, .int 0, .ref q6, .null, .null, .null, .null, .int 0, .int 0, .int 0, .int 0, .null, .null])), (q6, .inr (10, [.ref q7, .int 0]))] := hD
  have hK : va_K (dC, dI) vwCl [] s := hK
  refine W.widen (k := 3) (n := 23) (Nat.le_of_ble_eq_true rfl) (Nat.le_of_ble_eq_true rfl) ?_
  refine va_put (D := (dC, dI)) (ci := 8) (v := .ref q5) (ty := (.object "Seekwell$Node")) (C := RX5) (T := TX5) (N := 17) hx hb hts (fun _ h => List.mem_cons_of_mem _ (List.mem_append_left _ (List.mem_append_right _ h))) tyX5 tyX5_ok nmX5 hown hK hP hD hS 1 rfl rfl 16 (by decide) (hts (.fieldLink RX6 22 "Seekwell$Node" "later" "LSeekwell$Node;") (by decide +kernel)) (fun _ h9 => h9) rfl (by decide +kernel) rfl rfl (Nat.le_of_ble_eq_true rfl) dX6_fresh_21 (fun H locs hP hD hS => ?_)
  have hP : va_P (dC, dI) vwCl [(q0, .inr (9, [.ref q1, .ref q2, .null])), (q2, .inr (8, [.int 6, .int 0, .int 1, .int 0, .int 0, .int 0, .ref q3, .ref q4, .null, .null, .null, .int 0, .int 0, .int 0, .int 0, .null, .ref q5])), (q5, .inr (8, [.int 0, .int 0, .int 1, .int 0, .int 0, .int 0, .ref q6, .null, .null, .null, .null, .int 0, .int 0, .int 0, .int 0, .null, .null])), (q6, .inr (10, [.ref q7, .int 0]))] H := hP
  have hD : va_D A [(q0, .inr (9, [.ref q1, .ref q2, .null])), (q2, .inr (8, [.int 6, .int 0, .int 1, .int 0, .int 0, .int 0, .ref q3, .ref q4, .null, .null, .null, .int 0, .int 0, .int 0, .int 0, .null, .ref q5])), (q5, .inr (8, [.int 0, .int 0, .int 1, .int 0, .int 0, .int 0, .ref q6, .null, .null, .null, .null, .int 0, .int 0, .int 0, .int 0, .null, .null])), (q6, .inr (10, [.ref q7, .int 0]))] := hD
  refine lv_aload_n hx hb dX6_fresh_24 rfl (lv_at hl 0 rfl) ?_
  refine lv_aload_n hx hb dX6_fresh_25 rfl (lv_at hl 0 rfl) ?_
  refine va_get (D := (dC, dI)) (ci := 9) (v := .ref q2) (C := RX6) (T := TX6) (N := 3) hx hb hts (fun _ h => List.mem_cons_of_mem _ (List.mem_append_left _ (List.mem_append_left _ (List.mem_append_right _ h)))) hown hK hP 0 rfl rfl 1 (by decide) (hts (.fieldLink RX6 16 "Seekwell$Question" "newest" "LSeekwell$Node;") (by decide +kernel)) (fun _ h9 => h9) rfl dX6_fresh_26 ?_
  refine va_get (D := (dC, dI)) (ci := 8) (v := .ref q5) (C := RX5) (T := TX5) (N := 17) hx hb hts (fun _ h => List.mem_cons_of_mem _ (List.mem_append_left _ (List.mem_append_right _ h))) hown hK hP 1 rfl rfl 16 (by decide) (hts (.fieldLink RX6 22 "Seekwell$Node" "later" "LSeekwell$Node;") (by decide +kernel)) (fun _ h9 => h9) rfl dX6_fresh_29 ?_
  refine va_put (D := (dC, dI)) (ci := 9) (v := .ref q5) (ty := (.object "Seekwell$Node")) (C := RX6) (T := TX6) (N := 3) hx hb hts (fun _ h => List.mem_cons_of_mem _ (List.mem_append_left _ (List.mem_append_left _ (List.mem_append_right _ h)))) tyX6 tyX6_ok nmX6 hown hK hP hD hS 0 rfl rfl 1 (by decide) (hts (.fieldLink RX6 16 "Seekwell$Question" "newest" "LSeekwell$Node;") (by decide +kernel)) (fun _ h9 => h9) rfl (by decide +kernel) rfl rfl (Nat.le_of_ble_eq_true rfl) dX6_fresh_32 (fun H locs hP hD hS => ?_)
  have hP : va_P (dC, dI) vwCl [(q0, .inr (9, [.ref q1, .ref q5, .null])), (q2, .inr (8, [.int 6, .int 0, .int 1, .int 0, .int 0, .int 0, .ref q3, .ref q4, .null, .null, .null, .int 0, .int 0, .int 0, .int 0, .null, .ref q5])), (q5, .inr (8, [.int 0, .int 0, .int 1, .int 0, .int 0, .int 0, .ref q6, .null, .null, .null, .null, .int 0, .int 0, .int 0, .int 0, .null, .null])), (q6, .inr (10, [.ref q7, .int 0]))] H := hP
  have hD : va_D A [(q0, .inr (9, [.ref q1, .ref q5, .null])), (q2, .inr (8, [.int 6, .int 0, .int 1, .int 0, .int 0, .int 0, .ref q3, .ref q4, .null, .null, .null, .int 0, .int 0, .int 0, .int 0, .null, .ref q5])), (q5, .inr (8, [.int 0, .int 0, .int 1, .int 0, .int 0, .int 0, .ref q6, .null, .null, .null, .null, .int 0, .int 0, .int 0, .int 0, .null, .null])), (q6, .inr (10, [.ref q7, .int 0]))] := hD
  refine lv_aload_n hx hb dX6_fresh_35 rfl (lv_at hl 0 rfl) ?_
  refine va_get (D := (dC, dI)) (ci := 9) (v := .ref q5) (C := RX6) (T := TX6) (N := 3) hx hb hts (fun _ h => List.mem_cons_of_mem _ (List.mem_append_left _ (List.mem_append_left _ (List.mem_append_right _ h)))) hown hK hP 0 rfl rfl 1 (by decide) (hts (.fieldLink RX6 16 "Seekwell$Question" "newest" "LSeekwell$Node;") (by decide +kernel)) (fun _ h9 => h9) rfl dX6_fresh_36 ?_
  refine lv_iload_n hx hb dX6_fresh_39 rfl (lv_at hl 1 rfl) ?_
  have hPc := hP.sub (ws' := [(q5, .inr (8, [.int 0, .int 0, .int 1, .int 0, .int 0, .int 0, .ref q6, .null, .null, .null, .null, .int 0, .int 0, .int 0, .int 0, .null, .null])), (q6, .inr (10, [.ref q7, .int 0]))]) [2, 3] rfl
  have hDc := hD.sub (ws' := [(q5, .inr (8, [.int 0, .int 0, .int 1, .int 0, .int 0, .int 0, .ref q6, .null, .null, .null, .null, .int 0, .int 0, .int 0, .int 0, .null, .null])), (q6, .inr (10, [.ref q7, .int 0]))]) [2, 3] (by decide) rfl
  have hKc := hK.sub (tys' := []) [] rfl
  have hFc := va_free (wc := [(q5, .inr (8, [.int 0, .int 0, .int 1, .int 0, .int 0, .int 0, .ref q6, .null, .null, .null, .null, .int 0, .int 0, .int 0, .int 0, .null, .null])), (q6, .inr (10, [.ref q7, .int 0]))]) hD hS hA [2, 3] rfl
  refine va_callv (va_runV (As := [.int 0]) (rest := []) ⟨hx, hb, hml, hown, hts⟩ (c_X5_reset_3 l dC dI q5 q6 q7 H.size  ) (cwV 1 hts gX6_fresh_X5_reset rfl rfl rfl (by decide +kernel) ⟨Nat.le_of_ble_eq_true rfl, Nat.le_of_ble_eq_true rfl⟩) ⟨zB_blind, va_recv hK hP (ci := 8) (q0 := 2) rfl rfl, (zPre hPc hDc hKc hS hFc hZ hN)⟩ rfl rfl hl.1 rfl (lv_room (Nat.le_of_ble_eq_true rfl)) dX6_fresh_40 ⟨Nat.le_of_ble_eq_true rfl, Nat.le_of_ble_eq_true rfl⟩) hS (fun q _ h => hFc q h) hFc (fun u t H1 locs ht hvm hw hB hz1 hk1 hS => ?_)
  obtain ⟨hP1, hK1, hD1⟩ := hB
  rw [ht] at hP1
  have hK1 := va_K.moved hvm.symm hK1
  obtain ⟨hP, hD⟩ := va_join (wr := [(q0, .inr (9, [.ref q1, .ref q5, .null]))]) (w1 := [(q5, .inr (8, [.int 0, .int 0, .int 1, .int 0, .int 0, .int 0, .ref q6, .null, .null, .null, .null, .int 0, .int 0, .int 0, .int 0, .null, .null]))]) hP hD [2, 3] [0] rfl rfl (by decide) (by decide) hk1 hFc hP1 hD1
  have hK := (hK.sub (tys' := []) [] rfl).app hK1
  generalize H1 = H at hP hS ⊢
  have hP : va_P (dC, dI) vwCl [(q0, .inr (9, [.ref q1, .ref q5, .null])), (q5, .inr (8, [.int 0, .int 0, .int 1, .int 0, .int 0, .int 0, .ref q6, .null, .null, .null, .null, .int 0, .int 0, .int 0, .int 0, .null, .null]))] H := hP
  have hD : va_D A [(q0, .inr (9, [.ref q1, .ref q5, .null])), (q5, .inr (8, [.int 0, .int 0, .int 1, .int 0, .int 0, .int 0, .ref q6, .null, .null, .null, .null, .int 0, .int 0, .int 0, .int 0, .null, .null]))] := hD
  have hK : va_K (dC, dI) vwCl [] s := hK
  refine W.widen (k := 3) (n := 23) (Nat.le_of_ble_eq_true rfl) (Nat.le_of_ble_eq_true rfl) ?_
  refine lv_aload_n hx hb dX6_fresh_43 rfl (lv_at hl 0 rfl) ?_
  refine va_get (D := (dC, dI)) (ci := 9) (v := .ref q5) (C := RX6) (T := TX6) (N := 3) hx hb hts (fun _ h => List.mem_cons_of_mem _ (List.mem_append_left _ (List.mem_append_left _ (List.mem_append_right _ h)))) hown hK hP 0 rfl rfl 1 (by decide) (hts (.fieldLink RX6 16 "Seekwell$Question" "newest" "LSeekwell$Node;") (by decide +kernel)) (fun _ h9 => h9) rfl dX6_fresh_44 ?_
  have hP9 := hP.sub (ws' := [(q5, .inr (8, [.int 0, .int 0, .int 1, .int 0, .int 0, .int 0, .ref q6, .null, .null, .null, .null, .int 0, .int 0, .int 0, .int 0, .null, .null]))]) [1] rfl
  have hD9 := hD.sub (ws' := [(q5, .inr (8, [.int 0, .int 0, .int 1, .int 0, .int 0, .int 0, .ref q6, .null, .null, .null, .null, .int 0, .int 0, .int 0, .int 0, .null, .null]))]) [1] (by decide) rfl
  have hK9 := hK.sub (tys' := []) [] rfl
  exact W.aret (v := .ref q5) hx hb hr (Or.inl ⟨_, rfl⟩) (Or.inr ⟨_, rfl⟩) (fun t ht hW => ⟨⟨(), q5, rfl, trivial, q5, q6, rfl, ⟨by rw [ht]; exact hP9, va_K.moved hW.alike hK9, hD9⟩⟩, hS.F ht⟩) hS.2.2 dX6_fresh_47
set_option maxHeartbeats 4000000 in
set_option maxRecDepth 100000 in
theorem c_X0_take_3 (l : Launch) (dC : Nat → ClassId) (dI : Nat → Nat → Nat) (q0 q1 q2 q3 q4 : Nat) (sz : Nat) : Met l yX0_take wsX0_take ({ frames := 1, cells := 0, slots := 0, locals := 21 }) (va_Pc [.ref q0, .int 91] (zB (dC, dI) [] [(q0, .inr (3, [.ref q1, .ref q2, .int 0, .int 0, .ref q3])), (q1, .inr (7, [.ref q4, .int 0]))] sz)) (va_Qi (fun (r : Int32) (_ : Unit) => 0 = r) (fun _ t => zE (dC, dI) [] [(q0, .inr (3, [.ref q1, .ref q2, .int 0, .int 0, .ref q3])), (q1, .inr (7, [.ref q4, .int 0]))] (va_A [(q0, .inr (3, [.ref q1, .ref q2, .int 0, .int 0, .ref q3])), (q1, .inr (7, [.ref q4, .int 0]))] sz) t) (va_A [(q0, .inr (3, [.ref q1, .ref q2, .int 0, .int 0, .ref q3])), (q1, .inr (7, [.ref q4, .int 0]))] sz)) 0 0 (va_A [(q0, .inr (3, [.ref q1, .ref q2, .int 0, .int 0, .ref q3])), (q1, .inr (7, [.ref q4, .int 0]))] sz) := by
  refine Met.ofW (cc := cX0_take) (maxL := 3) (ret := (some .boolean)) (by decide) rfl ?_
  intro p e s m args below meth c s₁ B hml hv
  obtain ⟨rfl, hsz, hP, hK, hD0, hZ, hN⟩ := hv
  have hx := B.exec
  have hb := B.bytes
  have hr := B.returns
  have hts := atoms_spec (ws := wsX0_take) B.pre
  have hown : s.vm.findClass RX0 = some m.cls := findClass_of_methodNamed B.named
  have hlocks := B.notSynchronized
  subst hsz
  have hD := hD0.self (sz := s.heap.size)
  generalize hAe : va_A [(q0, .inr (3, [.ref q1, .ref q2, .int 0, .int 0, .ref q3])), (q1, .inr (7, [.ref q4, .int 0]))] s.heap.size = A at hD hZ ⊢
  have hA : ∀ q : Nat, s.heap.size ≤ q → A q := fun q h => by rw [← hAe]; exact Or.inr h
  have hS : va_S A s.heap s.heap [] := va_S.rf
  have hP : va_P (dC, dI) vwCl [(q0, .inr (3, [.ref q1, .ref q2, .int 0, .int 0, .ref q3])), (q1, .inr (7, [.ref q4, .int 0]))] s.heap := hP
  have hl := lv_entry ([.ref q0, .int 91]) (n := 3) (Nat.le_of_ble_eq_true rfl)
  rw [lg_entry_eq]
  generalize (lg_sl ([.ref q0, .int 91]) ++ List.replicate (3 - (lg_sl ([.ref q0, .int 91])).length) Slot.unset).toArray = ls at hl ⊢
  have hl : lv_has ls 3 [(0, .ref q0), (1, .int 91)] := hl
  refine lv_aload_n hx hb dX0_take_0 rfl (lv_at hl 0 rfl) ?_
  refine va_get (D := (dC, dI)) (ci := 3) (v := .ref q1) (C := RX0) (T := TX0) (N := 5) hx hb hts (fun _ h => List.mem_cons_of_mem _ (List.mem_append_left _ (List.mem_append_left _ (List.mem_append_right _ h)))) hown hK hP 0 rfl rfl 0 (by decide) (hts (.fieldLink RX0 9 "Seekwell$Asker" "line" "LSeekwell$Line;") (by decide +kernel)) (fun _ h9 => h9) rfl dX0_take_1 ?_
  refine lv_aload_n hx hb dX0_take_4 rfl (lv_at hl 0 rfl) ?_
  refine va_get (D := (dC, dI)) (ci := 3) (v := .int 0) (C := RX0) (T := TX0) (N := 5) hx hb hts (fun _ h => List.mem_cons_of_mem _ (List.mem_append_left _ (List.mem_append_left _ (List.mem_append_right _ h)))) hown hK hP 0 rfl rfl 2 (by decide) (hts (.fieldLink RX0 19 "Seekwell$Asker" "place" "I") (by decide +kernel)) (fun _ h9 => h9) rfl dX0_take_5 ?_
  have hPc := hP.sub (ws' := [(q1, .inr (7, [.ref q4, .int 0]))]) [1] rfl
  have hDc := hD.sub (ws' := [(q1, .inr (7, [.ref q4, .int 0]))]) [1] (by decide) rfl
  have hKc := hK.sub (tys' := []) [] rfl
  have hFc := va_free (wc := [(q1, .inr (7, [.ref q4, .int 0]))]) hD hS hA [1] rfl
  refine va_calli (va_runV (As := [.int 0]) (rest := []) ⟨hx, hb, hml, hown, hts⟩ (c_X4_at l dC dI q1 q4 s.heap.size  ) (cwV 1 hts gX0_take_X4_at rfl rfl rfl (by decide +kernel) ⟨Nat.le_of_ble_eq_true rfl, Nat.le_of_ble_eq_true rfl⟩) ⟨zB_blind, va_recv hK hP (ci := 7) (q0 := 1) rfl rfl, (zPre hPc hDc hKc hS hFc hZ hN)⟩ rfl rfl hl.1 rfl (lv_room (Nat.le_of_ble_eq_true rfl)) dX0_take_8 ⟨Nat.le_of_ble_eq_true rfl, Nat.le_of_ble_eq_true rfl⟩) hS (fun q _ h => hFc q h) hFc (fun r u t H1 locs ht hvm hw hB hz1 hk1 hS => ?_)
  subst hw
  obtain ⟨hP1, hK1, hD1⟩ := hB
  rw [ht] at hP1
  have hK1 := va_K.moved hvm.symm hK1
  obtain ⟨hP, hD⟩ := va_join (wr := [(q0, .inr (3, [.ref q1, .ref q2, .int 0, .int 0, .ref q3]))]) (w1 := [(q1, .inr (7, [.ref q4, .int 0]))]) hP hD [1] [0] rfl rfl (by decide) (by decide) hk1 hFc hP1 hD1
  have hK := (hK.sub (tys' := []) [] rfl).app hK1
  generalize H1 = H at hP hS ⊢
  have hP : va_P (dC, dI) vwCl [(q0, .inr (3, [.ref q1, .ref q2, .int 0, .int 0, .ref q3])), (q1, .inr (7, [.ref q4, .int 0]))] H := hP
  have hD : va_D A [(q0, .inr (3, [.ref q1, .ref q2, .int 0, .int 0, .ref q3])), (q1, .inr (7, [.ref q4, .int 0]))] := hD
  have hK : va_K (dC, dI) vwCl [] s := hK
  refine W.widen (k := 0) (n := 0) (Nat.le_of_ble_eq_true rfl) (Nat.le_of_ble_eq_true rfl) ?_
  refine lv_iload_n hx hb dX0_take_11 rfl (lv_at hl 1 rfl) ?_
  refine lv_icmp_ne (tgt := 19) hx hb dX0_take_12 (by decide) (fun _ => ?_) (fun h9 => absurd h9 (show ¬ (0 : Int32) = (91 : Int32) by decide +kernel))
  refine lv_iconst (v := 0) hx hb dX0_take_19 (by decide +kernel) ?_
  refine lv_istore_n (lv' := [(2, .int 0), (0, .ref q0), (1, .int 91)]) hx hb dX0_take_20 rfl hl (by decide) rfl (fun ls hl => ?_)
  refine lv_iload_n hx hb dX0_take_21 rfl (lv_at hl 0 rfl) ?_
  refine lv_if_eq (tgt := 35) hx hb dX0_take_22 (by decide) (fun _ => ?_) (fun h9 => absurd (show (0 : Int32) = (0 : Int32) by decide +kernel) h9)
  refine lv_iload_n hx hb dX0_take_35 rfl (lv_at hl 0 rfl) ?_
  have hP9 := hP.sub (ws' := [(q0, .inr (3, [.ref q1, .ref q2, .int 0, .int 0, .ref q3])), (q1, .inr (7, [.ref q4, .int 0]))]) [0, 1] rfl
  have hD9 := hD.sub (ws' := [(q0, .inr (3, [.ref q1, .ref q2, .int 0, .int 0, .ref q3])), (q1, .inr (7, [.ref q4, .int 0]))]) [0, 1] (by decide) rfl
  have hK9 := hK.sub (tys' := []) [] rfl
  exact W.zret (v := 0) hx hb hr (by decide +kernel) (fun t ht hW => ⟨⟨0, (), rfl, rfl, ⟨by rw [ht]; exact hP9, va_K.moved hW.alike hK9, hD9⟩⟩, hS.F ht⟩) hS.2.2 dX0_take_36
set_option maxHeartbeats 4000000 in
set_option maxRecDepth 100000 in
theorem c_X0_take_4 (l : Launch) (dC : Nat → ClassId) (dI : Nat → Nat → Nat) (q0 q1 q2 q3 q4 : Nat) (sz : Nat) : Met l yX0_take wsX0_take ({ frames := 1, cells := 0, slots := 0, locals := 21 }) (va_Pc [.ref q0, .int 60] (zB (dC, dI) [] [(q0, .inr (3, [.ref q1, .ref q2, .int 0, .int 0, .ref q3])), (q1, .inr (7, [.ref q4, .int 0]))] sz)) (va_Qi (fun (r : Int32) (_ : Unit) => 0 = r) (fun _ t => zE (dC, dI) [] [(q0, .inr (3, [.ref q1, .ref q2, .int 0, .int 0, .ref q3])), (q1, .inr (7, [.ref q4, .int 0]))] (va_A [(q0, .inr (3, [.ref q1, .ref q2, .int 0, .int 0, .ref q3])), (q1, .inr (7, [.ref q4, .int 0]))] sz) t) (va_A [(q0, .inr (3, [.ref q1, .ref q2, .int 0, .int 0, .ref q3])), (q1, .inr (7, [.ref q4, .int 0]))] sz)) 0 0 (va_A [(q0, .inr (3, [.ref q1, .ref q2, .int 0, .int 0, .ref q3])), (q1, .inr (7, [.ref q4, .int 0]))] sz) := by
  refine Met.ofW (cc := cX0_take) (maxL := 3) (ret := (some .boolean)) (by decide) rfl ?_
  intro p e s m args below meth c s₁ B hml hv
  obtain ⟨rfl, hsz, hP, hK, hD0, hZ, hN⟩ := hv
  have hx := B.exec
  have hb := B.bytes
  have hr := B.returns
  have hts := atoms_spec (ws := wsX0_take) B.pre
  have hown : s.vm.findClass RX0 = some m.cls := findClass_of_methodNamed B.named
  have hlocks := B.notSynchronized
  subst hsz
  have hD := hD0.self (sz := s.heap.size)
  generalize hAe : va_A [(q0, .inr (3, [.ref q1, .ref q2, .int 0, .int 0, .ref q3])), (q1, .inr (7, [.ref q4, .int 0]))] s.heap.size = A at hD hZ ⊢
  have hA : ∀ q : Nat, s.heap.size ≤ q → A q := fun q h => by rw [← hAe]; exact Or.inr h
  have hS : va_S A s.heap s.heap [] := va_S.rf
  have hP : va_P (dC, dI) vwCl [(q0, .inr (3, [.ref q1, .ref q2, .int 0, .int 0, .ref q3])), (q1, .inr (7, [.ref q4, .int 0]))] s.heap := hP
  have hl := lv_entry ([.ref q0, .int 60]) (n := 3) (Nat.le_of_ble_eq_true rfl)
  rw [lg_entry_eq]
  generalize (lg_sl ([.ref q0, .int 60]) ++ List.replicate (3 - (lg_sl ([.ref q0, .int 60])).length) Slot.unset).toArray = ls at hl ⊢
  have hl : lv_has ls 3 [(0, .ref q0), (1, .int 60)] := hl
  refine lv_aload_n hx hb dX0_take_0 rfl (lv_at hl 0 rfl) ?_
  refine va_get (D := (dC, dI)) (ci := 3) (v := .ref q1) (C := RX0) (T := TX0) (N := 5) hx hb hts (fun _ h => List.mem_cons_of_mem _ (List.mem_append_left _ (List.mem_append_left _ (List.mem_append_right _ h)))) hown hK hP 0 rfl rfl 0 (by decide) (hts (.fieldLink RX0 9 "Seekwell$Asker" "line" "LSeekwell$Line;") (by decide +kernel)) (fun _ h9 => h9) rfl dX0_take_1 ?_
  refine lv_aload_n hx hb dX0_take_4 rfl (lv_at hl 0 rfl) ?_
  refine va_get (D := (dC, dI)) (ci := 3) (v := .int 0) (C := RX0) (T := TX0) (N := 5) hx hb hts (fun _ h => List.mem_cons_of_mem _ (List.mem_append_left _ (List.mem_append_left _ (List.mem_append_right _ h)))) hown hK hP 0 rfl rfl 2 (by decide) (hts (.fieldLink RX0 19 "Seekwell$Asker" "place" "I") (by decide +kernel)) (fun _ h9 => h9) rfl dX0_take_5 ?_
  have hPc := hP.sub (ws' := [(q1, .inr (7, [.ref q4, .int 0]))]) [1] rfl
  have hDc := hD.sub (ws' := [(q1, .inr (7, [.ref q4, .int 0]))]) [1] (by decide) rfl
  have hKc := hK.sub (tys' := []) [] rfl
  have hFc := va_free (wc := [(q1, .inr (7, [.ref q4, .int 0]))]) hD hS hA [1] rfl
  refine va_calli (va_runV (As := [.int 0]) (rest := []) ⟨hx, hb, hml, hown, hts⟩ (c_X4_at l dC dI q1 q4 s.heap.size  ) (cwV 1 hts gX0_take_X4_at rfl rfl rfl (by decide +kernel) ⟨Nat.le_of_ble_eq_true rfl, Nat.le_of_ble_eq_true rfl⟩) ⟨zB_blind, va_recv hK hP (ci := 7) (q0 := 1) rfl rfl, (zPre hPc hDc hKc hS hFc hZ hN)⟩ rfl rfl hl.1 rfl (lv_room (Nat.le_of_ble_eq_true rfl)) dX0_take_8 ⟨Nat.le_of_ble_eq_true rfl, Nat.le_of_ble_eq_true rfl⟩) hS (fun q _ h => hFc q h) hFc (fun r u t H1 locs ht hvm hw hB hz1 hk1 hS => ?_)
  subst hw
  obtain ⟨hP1, hK1, hD1⟩ := hB
  rw [ht] at hP1
  have hK1 := va_K.moved hvm.symm hK1
  obtain ⟨hP, hD⟩ := va_join (wr := [(q0, .inr (3, [.ref q1, .ref q2, .int 0, .int 0, .ref q3]))]) (w1 := [(q1, .inr (7, [.ref q4, .int 0]))]) hP hD [1] [0] rfl rfl (by decide) (by decide) hk1 hFc hP1 hD1
  have hK := (hK.sub (tys' := []) [] rfl).app hK1
  generalize H1 = H at hP hS ⊢
  have hP : va_P (dC, dI) vwCl [(q0, .inr (3, [.ref q1, .ref q2, .int 0, .int 0, .ref q3])), (q1, .inr (7, [.ref q4, .int 0]))] H := hP
  have hD : va_D A [(q0, .inr (3, [.ref q1, .ref q2, .int 0, .int 0, .ref q3])), (q1, .inr (7, [.ref q4, .int 0]))] := hD
  have hK : va_K (dC, dI) vwCl [] s := hK
  refine W.widen (k := 0) (n := 0) (Nat.le_of_ble_eq_true rfl) (Nat.le_of_ble_eq_true rfl) ?_
  refine lv_iload_n hx hb dX0_take_11 rfl (lv_at hl 1 rfl) ?_
  refine lv_icmp_ne (tgt := 19) hx hb dX0_take_12 (by decide) (fun _ => ?_) (fun h9 => absurd h9 (show ¬ (0 : Int32) = (60 : Int32) by decide +kernel))
  refine lv_iconst (v := 0) hx hb dX0_take_19 (by decide +kernel) ?_
  refine lv_istore_n (lv' := [(2, .int 0), (0, .ref q0), (1, .int 60)]) hx hb dX0_take_20 rfl hl (by decide) rfl (fun ls hl => ?_)
  refine lv_iload_n hx hb dX0_take_21 rfl (lv_at hl 0 rfl) ?_
  refine lv_if_eq (tgt := 35) hx hb dX0_take_22 (by decide) (fun _ => ?_) (fun h9 => absurd (show (0 : Int32) = (0 : Int32) by decide +kernel) h9)
  refine lv_iload_n hx hb dX0_take_35 rfl (lv_at hl 0 rfl) ?_
  have hP9 := hP.sub (ws' := [(q0, .inr (3, [.ref q1, .ref q2, .int 0, .int 0, .ref q3])), (q1, .inr (7, [.ref q4, .int 0]))]) [0, 1] rfl
  have hD9 := hD.sub (ws' := [(q0, .inr (3, [.ref q1, .ref q2, .int 0, .int 0, .ref q3])), (q1, .inr (7, [.ref q4, .int 0]))]) [0, 1] (by decide) rfl
  have hK9 := hK.sub (tys' := []) [] rfl
  exact W.zret (v := 0) hx hb hr (by decide +kernel) (fun t ht hW => ⟨⟨0, (), rfl, rfl, ⟨by rw [ht]; exact hP9, va_K.moved hW.alike hK9, hD9⟩⟩, hS.F ht⟩) hS.2.2 dX0_take_36
set_option maxHeartbeats 4000000 in
set_option maxRecDepth 100000 in
theorem c_X0_take_5 (l : Launch) (dC : Nat → ClassId) (dI : Nat → Nat → Nat) (q0 q1 q2 q3 q4 : Nat) (sz : Nat) : Met l yX0_take wsX0_take ({ frames := 1, cells := 0, slots := 0, locals := 21 }) (va_Pc [.ref q0, .int 62] (zB (dC, dI) [] [(q0, .inr (3, [.ref q1, .ref q2, .int 0, .int 0, .ref q3])), (q1, .inr (7, [.ref q4, .int 0]))] sz)) (va_Qi (fun (r : Int32) (_ : Unit) => 0 = r) (fun _ t => zE (dC, dI) [] [(q0, .inr (3, [.ref q1, .ref q2, .int 0, .int 0, .ref q3])), (q1, .inr (7, [.ref q4, .int 0]))] (va_A [(q0, .inr (3, [.ref q1, .ref q2, .int 0, .int 0, .ref q3])), (q1, .inr (7, [.ref q4, .int 0]))] sz) t) (va_A [(q0, .inr (3, [.ref q1, .ref q2, .int 0, .int 0, .ref q3])), (q1, .inr (7, [.ref q4, .int 0]))] sz)) 0 0 (va_A [(q0, .inr (3, [.ref q1, .ref q2, .int 0, .int 0, .ref q3])), (q1, .inr (7, [.ref q4, .int 0]))] sz) := by
  refine Met.ofW (cc := cX0_take) (maxL := 3) (ret := (some .boolean)) (by decide) rfl ?_
  intro p e s m args below meth c s₁ B hml hv
  obtain ⟨rfl, hsz, hP, hK, hD0, hZ, hN⟩ := hv
  have hx := B.exec
  have hb := B.bytes
  have hr := B.returns
  have hts := atoms_spec (ws := wsX0_take) B.pre
  have hown : s.vm.findClass RX0 = some m.cls := findClass_of_methodNamed B.named
  have hlocks := B.notSynchronized
  subst hsz
  have hD := hD0.self (sz := s.heap.size)
  generalize hAe : va_A [(q0, .inr (3, [.ref q1, .ref q2, .int 0, .int 0, .ref q3])), (q1, .inr (7, [.ref q4, .int 0]))] s.heap.size = A at hD hZ ⊢
  have hA : ∀ q : Nat, s.heap.size ≤ q → A q := fun q h => by rw [← hAe]; exact Or.inr h
  have hS : va_S A s.heap s.heap [] := va_S.rf
  have hP : va_P (dC, dI) vwCl [(q0, .inr (3, [.ref q1, .ref q2, .int 0, .int 0, .ref q3])), (q1, .inr (7, [.ref q4, .int 0]))] s.heap := hP
  have hl := lv_entry ([.ref q0, .int 62]) (n := 3) (Nat.le_of_ble_eq_true rfl)
  rw [lg_entry_eq]
  generalize (lg_sl ([.ref q0, .int 62]) ++ List.replicate (3 - (lg_sl ([.ref q0, .int 62])).length) Slot.unset).toArray = ls at hl ⊢
  have hl : lv_has ls 3 [(0, .ref q0), (1, .int 62)] := hl
  refine lv_aload_n hx hb dX0_take_0 rfl (lv_at hl 0 rfl) ?_
  refine va_get (D := (dC, dI)) (ci := 3) (v := .ref q1) (C := RX0) (T := TX0) (N := 5) hx hb hts (fun _ h => List.mem_cons_of_mem _ (List.mem_append_left _ (List.mem_append_left _ (List.mem_append_right _ h)))) hown hK hP 0 rfl rfl 0 (by decide) (hts (.fieldLink RX0 9 "Seekwell$Asker" "line" "LSeekwell$Line;") (by decide +kernel)) (fun _ h9 => h9) rfl dX0_take_1 ?_
  refine lv_aload_n hx hb dX0_take_4 rfl (lv_at hl 0 rfl) ?_
  refine va_get (D := (dC, dI)) (ci := 3) (v := .int 0) (C := RX0) (T := TX0) (N := 5) hx hb hts (fun _ h => List.mem_cons_of_mem _ (List.mem_append_left _ (List.mem_append_left _ (List.mem_append_right _ h)))) hown hK hP 0 rfl rfl 2 (by decide) (hts (.fieldLink RX0 19 "Seekwell$Asker" "place" "I") (by decide +kernel)) (fun _ h9 => h9) rfl dX0_take_5 ?_
  have hPc := hP.sub (ws' := [(q1, .inr (7, [.ref q4, .int 0]))]) [1] rfl
  have hDc := hD.sub (ws' := [(q1, .inr (7, [.ref q4, .int 0]))]) [1] (by decide) rfl
  have hKc := hK.sub (tys' := []) [] rfl
  have hFc := va_free (wc := [(q1, .inr (7, [.ref q4, .int 0]))]) hD hS hA [1] rfl
  refine va_calli (va_runV (As := [.int 0]) (rest := []) ⟨hx, hb, hml, hown, hts⟩ (c_X4_at l dC dI q1 q4 s.heap.size  ) (cwV 1 hts gX0_take_X4_at rfl rfl rfl (by decide +kernel) ⟨Nat.le_of_ble_eq_true rfl, Nat.le_of_ble_eq_true rfl⟩) ⟨zB_blind, va_recv hK hP (ci := 7) (q0 := 1) rfl rfl, (zPre hPc hDc hKc hS hFc hZ hN)⟩ rfl rfl hl.1 rfl (lv_room (Nat.le_of_ble_eq_true rfl)) dX0_take_8 ⟨Nat.le_of_ble_eq_true rfl, Nat.le_of_ble_eq_true rfl⟩) hS (fun q _ h => hFc q h) hFc (fun r u t H1 locs ht hvm hw hB hz1 hk1 hS => ?_)
  subst hw
  obtain ⟨hP1, hK1, hD1⟩ := hB
  rw [ht] at hP1
  have hK1 := va_K.moved hvm.symm hK1
  obtain ⟨hP, hD⟩ := va_join (wr := [(q0, .inr (3, [.ref q1, .ref q2, .int 0, .int 0, .ref q3]))]) (w1 := [(q1, .inr (7, [.ref q4, .int 0]))]) hP hD [1] [0] rfl rfl (by decide) (by decide) hk1 hFc hP1 hD1
  have hK := (hK.sub (tys' := []) [] rfl).app hK1
  generalize H1 = H at hP hS ⊢
  have hP : va_P (dC, dI) vwCl [(q0, .inr (3, [.ref q1, .ref q2, .int 0, .int 0, .ref q3])), (q1, .inr (7, [.ref q4, .int 0]))] H := hP
  have hD : va_D A [(q0, .inr (3, [.ref q1, .ref q2, .int 0, .int 0, .ref q3])), (q1, .inr (7, [.ref q4, .int 0]))] := hD
  have hK : va_K (dC, dI) vwCl [] s := hK
  refine W.widen (k := 0) (n := 0) (Nat.le_of_ble_eq_true rfl) (Nat.le_of_ble_eq_true rfl) ?_
  refine lv_iload_n hx hb dX0_take_11 rfl (lv_at hl 1 rfl) ?_
  refine lv_icmp_ne (tgt := 19) hx hb dX0_take_12 (by decide) (fun _ => ?_) (fun h9 => absurd h9 (show ¬ (0 : Int32) = (62 : Int32) by decide +kernel))
  refine lv_iconst (v := 0) hx hb dX0_take_19 (by decide +kernel) ?_
  refine lv_istore_n (lv' := [(2, .int 0), (0, .ref q0), (1, .int 62)]) hx hb dX0_take_20 rfl hl (by decide) rfl (fun ls hl => ?_)
  refine lv_iload_n hx hb dX0_take_21 rfl (lv_at hl 0 rfl) ?_
  refine lv_if_eq (tgt := 35) hx hb dX0_take_22 (by decide) (fun _ => ?_) (fun h9 => absurd (show (0 : Int32) = (0 : Int32) by decide +kernel) h9)
  refine lv_iload_n hx hb dX0_take_35 rfl (lv_at hl 0 rfl) ?_
  have hP9 := hP.sub (ws' := [(q0, .inr (3, [.ref q1, .ref q2, .int 0, .int 0, .ref q3])), (q1, .inr (7, [.ref q4, .int 0]))]) [0, 1] rfl
  have hD9 := hD.sub (ws' := [(q0, .inr (3, [.ref q1, .ref q2, .int 0, .int 0, .ref q3])), (q1, .inr (7, [.ref q4, .int 0]))]) [0, 1] (by decide) rfl
  have hK9 := hK.sub (tys' := []) [] rfl
  exact W.zret (v := 0) hx hb hr (by decide +kernel) (fun t ht hW => ⟨⟨0, (), rfl, rfl, ⟨by rw [ht]; exact hP9, va_K.moved hW.alike hK9, hD9⟩⟩, hS.F ht⟩) hS.2.2 dX0_take_36
set_option maxHeartbeats 4000000 in
set_option maxRecDepth 100000 in
theorem c_X0_take_6 (l : Launch) (dC : Nat → ClassId) (dI : Nat → Nat → Nat) (q0 q1 q2 q3 q4 : Nat) (sz : Nat) : Met l yX0_take wsX0_take ({ frames := 1, cells := 0, slots := 0, locals := 21 }) (va_Pc [.ref q0, .int 34] (zB (dC, dI) [] [(q0, .inr (3, [.ref q1, .ref q2, .int 0, .int 0, .ref q3])), (q1, .inr (7, [.ref q4, .int 0]))] sz)) (va_Qi (fun (r : Int32) (_ : Unit) => 0 = r) (fun _ t => zE (dC, dI) [] [(q0, .inr (3, [.ref q1, .ref q2, .int 0, .int 0, .ref q3])), (q1, .inr (7, [.ref q4, .int 0]))] (va_A [(q0, .inr (3, [.ref q1, .ref q2, .int 0, .int 0, .ref q3])), (q1, .inr (7, [.ref q4, .int 0]))] sz) t) (va_A [(q0, .inr (3, [.ref q1, .ref q2, .int 0, .int 0, .ref q3])), (q1, .inr (7, [.ref q4, .int 0]))] sz)) 0 0 (va_A [(q0, .inr (3, [.ref q1, .ref q2, .int 0, .int 0, .ref q3])), (q1, .inr (7, [.ref q4, .int 0]))] sz) := by
  refine Met.ofW (cc := cX0_take) (maxL := 3) (ret := (some .boolean)) (by decide) rfl ?_
  intro p e s m args below meth c s₁ B hml hv
  obtain ⟨rfl, hsz, hP, hK, hD0, hZ, hN⟩ := hv
  have hx := B.exec
  have hb := B.bytes
  have hr := B.returns
  have hts := atoms_spec (ws := wsX0_take) B.pre
  have hown : s.vm.findClass RX0 = some m.cls := findClass_of_methodNamed B.named
  have hlocks := B.notSynchronized
  subst hsz
  have hD := hD0.self (sz := s.heap.size)
  generalize hAe : va_A [(q0, .inr (3, [.ref q1, .ref q2, .int 0, .int 0, .ref q3])), (q1, .inr (7, [.ref q4, .int 0]))] s.heap.size = A at hD hZ ⊢
  have hA : ∀ q : Nat, s.heap.size ≤ q → A q := fun q h => by rw [← hAe]; exact Or.inr h
  have hS : va_S A s.heap s.heap [] := va_S.rf
  have hP : va_P (dC, dI) vwCl [(q0, .inr (3, [.ref q1, .ref q2, .int 0, .int 0, .ref q3])), (q1, .inr (7, [.ref q4, .int 0]))] s.heap := hP
  have hl := lv_entry ([.ref q0, .int 34]) (n := 3) (Nat.le_of_ble_eq_true rfl)
  rw [lg_entry_eq]
  generalize (lg_sl ([.ref q0, .int 34]) ++ List.replicate (3 - (lg_sl ([.ref q0, .int 34])).length) Slot.unset).toArray = ls at hl ⊢
  have hl : lv_has ls 3 [(0, .ref q0), (1, .int 34)] := hl
  refine lv_aload_n hx hb dX0_take_0 rfl (lv_at hl 0 rfl) ?_
  refine va_get (D := (dC, dI)) (ci := 3) (v := .ref q1) (C := RX0) (T := TX0) (N := 5) hx hb hts (fun _ h => List.mem_cons_of_mem _ (List.mem_append_left _ (List.mem_append_left _ (List.mem_append_right _ h)))) hown hK hP 0 rfl rfl 0 (by decide) (hts (.fieldLink RX0 9 "Seekwell$Asker" "line" "LSeekwell$Line;") (by decide +kernel)) (fun _ h9 => h9) rfl dX0_take_1 ?_
  refine lv_aload_n hx hb dX0_take_4 rfl (lv_at hl 0 rfl) ?_
  refine va_get (D := (dC, dI)) (ci := 3) (v := .int 0) (C := RX0) (T := TX0) (N := 5) hx hb hts (fun _ h => List.mem_cons_of_mem _ (List.mem_append_left _ (List.mem_append_left _ (List.mem_append_right _ h)))) hown hK hP 0 rfl rfl 2 (by decide) (hts (.fieldLink RX0 19 "Seekwell$Asker" "place" "I") (by decide +kernel)) (fun _ h9 => h9) rfl dX0_take_5 ?_
  have hPc := hP.sub (ws' := [(q1, .inr (7, [.ref q4, .int 0]))]) [1] rfl
  have hDc := hD.sub (ws' := [(q1, .inr (7, [.ref q4, .int 0]))]) [1] (by decide) rfl
  have hKc := hK.sub (tys' := []) [] rfl
  have hFc := va_free (wc := [(q1, .inr (7, [.ref q4, .int 0]))]) hD hS hA [1] rfl
  refine va_calli (va_runV (As := [.int 0]) (rest := []) ⟨hx, hb, hml, hown, hts⟩ (c_X4_at l dC dI q1 q4 s.heap.size  ) (cwV 1 hts gX0_take_X4_at rfl rfl rfl (by decide +kernel) ⟨Nat.le_of_ble_eq_true rfl, Nat.le_of_ble_eq_true rfl⟩) ⟨zB_blind, va_recv hK hP (ci := 7) (q0 := 1) rfl rfl, (zPre hPc hDc hKc hS hFc hZ hN)⟩ rfl rfl hl.1 rfl (lv_room (Nat.le_of_ble_eq_true rfl)) dX0_take_8 ⟨Nat.le_of_ble_eq_true rfl, Nat.le_of_ble_eq_true rfl⟩) hS (fun q _ h => hFc q h) hFc (fun r u t H1 locs ht hvm hw hB hz1 hk1 hS => ?_)
  subst hw
  obtain ⟨hP1, hK1, hD1⟩ := hB
  rw [ht] at hP1
  have hK1 := va_K.moved hvm.symm hK1
  obtain ⟨hP, hD⟩ := va_join (wr := [(q0, .inr (3, [.ref q1, .ref q2, .int 0, .int 0, .ref q3]))]) (w1 := [(q1, .inr (7, [.ref q4, .int 0]))]) hP hD [1] [0] rfl rfl (by decide) (by decide) hk1 hFc hP1 hD1
  have hK := (hK.sub (tys' := []) [] rfl).app hK1
  generalize H1 = H at hP hS ⊢
  have hP : va_P (dC, dI) vwCl [(q0, .inr (3, [.ref q1, .ref q2, .int 0, .int 0, .ref q3])), (q1, .inr (7, [.ref q4, .int 0]))] H := hP
  have hD : va_D A [(q0, .inr (3, [.ref q1, .ref q2, .int 0, .int 0, .ref q3])), (q1, .inr (7, [.ref q4, .int 0]))] := hD
  have hK : va_K (dC, dI) vwCl [] s := hK
  refine W.widen (k := 0) (n := 0) (Nat.le_of_ble_eq_true rfl) (Nat.le_of_ble_eq_true rfl) ?_
  refine lv_iload_n hx hb dX0_take_11 rfl (lv_at hl 1 rfl) ?_
  refine lv_icmp_ne (tgt := 19) hx hb dX0_take_12 (by decide) (fun _ => ?_) (fun h9 => absurd h9 (show ¬ (0 : Int32) = (34 : Int32) by decide +kernel))
  refine lv_iconst (v := 0) hx hb dX0_take_19 (by decide +kernel) ?_
  refine lv_istore_n (lv' := [(2, .int 0), (0, .ref q0), (1, .int 34)]) hx hb dX0_take_20 rfl hl (by decide) rfl (fun ls hl => ?_)
  refine lv_iload_n hx hb dX0_take_21 rfl (lv_at hl 0 rfl) ?_
  refine lv_if_eq (tgt := 35) hx hb dX0_take_22 (by decide) (fun _ => ?_) (fun h9 => absurd (show (0 : Int32) = (0 : Int32) by decide +kernel) h9)
  refine lv_iload_n hx hb dX0_take_35 rfl (lv_at hl 0 rfl) ?_
  have hP9 := hP.sub (ws' := [(q0, .inr (3, [.ref q1, .ref q2, .int 0, .int 0, .ref q3])), (q1, .inr (7, [.ref q4, .int 0]))]) [0, 1] rfl
  have hD9 := hD.sub (ws' := [(q0, .inr (3, [.ref q1, .ref q2, .int 0, .int 0, .ref q3])), (q1, .inr (7, [.ref q4, .int 0]))]) [0, 1] (by decide) rfl
  have hK9 := hK.sub (tys' := []) [] rfl
  exact W.zret (v := 0) hx hb hr (by decide +kernel) (fun t ht hW => ⟨⟨0, (), rfl, rfl, ⟨by rw [ht]; exact hP9, va_K.moved hW.alike hK9, hD9⟩⟩, hS.F ht⟩) hS.2.2 dX0_take_36
set_option maxHeartbeats 4000000 in
set_option maxRecDepth 100000 in
theorem c_X0_take_7 (l : Launch) (dC : Nat → ClassId) (dI : Nat → Nat → Nat) (q0 q1 q2 q3 q4 : Nat) (sz : Nat) : Met l yX0_take wsX0_take ({ frames := 1, cells := 0, slots := 0, locals := 21 }) (va_Pc [.ref q0, .int 123] (zB (dC, dI) [] [(q0, .inr (3, [.ref q1, .ref q2, .int 0, .int 0, .ref q3])), (q1, .inr (7, [.ref q4, .int 0]))] sz)) (va_Qi (fun (r : Int32) (_ : Unit) => 0 = r) (fun _ t => zE (dC, dI) [] [(q0, .inr (3, [.ref q1, .ref q2, .int 0, .int 0, .ref q3])), (q1, .inr (7, [.ref q4, .int 0]))] (va_A [(q0, .inr (3, [.ref q1, .ref q2, .int 0, .int 0, .ref q3])), (q1, .inr (7, [.ref q4, .int 0]))] sz) t) (va_A [(q0, .inr (3, [.ref q1, .ref q2, .int 0, .int 0, .ref q3])), (q1, .inr (7, [.ref q4, .int 0]))] sz)) 0 0 (va_A [(q0, .inr (3, [.ref q1, .ref q2, .int 0, .int 0, .ref q3])), (q1, .inr (7, [.ref q4, .int 0]))] sz) := by
  refine Met.ofW (cc := cX0_take) (maxL := 3) (ret := (some .boolean)) (by decide) rfl ?_
  intro p e s m args below meth c s₁ B hml hv
  obtain ⟨rfl, hsz, hP, hK, hD0, hZ, hN⟩ := hv
  have hx := B.exec
  have hb := B.bytes
  have hr := B.returns
  have hts := atoms_spec (ws := wsX0_take) B.pre
  have hown : s.vm.findClass RX0 = some m.cls := findClass_of_methodNamed B.named
  have hlocks := B.notSynchronized
  subst hsz
  have hD := hD0.self (sz := s.heap.size)
  generalize hAe : va_A [(q0, .inr (3, [.ref q1, .ref q2, .int 0, .int 0, .ref q3])), (q1, .inr (7, [.ref q4, .int 0]))] s.heap.size = A at hD hZ ⊢
  have hA : ∀ q : Nat, s.heap.size ≤ q → A q := fun q h => by rw [← hAe]; exact Or.inr h
  have hS : va_S A s.heap s.heap [] := va_S.rf
  have hP : va_P (dC, dI) vwCl [(q0, .inr (3, [.ref q1, .ref q2, .int 0, .int 0, .ref q3])), (q1, .inr (7, [.ref q4, .int 0]))] s.heap := hP
  have hl := lv_entry ([.ref q0, .int 123]) (n := 3) (Nat.le_of_ble_eq_true rfl)
  rw [lg_entry_eq]
  generalize (lg_sl ([.ref q0, .int 123]) ++ List.replicate (3 - (lg_sl ([.ref q0, .int 123])).length) Slot.unset).toArray = ls at hl ⊢
  have hl : lv_has ls 3 [(0, .ref q0), (1, .int 123)] := hl
  refine lv_aload_n hx hb dX0_take_0 rfl (lv_at hl 0 rfl) ?_
  refine va_get (D := (dC, dI)) (ci := 3) (v := .ref q1) (C := RX0) (T := TX0) (N := 5) hx hb hts (fun _ h => List.mem_cons_of_mem _ (List.mem_append_left _ (List.mem_append_left _ (List.mem_append_right _ h)))) hown hK hP 0 rfl rfl 0 (by decide) (hts (.fieldLink RX0 9 "Seekwell$Asker" "line" "LSeekwell$Line;") (by decide +kernel)) (fun _ h9 => h9) rfl dX0_take_1 ?_
  refine lv_aload_n hx hb dX0_take_4 rfl (lv_at hl 0 rfl) ?_
  refine va_get (D := (dC, dI)) (ci := 3) (v := .int 0) (C := RX0) (T := TX0) (N := 5) hx hb hts (fun _ h => List.mem_cons_of_mem _ (List.mem_append_left _ (List.mem_append_left _ (List.mem_append_right _ h)))) hown hK hP 0 rfl rfl 2 (by decide) (hts (.fieldLink RX0 19 "Seekwell$Asker" "place" "I") (by decide +kernel)) (fun _ h9 => h9) rfl dX0_take_5 ?_
  have hPc := hP.sub (ws' := [(q1, .inr (7, [.ref q4, .int 0]))]) [1] rfl
  have hDc := hD.sub (ws' := [(q1, .inr (7, [.ref q4, .int 0]))]) [1] (by decide) rfl
  have hKc := hK.sub (tys' := []) [] rfl
  have hFc := va_free (wc := [(q1, .inr (7, [.ref q4, .int 0]))]) hD hS hA [1] rfl
  refine va_calli (va_runV (As := [.int 0]) (rest := []) ⟨hx, hb, hml, hown, hts⟩ (c_X4_at l dC dI q1 q4 s.heap.size  ) (cwV 1 hts gX0_take_X4_at rfl rfl rfl (by decide +kernel) ⟨Nat.le_of_ble_eq_true rfl, Nat.le_of_ble_eq_true rfl⟩) ⟨zB_blind, va_recv hK hP (ci := 7) (q0 := 1) rfl rfl, (zPre hPc hDc hKc hS hFc hZ hN)⟩ rfl rfl hl.1 rfl (lv_room (Nat.le_of_ble_eq_true rfl)) dX0_take_8 ⟨Nat.le_of_ble_eq_true rfl, Nat.le_of_ble_eq_true rfl⟩) hS (fun q _ h => hFc q h) hFc (fun r u t H1 locs ht hvm hw hB hz1 hk1 hS => ?_)
  subst hw
  obtain ⟨hP1, hK1, hD1⟩ := hB
  rw [ht] at hP1
  have hK1 := va_K.moved hvm.symm hK1
  obtain ⟨hP, hD⟩ := va_join (wr := [(q0, .inr (3, [.ref q1, .ref q2, .int 0, .int 0, .ref q3]))]) (w1 := [(q1, .inr (7, [.ref q4, .int 0]))]) hP hD [1] [0] rfl rfl (by decide) (by decide) hk1 hFc hP1 hD1
  have hK := (hK.sub (tys' := []) [] rfl).app hK1
  generalize H1 = H at hP hS ⊢
  have hP : va_P (dC, dI) vwCl [(q0, .inr (3, [.ref q1, .ref q2, .int 0, .int 0, .ref q3])), (q1, .inr (7, [.ref q4, .int 0]))] H := hP
  have hD : va_D A [(q0, .inr (3, [.ref q1, .ref q2, .int 0, .int 0, .ref q3])), (q1, .inr (7, [.ref q4, .int 0]))] := hD
  have hK : va_K (dC, dI) vwCl [] s := hK
  refine W.widen (k := 0) (n := 0) (Nat.le_of_ble_eq_true rfl) (Nat.le_of_ble_eq_true rfl) ?_
  refine lv_iload_n hx hb dX0_take_11 rfl (lv_at hl 1 rfl) ?_
  refine lv_icmp_ne (tgt := 19) hx hb dX0_take_12 (by decide) (fun _ => ?_) (fun h9 => absurd h9 (show ¬ (0 : Int32) = (123 : Int32) by decide +kernel))
  refine lv_iconst (v := 0) hx hb dX0_take_19 (by decide +kernel) ?_
  refine lv_istore_n (lv' := [(2, .int 0), (0, .ref q0), (1, .int 123)]) hx hb dX0_take_20 rfl hl (by decide) rfl (fun ls hl => ?_)
  refine lv_iload_n hx hb dX0_take_21 rfl (lv_at hl 0 rfl) ?_
  refine lv_if_eq (tgt := 35) hx hb dX0_take_22 (by decide) (fun _ => ?_) (fun h9 => absurd (show (0 : Int32) = (0 : Int32) by decide +kernel) h9)
  refine lv_iload_n hx hb dX0_take_35 rfl (lv_at hl 0 rfl) ?_
  have hP9 := hP.sub (ws' := [(q0, .inr (3, [.ref q1, .ref q2, .int 0, .int 0, .ref q3])), (q1, .inr (7, [.ref q4, .int 0]))]) [0, 1] rfl
  have hD9 := hD.sub (ws' := [(q0, .inr (3, [.ref q1, .ref q2, .int 0, .int 0, .ref q3])), (q1, .inr (7, [.ref q4, .int 0]))]) [0, 1] (by decide) rfl
  have hK9 := hK.sub (tys' := []) [] rfl
  exact W.zret (v := 0) hx hb hr (by decide +kernel) (fun t ht hW => ⟨⟨0, (), rfl, rfl, ⟨by rw [ht]; exact hP9, va_K.moved hW.alike hK9, hD9⟩⟩, hS.F ht⟩) hS.2.2 dX0_take_36
set_option maxHeartbeats 4000000 in
set_option maxRecDepth 100000 in
theorem c_X0_readWord (l : Launch) (dC : Nat → ClassId) (dI : Nat → Nat → Nat) (q0 q1 q2 q3 q4 : Nat) (sz : Nat) : Met l yX0_readWord wsX0_readWord ({ frames := 1, cells := 0, slots := 0, locals := 25 }) (va_Pc [.ref q0] (zB (dC, dI) [] [(q0, .inr (3, [.ref q1, .ref q2, .int 0, .int 0, .ref q3])), (q1, .inr (7, [.ref q4, .int 0]))] sz)) (va_Ql (fun (r : Int64) (_ : Unit) => 0 = r) (fun _ t => zE (dC, dI) [] [(q0, .inr (3, [.ref q1, .ref q2, .int 0, .int 0, .ref q3])), (q1, .inr (7, [.ref q4, .int 0]))] (va_A [(q0, .inr (3, [.ref q1, .ref q2, .int 0, .int 0, .ref q3])), (q1, .inr (7, [.ref q4, .int 0]))] sz) t) (va_A [(q0, .inr (3, [.ref q1, .ref q2, .int 0, .int 0, .ref q3])), (q1, .inr (7, [.ref q4, .int 0]))] sz)) 0 0 (va_A [(q0, .inr (3, [.ref q1, .ref q2, .int 0, .int 0, .ref q3])), (q1, .inr (7, [.ref q4, .int 0]))] sz) := by
  refine Met.ofW (cc := cX0_readWord) (maxL := 3) (ret := (some .long)) (by decide) rfl ?_
  intro p e s m args below meth c s₁ B hml hv
  obtain ⟨rfl, hsz, hP, hK, hD0, hZ, hN⟩ := hv
  have hx := B.exec
  have hb := B.bytes
  have hr := B.returns
  have hts := atoms_spec (ws := wsX0_readWord) B.pre
  have hown : s.vm.findClass RX0 = some m.cls := findClass_of_methodNamed B.named
  have hlocks := B.notSynchronized
  subst hsz
  have hD := hD0.self (sz := s.heap.size)
  generalize hAe : va_A [(q0, .inr (3, [.ref q1, .ref q2, .int 0, .int 0, .ref q3])), (q1, .inr (7, [.ref q4, .int 0]))] s.heap.size = A at hD hZ ⊢
  have hA : ∀ q : Nat, s.heap.size ≤ q → A q := fun q h => by rw [← hAe]; exact Or.inr h
  have hS : va_S A s.heap s.heap [] := va_S.rf
  have hP : va_P (dC, dI) vwCl [(q0, .inr (3, [.ref q1, .ref q2, .int 0, .int 0, .ref q3])), (q1, .inr (7, [.ref q4, .int 0]))] s.heap := hP
  have hl := lv_entry ([.ref q0]) (n := 3) (Nat.le_of_ble_eq_true rfl)
  rw [lg_entry_eq]
  generalize (lg_sl ([.ref q0]) ++ List.replicate (3 - (lg_sl ([.ref q0])).length) Slot.unset).toArray = ls at hl ⊢
  have hl : lv_has ls 3 [(0, .ref q0)] := hl
  refine lv_aload_n hx hb dX0_readWord_0 rfl (lv_at hl 0 rfl) ?_
  refine va_get (D := (dC, dI)) (ci := 3) (v := .int 0) (C := RX0) (T := TX0) (N := 5) hx hb hts (fun _ h => List.mem_cons_of_mem _ (List.mem_append_left _ (List.mem_append_left _ (List.mem_append_right _ h)))) hown hK hP 0 rfl rfl 2 (by decide) (hts (.fieldLink RX0 19 "Seekwell$Asker" "place" "I") (by decide +kernel)) (fun _ h9 => h9) rfl dX0_readWord_1 ?_
  refine lv_istore_n (lv' := [(1, .int 0), (0, .ref q0)]) hx hb dX0_readWord_4 rfl hl (by decide) rfl (fun ls hl => ?_)
  refine lv_aload_n hx hb dX0_readWord_5 rfl (lv_at hl 1 rfl) ?_
  refine va_get (D := (dC, dI)) (ci := 3) (v := .ref q1) (C := RX0) (T := TX0) (N := 5) hx hb hts (fun _ h => List.mem_cons_of_mem _ (List.mem_append_left _ (List.mem_append_left _ (List.mem_append_right _ h)))) hown hK hP 0 rfl rfl 0 (by decide) (hts (.fieldLink RX0 9 "Seekwell$Asker" "line" "LSeekwell$Line;") (by decide +kernel)) (fun _ h9 => h9) rfl dX0_readWord_6 ?_
  refine lv_iload_n hx hb dX0_readWord_9 rfl (lv_at hl 0 rfl) ?_
  have hPc := hP.sub (ws' := [(q1, .inr (7, [.ref q4, .int 0]))]) [1] rfl
  have hDc := hD.sub (ws' := [(q1, .inr (7, [.ref q4, .int 0]))]) [1] (by decide) rfl
  have hKc := hK.sub (tys' := []) [] rfl
  have hFc := va_free (wc := [(q1, .inr (7, [.ref q4, .int 0]))]) hD hS hA [1] rfl
  refine va_calli (va_runV (As := [.int 0]) (rest := []) ⟨hx, hb, hml, hown, hts⟩ (c_X4_wordEnd l dC dI q1 q4 s.heap.size  ) (cwV 1 hts gX0_readWord_X4_wordEnd rfl rfl rfl (by decide +kernel) ⟨Nat.le_of_ble_eq_true rfl, Nat.le_of_ble_eq_true rfl⟩) ⟨zB_blind, va_recv hK hP (ci := 7) (q0 := 1) rfl rfl, (zPre hPc hDc hKc hS hFc hZ hN)⟩ rfl rfl hl.1 rfl (lv_room (Nat.le_of_ble_eq_true rfl)) dX0_readWord_10 ⟨Nat.le_of_ble_eq_true rfl, Nat.le_of_ble_eq_true rfl⟩) hS (fun q _ h => hFc q h) hFc (fun r u t H1 locs ht hvm hw hB hz1 hk1 hS => ?_)
  subst hw
  obtain ⟨hP1, hK1, hD1⟩ := hB
  rw [ht] at hP1
  have hK1 := va_K.moved hvm.symm hK1
  obtain ⟨hP, hD⟩ := va_join (wr := [(q0, .inr (3, [.ref q1, .ref q2, .int 0, .int 0, .ref q3]))]) (w1 := [(q1, .inr (7, [.ref q4, .int 0]))]) hP hD [1] [0] rfl rfl (by decide) (by decide) hk1 hFc hP1 hD1
  have hK := (hK.sub (tys' := []) [] rfl).app hK1
  generalize H1 = H at hP hS ⊢
  have hP : va_P (dC, dI) vwCl [(q0, .inr (3, [.ref q1, .ref q2, .int 0, .int 0, .ref q3])), (q1, .inr (7, [.ref q4, .int 0]))] H := hP
  have hD : va_D A [(q0, .inr (3, [.ref q1, .ref q2, .int 0, .int 0, .ref q3])), (q1, .inr (7, [.ref q4, .int 0]))] := hD
  have hK : va_K (dC, dI) vwCl [] s := hK
  refine W.widen (k := 0) (n := 0) (Nat.le_of_ble_eq_true rfl) (Nat.le_of_ble_eq_true rfl) ?_
  refine lv_istore_n (lv' := [(2, .int 0), (1, .int 0), (0, .ref q0)]) hx hb dX0_readWord_13 rfl hl (by decide) rfl (fun ls hl => ?_)
  refine lv_aload_n hx hb dX0_readWord_14 rfl (lv_at hl 2 rfl) ?_
  refine lv_iload_n hx hb dX0_readWord_15 rfl (lv_at hl 0 rfl) ?_
  refine lv_iload_n hx hb dX0_readWord_16 rfl (lv_at hl 1 rfl) ?_
  refine lv_isub hx hb dX0_readWord_17 ?_
  refine zt_i (v := 0) (by decide +kernel) ?_
  refine lv_bipush (v := 12) hx hb dX0_readWord_18 (by decide +kernel) ?_
  refine lv_icmp_le (tgt := 30) hx hb dX0_readWord_20 (by decide) (fun _ => ?_) (fun h9 => absurd (show (0 : Int32) ≤ (12 : Int32) by decide +kernel) h9)
  refine lv_iload_n hx hb dX0_readWord_30 rfl (lv_at hl 0 rfl) ?_
  refine va_put (D := (dC, dI)) (ci := 3) (v := .int 0) (ty := .int) (C := RX0) (T := TX0) (N := 5) hx hb hts (fun _ h => List.mem_cons_of_mem _ (List.mem_append_left _ (List.mem_append_left _ (List.mem_append_right _ h)))) tyX0 tyX0_ok nmX0 hown hK hP hD hS 0 rfl rfl 2 (by decide) (hts (.fieldLink RX0 19 "Seekwell$Asker" "place" "I") (by decide +kernel)) (fun _ h9 => h9) rfl (by decide +kernel) rfl rfl (Nat.le_of_ble_eq_true rfl) dX0_readWord_31 (fun H locs hP hD hS => ?_)
  have hP : va_P (dC, dI) vwCl [(q0, .inr (3, [.ref q1, .ref q2, .int 0, .int 0, .ref q3])), (q1, .inr (7, [.ref q4, .int 0]))] H := hP
  have hD : va_D A [(q0, .inr (3, [.ref q1, .ref q2, .int 0, .int 0, .ref q3])), (q1, .inr (7, [.ref q4, .int 0]))] := hD
  refine lv_aload_n hx hb dX0_readWord_34 rfl (lv_at hl 2 rfl) ?_
  refine va_get (D := (dC, dI)) (ci := 3) (v := .ref q1) (C := RX0) (T := TX0) (N := 5) hx hb hts (fun _ h => List.mem_cons_of_mem _ (List.mem_append_left _ (List.mem_append_left _ (List.mem_append_right _ h)))) hown hK hP 0 rfl rfl 0 (by decide) (hts (.fieldLink RX0 9 "Seekwell$Asker" "line" "LSeekwell$Line;") (by decide +kernel)) (fun _ h9 => h9) rfl dX0_readWord_35 ?_
  refine lv_iload_n hx hb dX0_readWord_38 rfl (lv_at hl 1 rfl) ?_
  refine lv_aload_n hx hb dX0_readWord_39 rfl (lv_at hl 2 rfl) ?_
  refine va_get (D := (dC, dI)) (ci := 3) (v := .int 0) (C := RX0) (T := TX0) (N := 5) hx hb hts (fun _ h => List.mem_cons_of_mem _ (List.mem_append_left _ (List.mem_append_left _ (List.mem_append_right _ h)))) hown hK hP 0 rfl rfl 2 (by decide) (hts (.fieldLink RX0 19 "Seekwell$Asker" "place" "I") (by decide +kernel)) (fun _ h9 => h9) rfl dX0_readWord_40 ?_
  have hPc := hP.sub (ws' := []) [] rfl
  have hDc := hD.sub (ws' := []) [] (by decide) rfl
  have hKc := hK.sub (tys' := []) [] rfl
  have hFc := va_free (wc := []) hD hS hA [] rfl
  refine va_calll (va_runV (As := [.int 0, .int 0]) (rest := []) ⟨hx, hb, hml, hown, hts⟩ (c_X4_wordAt l dC dI q1 H.size  ) (cwV 2 hts gX0_readWord_X4_wordAt rfl rfl rfl (by decide +kernel) ⟨Nat.le_of_ble_eq_true rfl, Nat.le_of_ble_eq_true rfl⟩) ⟨zB_blind, va_recv hK hP (ci := 7) (q0 := 1) rfl rfl, (zPre hPc hDc hKc hS hFc hZ hN)⟩ rfl rfl hl.1 rfl (lv_room (Nat.le_of_ble_eq_true rfl)) dX0_readWord_43 ⟨Nat.le_of_ble_eq_true rfl, Nat.le_of_ble_eq_true rfl⟩) hS (fun q _ h => hFc q h) hFc (fun r u t H1 locs ht hvm hw hB hz1 hk1 hS => ?_)
  subst hw
  obtain ⟨hP1, hK1, hD1⟩ := hB
  rw [ht] at hP1
  have hK1 := va_K.moved hvm.symm hK1
  obtain ⟨hP, hD⟩ := va_join (wr := [(q0, .inr (3, [.ref q1, .ref q2, .int 0, .int 0, .ref q3])), (q1, .inr (7, [.ref q4, .int 0]))]) (w1 := []) hP hD [] [0, 1] rfl rfl (by decide) (by decide) hk1 hFc hP1 hD1
  have hK := (hK.sub (tys' := []) [] rfl).app hK1
  generalize H1 = H at hP hS ⊢
  have hP : va_P (dC, dI) vwCl [(q0, .inr (3, [.ref q1, .ref q2, .int 0, .int 0, .ref q3])), (q1, .inr (7, [.ref q4, .int 0]))] H := hP
  have hD : va_D A [(q0, .inr (3, [.ref q1, .ref q2, .int 0, .int 0, .ref q3])), (q1, .inr (7, [.ref q4, .int 0]))] := hD
  have hK : va_K (dC, dI) vwCl [] s := hK
  refine W.widen (k := 0) (n := 0) (Nat.le_of_ble_eq_true rfl) (Nat.le_of_ble_eq_true rfl) ?_
  have hP9 := hP.sub (ws' := [(q0, .inr (3, [.ref q1, .ref q2, .int 0, .int 0, .ref q3])), (q1, .inr (7, [.ref q4, .int 0]))]) [0, 1] rfl
  have hD9 := hD.sub (ws' := [(q0, .inr (3, [.ref q1, .ref q2, .int 0, .int 0, .ref q3])), (q1, .inr (7, [.ref q4, .int 0]))]) [0, 1] (by decide) rfl
  have hK9 := hK.sub (tys' := []) [] rfl
  exact W.lret (v := 0) hx hb hr (fun t ht hW => ⟨⟨0, (), rfl, rfl, ⟨by rw [ht]; exact hP9, va_K.moved hW.alike hK9, hD9⟩⟩, hS.F ht⟩) hS.2.2 dX0_readWord_46
set_option maxHeartbeats 4000000 in
set_option maxRecDepth 100000 in
theorem c_X0_readWordUnit (l : Launch) (dC : Nat → ClassId) (dI : Nat → Nat → Nat) (q0 q1 q2 q3 q4 q5 : Nat) (sz : Nat) : Met l yX0_readWordUnit wsX0_readWordUnit ({ frames := 2, cells := 0, slots := 0, locals := 47 }) (va_Pc [.ref q0, .ref q1] (zB (dC, dI) [] [(q0, .inr (3, [.ref q2, .ref q3, .int 0, .int 0, .ref q4])), (q2, .inr (7, [.ref q5, .int 0]))] sz)) (va_Qi (fun (r : Int32) (_ : Unit) => 0 = r) (fun _ t => zE (dC, dI) [] [(q0, .inr (3, [.ref q2, .ref q3, .int 0, .int 0, .ref q4])), (q2, .inr (7, [.ref q5, .int 0]))] (va_A [(q0, .inr (3, [.ref q2, .ref q3, .int 0, .int 0, .ref q4])), (q2, .inr (7, [.ref q5, .int 0]))] sz) t) (va_A [(q0, .inr (3, [.ref q2, .ref q3, .int 0, .int 0, .ref q4])), (q2, .inr (7, [.ref q5, .int 0]))] sz)) 0 0 (va_A [(q0, .inr (3, [.ref q2, .ref q3, .int 0, .int 0, .ref q4])), (q2, .inr (7, [.ref q5, .int 0]))] sz) := by
  refine Met.ofW (cc := cX0_readWordUnit) (maxL := 4) (ret := (some .boolean)) (by decide) rfl ?_
  intro p e s m args below meth c s₁ B hml hv
  obtain ⟨rfl, hsz, hP, hK, hD0, hZ, hN⟩ := hv
  have hx := B.exec
  have hb := B.bytes
  have hr := B.returns
  have hts := atoms_spec (ws := wsX0_readWordUnit) B.pre
  have hown : s.vm.findClass RX0 = some m.cls := findClass_of_methodNamed B.named
  have hlocks := B.notSynchronized
  subst hsz
  have hD := hD0.self (sz := s.heap.size)
  generalize hAe : va_A [(q0, .inr (3, [.ref q2, .ref q3, .int 0, .int 0, .ref q4])), (q2, .inr (7, [.ref q5, .int 0]))] s.heap.size = A at hD hZ ⊢
  have hA : ∀ q : Nat, s.heap.size ≤ q → A q := fun q h => by rw [← hAe]; exact Or.inr h
  have hS : va_S A s.heap s.heap [] := va_S.rf
  have hP : va_P (dC, dI) vwCl [(q0, .inr (3, [.ref q2, .ref q3, .int 0, .int 0, .ref q4])), (q2, .inr (7, [.ref q5, .int 0]))] s.heap := hP
  have hl := lv_entry ([.ref q0, .ref q1]) (n := 4) (Nat.le_of_ble_eq_true rfl)
  rw [lg_entry_eq]
  generalize (lg_sl ([.ref q0, .ref q1]) ++ List.replicate (4 - (lg_sl ([.ref q0, .ref q1])).length) Slot.unset).toArray = ls at hl ⊢
  have hl : lv_has ls 4 [(0, .ref q0), (1, .ref q1)] := hl
  refine lv_aload_n hx hb dX0_readWordUnit_0 rfl (lv_at hl 0 rfl) ?_
  have hPc := hP.sub (ws' := [(q0, .inr (3, [.ref q2, .ref q3, .int 0, .int 0, .ref q4])), (q2, .inr (7, [.ref q5, .int 0]))]) [0, 1] rfl
  have hDc := hD.sub (ws' := [(q0, .inr (3, [.ref q2, .ref q3, .int 0, .int 0, .ref q4])), (q2, .inr (7, [.ref q5, .int 0]))]) [0, 1] (by decide) rfl
  have hKc := hK.sub (tys' := []) [] rfl
  have hFc := va_free (wc := [(q0, .inr (3, [.ref q2, .ref q3, .int 0, .int 0, .ref q4])), (q2, .inr (7, [.ref q5, .int 0]))]) hD hS hA [0, 1] rfl
  refine va_calll (va_runV (As := []) (rest := []) ⟨hx, hb, hml, hown, hts⟩ (c_X0_readWord l dC dI q0 q2 q3 q4 q5 s.heap.size  ) (cwV 0 hts gX0_readWordUnit_X0_readWord rfl rfl rfl (by decide +kernel) ⟨Nat.le_of_ble_eq_true rfl, Nat.le_of_ble_eq_true rfl⟩) ⟨zB_blind, va_recv hK hP (ci := 3) (q0 := 0) rfl rfl, (zPre hPc hDc hKc hS hFc hZ hN)⟩ rfl rfl hl.1 rfl (lv_room (Nat.le_of_ble_eq_true rfl)) dX0_readWordUnit_1 ⟨Nat.le_of_ble_eq_true rfl, Nat.le_of_ble_eq_true rfl⟩) hS (fun q _ h => hFc q h) hFc (fun r u t H1 locs ht hvm hw hB hz1 hk1 hS => ?_)
  subst hw
  obtain ⟨hP1, hK1, hD1⟩ := hB
  rw [ht] at hP1
  have hK1 := va_K.moved hvm.symm hK1
  obtain ⟨hP, hD⟩ := va_join (wr := []) (w1 := [(q0, .inr (3, [.ref q2, .ref q3, .int 0, .int 0, .ref q4])), (q2, .inr (7, [.ref q5, .int 0]))]) hP hD [0, 1] [] rfl rfl (by decide) (by decide) hk1 hFc hP1 hD1
  have hK := (hK.sub (tys' := []) [] rfl).app hK1
  generalize H1 = H at hP hS ⊢
  have hP : va_P (dC, dI) vwCl [(q0, .inr (3, [.ref q2, .ref q3, .int 0, .int 0, .ref q4])), (q2, .inr (7, [.ref q5, .int 0]))] H := hP
  have hD : va_D A [(q0, .inr (3, [.ref q2, .ref q3, .int 0, .int 0, .ref q4])), (q2, .inr (7, [.ref q5, .int 0]))] := hD
  have hK : va_K (dC, dI) vwCl [] s := hK
  refine W.widen (k := 0) (n := 0) (Nat.le_of_ble_eq_true rfl) (Nat.le_of_ble_eq_true rfl) ?_
  refine lv_lstore_n (lv' := [(2, .long 0), (0, .ref q0), (1, .ref q1)]) hx hb dX0_readWordUnit_4 rfl hl (by decide) rfl (fun ls hl => ?_)
  refine lv_lload_n hx hb dX0_readWordUnit_5 rfl (lv_at hl 0 rfl) ?_
  refine lv_lconst (v := 0) hx hb dX0_readWordUnit_6 (by decide +kernel) ?_
  refine W.lcmp hx hb dX0_readWordUnit_7 ?_
  refine zt_i (v := 0) (by decide +kernel) ?_
  refine lv_if_ne (tgt := 13) hx hb dX0_readWordUnit_8 (by decide) (fun h9 => absurd (show (0 : Int32) = (0 : Int32) by decide +kernel) h9) (fun _ => ?_)
  refine lv_iconst (v := 0) hx hb dX0_readWordUnit_11 (by decide +kernel) ?_
  have hP9 := hP.sub (ws' := [(q0, .inr (3, [.ref q2, .ref q3, .int 0, .int 0, .ref q4])), (q2, .inr (7, [.ref q5, .int 0]))]) [0, 1] rfl
  have hD9 := hD.sub (ws' := [(q0, .inr (3, [.ref q2, .ref q3, .int 0, .int 0, .ref q4])), (q2, .inr (7, [.ref q5, .int 0]))]) [0, 1] (by decide) rfl
  have hK9 := hK.sub (tys' := []) [] rfl
  exact W.zret (v := 0) hx hb hr (by decide +kernel) (fun t ht hW => ⟨⟨0, (), rfl, rfl, ⟨by rw [ht]; exact hP9, va_K.moved hW.alike hK9, hD9⟩⟩, hS.F ht⟩) hS.2.2 dX0_readWordUnit_12
set_option maxHeartbeats 4000000 in
set_option maxRecDepth 100000 in
theorem c_X0_readUnit (l : Launch) (dC : Nat → ClassId) (dI : Nat → Nat → Nat) (q0 q1 q2 q3 q4 q5 : Nat) (sz : Nat) : Met l yX0_readUnit wsX0_readUnit ({ frames := 3, cells := 0, slots := 0, locals := 70 }) (va_Pc [.ref q0, .ref q1] (zB (dC, dI) [] [(q0, .inr (3, [.ref q2, .ref q3, .int 0, .int 0, .ref q4])), (q2, .inr (7, [.ref q5, .int 0]))] sz)) (va_Qi (fun (r : Int32) (_ : Unit) => 0 = r) (fun _ t => zE (dC, dI) [] [(q0, .inr (3, [.ref q2, .ref q3, .int 0, .int 0, .ref q4])), (q2, .inr (7, [.ref q5, .int 0]))] (va_A [(q0, .inr (3, [.ref q2, .ref q3, .int 0, .int 0, .ref q4])), (q2, .inr (7, [.ref q5, .int 0]))] sz) t) (va_A [(q0, .inr (3, [.ref q2, .ref q3, .int 0, .int 0, .ref q4])), (q2, .inr (7, [.ref q5, .int 0]))] sz)) 0 0 (va_A [(q0, .inr (3, [.ref q2, .ref q3, .int 0, .int 0, .ref q4])), (q2, .inr (7, [.ref q5, .int 0]))] sz) := by
  refine Met.ofW (cc := cX0_readUnit) (maxL := 2) (ret := (some .boolean)) (by decide) rfl ?_
  intro p e s m args below meth c s₁ B hml hv
  obtain ⟨rfl, hsz, hP, hK, hD0, hZ, hN⟩ := hv
  have hx := B.exec
  have hb := B.bytes
  have hr := B.returns
  have hts := atoms_spec (ws := wsX0_readUnit) B.pre
  have hown : s.vm.findClass RX0 = some m.cls := findClass_of_methodNamed B.named
  have hlocks := B.notSynchronized
  subst hsz
  have hD := hD0.self (sz := s.heap.size)
  generalize hAe : va_A [(q0, .inr (3, [.ref q2, .ref q3, .int 0, .int 0, .ref q4])), (q2, .inr (7, [.ref q5, .int 0]))] s.heap.size = A at hD hZ ⊢
  have hA : ∀ q : Nat, s.heap.size ≤ q → A q := fun q h => by rw [← hAe]; exact Or.inr h
  have hS : va_S A s.heap s.heap [] := va_S.rf
  have hP : va_P (dC, dI) vwCl [(q0, .inr (3, [.ref q2, .ref q3, .int 0, .int 0, .ref q4])), (q2, .inr (7, [.ref q5, .int 0]))] s.heap := hP
  have hl := lv_entry ([.ref q0, .ref q1]) (n := 2) (Nat.le_of_ble_eq_true rfl)
  rw [lg_entry_eq]
  generalize (lg_sl ([.ref q0, .ref q1]) ++ List.replicate (2 - (lg_sl ([.ref q0, .ref q1])).length) Slot.unset).toArray = ls at hl ⊢
  have hl : lv_has ls 2 [(0, .ref q0), (1, .ref q1)] := hl
  refine lv_aload_n hx hb dX0_readUnit_0 rfl (lv_at hl 0 rfl) ?_
  refine lv_bipush (v := 91) hx hb dX0_readUnit_1 (by decide +kernel) ?_
  have hPc := hP.sub (ws' := [(q0, .inr (3, [.ref q2, .ref q3, .int 0, .int 0, .ref q4])), (q2, .inr (7, [.ref q5, .int 0]))]) [0, 1] rfl
  have hDc := hD.sub (ws' := [(q0, .inr (3, [.ref q2, .ref q3, .int 0, .int 0, .ref q4])), (q2, .inr (7, [.ref q5, .int 0]))]) [0, 1] (by decide) rfl
  have hKc := hK.sub (tys' := []) [] rfl
  have hFc := va_free (wc := [(q0, .inr (3, [.ref q2, .ref q3, .int 0, .int 0, .ref q4])), (q2, .inr (7, [.ref q5, .int 0]))]) hD hS hA [0, 1] rfl
  refine va_calli (va_runV (As := [.int 91]) (rest := []) ⟨hx, hb, hml, hown, hts⟩ (c_X0_take_3 l dC dI q0 q2 q3 q4 q5 s.heap.size  ) (cwV 1 hts gX0_readUnit_X0_take rfl rfl rfl (by decide +kernel) ⟨Nat.le_of_ble_eq_true rfl, Nat.le_of_ble_eq_true rfl⟩) ⟨zB_blind, va_recv hK hP (ci := 3) (q0 := 0) rfl rfl, (zPre hPc hDc hKc hS hFc hZ hN)⟩ rfl rfl hl.1 rfl (lv_room (Nat.le_of_ble_eq_true rfl)) dX0_readUnit_3 ⟨Nat.le_of_ble_eq_true rfl, Nat.le_of_ble_eq_true rfl⟩) hS (fun q _ h => hFc q h) hFc (fun r u t H1 locs ht hvm hw hB hz1 hk1 hS => ?_)
  subst hw
  obtain ⟨hP1, hK1, hD1⟩ := hB
  rw [ht] at hP1
  have hK1 := va_K.moved hvm.symm hK1
  obtain ⟨hP, hD⟩ := va_join (wr := []) (w1 := [(q0, .inr (3, [.ref q2, .ref q3, .int 0, .int 0, .ref q4])), (q2, .inr (7, [.ref q5, .int 0]))]) hP hD [0, 1] [] rfl rfl (by decide) (by decide) hk1 hFc hP1 hD1
  have hK := (hK.sub (tys' := []) [] rfl).app hK1
  generalize H1 = H at hP hS ⊢
  have hP : va_P (dC, dI) vwCl [(q0, .inr (3, [.ref q2, .ref q3, .int 0, .int 0, .ref q4])), (q2, .inr (7, [.ref q5, .int 0]))] H := hP
  have hD : va_D A [(q0, .inr (3, [.ref q2, .ref q3, .int 0, .int 0, .ref q4])), (q2, .inr (7, [.ref q5, .int 0]))] := hD
  have hK : va_K (dC, dI) vwCl [] s := hK
  refine W.widen (k := 0) (n := 0) (Nat.le_of_ble_eq_true rfl) (Nat.le_of_ble_eq_true rfl) ?_
  refine lv_if_eq (tgt := 15) hx hb dX0_readUnit_6 (by decide) (fun _ => ?_) (fun h9 => absurd (show (0 : Int32) = (0 : Int32) by decide +kernel) h9)
  refine lv_aload_n hx hb dX0_readUnit_15 rfl (lv_at hl 0 rfl) ?_
  refine lv_bipush (v := 60) hx hb dX0_readUnit_16 (by decide +kernel) ?_
  have hPc := hP.sub (ws' := [(q0, .inr (3, [.ref q2, .ref q3, .int 0, .int 0, .ref q4])), (q2, .inr (7, [.ref q5, .int 0]))]) [0, 1] rfl
  have hDc := hD.sub (ws' := [(q0, .inr (3, [.ref q2, .ref q3, .int 0, .int 0, .ref q4])), (q2, .inr (7, [.ref q5, .int 0]))]) [0, 1] (by decide) rfl
  have hKc := hK.sub (tys' := []) [] rfl
  have hFc := va_free (wc := [(q0, .inr (3, [.ref q2, .ref q3, .int 0, .int 0, .ref q4])), (q2, .inr (7, [.ref q5, .int 0]))]) hD hS hA [0, 1] rfl
  refine va_calli (va_runV (As := [.int 60]) (rest := []) ⟨hx, hb, hml, hown, hts⟩ (c_X0_take_4 l dC dI q0 q2 q3 q4 q5 H.size  ) (cwV 1 hts gX0_readUnit_X0_take rfl rfl rfl (by decide +kernel) ⟨Nat.le_of_ble_eq_true rfl, Nat.le_of_ble_eq_true rfl⟩) ⟨zB_blind, va_recv hK hP (ci := 3) (q0 := 0) rfl rfl, (zPre hPc hDc hKc hS hFc hZ hN)⟩ rfl rfl hl.1 rfl (lv_room (Nat.le_of_ble_eq_true rfl)) dX0_readUnit_18 ⟨Nat.le_of_ble_eq_true rfl, Nat.le_of_ble_eq_true rfl⟩) hS (fun q _ h => hFc q h) hFc (fun r u t H1 locs ht hvm hw hB hz1 hk1 hS => ?_)
  subst hw
  obtain ⟨hP1, hK1, hD1⟩ := hB
  rw [ht] at hP1
  have hK1 := va_K.moved hvm.symm hK1
  obtain ⟨hP, hD⟩ := va_join (wr := []) (w1 := [(q0, .inr (3, [.ref q2, .ref q3, .int 0, .int 0, .ref q4])), (q2, .inr (7, [.ref q5, .int 0]))]) hP hD [0, 1] [] rfl rfl (by decide) (by decide) hk1 hFc hP1 hD1
  have hK := (hK.sub (tys' := []) [] rfl).app hK1
  generalize H1 = H at hP hS ⊢
  have hP : va_P (dC, dI) vwCl [(q0, .inr (3, [.ref q2, .ref q3, .int 0, .int 0, .ref q4])), (q2, .inr (7, [.ref q5, .int 0]))] H := hP
  have hD : va_D A [(q0, .inr (3, [.ref q2, .ref q3, .int 0, .int 0, .ref q4])), (q2, .inr (7, [.ref q5, .int 0]))] := hD
  have hK : va_K (dC, dI) vwCl [] s := hK
  refine W.widen (k := 0) (n := 0) (Nat.le_of_ble_eq_true rfl) (Nat.le_of_ble_eq_true rfl) ?_
  refine lv_if_eq (tgt := 32) hx hb dX0_readUnit_21 (by decide) (fun _ => ?_) (fun h9 => absurd (show (0 : Int32) = (0 : Int32) by decide +kernel) h9)
  refine lv_aload_n hx hb dX0_readUnit_32 rfl (lv_at hl 0 rfl) ?_
  refine lv_bipush (v := 62) hx hb dX0_readUnit_33 (by decide +kernel) ?_
  have hPc := hP.sub (ws' := [(q0, .inr (3, [.ref q2, .ref q3, .int 0, .int 0, .ref q4])), (q2, .inr (7, [.ref q5, .int 0]))]) [0, 1] rfl
  have hDc := hD.sub (ws' := [(q0, .inr (3, [.ref q2, .ref q3, .int 0, .int 0, .ref q4])), (q2, .inr (7, [.ref q5, .int 0]))]) [0, 1] (by decide) rfl
  have hKc := hK.sub (tys' := []) [] rfl
  have hFc := va_free (wc := [(q0, .inr (3, [.ref q2, .ref q3, .int 0, .int 0, .ref q4])), (q2, .inr (7, [.ref q5, .int 0]))]) hD hS hA [0, 1] rfl
  refine va_calli (va_runV (As := [.int 62]) (rest := []) ⟨hx, hb, hml, hown, hts⟩ (c_X0_take_5 l dC dI q0 q2 q3 q4 q5 H.size  ) (cwV 1 hts gX0_readUnit_X0_take rfl rfl rfl (by decide +kernel) ⟨Nat.le_of_ble_eq_true rfl, Nat.le_of_ble_eq_true rfl⟩) ⟨zB_blind, va_recv hK hP (ci := 3) (q0 := 0) rfl rfl, (zPre hPc hDc hKc hS hFc hZ hN)⟩ rfl rfl hl.1 rfl (lv_room (Nat.le_of_ble_eq_true rfl)) dX0_readUnit_35 ⟨Nat.le_of_ble_eq_true rfl, Nat.le_of_ble_eq_true rfl⟩) hS (fun q _ h => hFc q h) hFc (fun r u t H1 locs ht hvm hw hB hz1 hk1 hS => ?_)
  subst hw
  obtain ⟨hP1, hK1, hD1⟩ := hB
  rw [ht] at hP1
  have hK1 := va_K.moved hvm.symm hK1
  obtain ⟨hP, hD⟩ := va_join (wr := []) (w1 := [(q0, .inr (3, [.ref q2, .ref q3, .int 0, .int 0, .ref q4])), (q2, .inr (7, [.ref q5, .int 0]))]) hP hD [0, 1] [] rfl rfl (by decide) (by decide) hk1 hFc hP1 hD1
  have hK := (hK.sub (tys' := []) [] rfl).app hK1
  generalize H1 = H at hP hS ⊢
  have hP : va_P (dC, dI) vwCl [(q0, .inr (3, [.ref q2, .ref q3, .int 0, .int 0, .ref q4])), (q2, .inr (7, [.ref q5, .int 0]))] H := hP
  have hD : va_D A [(q0, .inr (3, [.ref q2, .ref q3, .int 0, .int 0, .ref q4])), (q2, .inr (7, [.ref q5, .int 0]))] := hD
  have hK : va_K (dC, dI) vwCl [] s := hK
  refine W.widen (k := 0) (n := 0) (Nat.le_of_ble_eq_true rfl) (Nat.le_of_ble_eq_true rfl) ?_
  refine lv_if_eq (tgt := 46) hx hb dX0_readUnit_38 (by decide) (fun _ => ?_) (fun h9 => absurd (show (0 : Int32) = (0 : Int32) by decide +kernel) h9)
  refine lv_aload_n hx hb dX0_readUnit_46 rfl (lv_at hl 0 rfl) ?_
  refine lv_bipush (v := 34) hx hb dX0_readUnit_47 (by decide +kernel) ?_
  have hPc := hP.sub (ws' := [(q0, .inr (3, [.ref q2, .ref q3, .int 0, .int 0, .ref q4])), (q2, .inr (7, [.ref q5, .int 0]))]) [0, 1] rfl
  have hDc := hD.sub (ws' := [(q0, .inr (3, [.ref q2, .ref q3, .int 0, .int 0, .ref q4])), (q2, .inr (7, [.ref q5, .int 0]))]) [0, 1] (by decide) rfl
  have hKc := hK.sub (tys' := []) [] rfl
  have hFc := va_free (wc := [(q0, .inr (3, [.ref q2, .ref q3, .int 0, .int 0, .ref q4])), (q2, .inr (7, [.ref q5, .int 0]))]) hD hS hA [0, 1] rfl
  refine va_calli (va_runV (As := [.int 34]) (rest := []) ⟨hx, hb, hml, hown, hts⟩ (c_X0_take_6 l dC dI q0 q2 q3 q4 q5 H.size  ) (cwV 1 hts gX0_readUnit_X0_take rfl rfl rfl (by decide +kernel) ⟨Nat.le_of_ble_eq_true rfl, Nat.le_of_ble_eq_true rfl⟩) ⟨zB_blind, va_recv hK hP (ci := 3) (q0 := 0) rfl rfl, (zPre hPc hDc hKc hS hFc hZ hN)⟩ rfl rfl hl.1 rfl (lv_room (Nat.le_of_ble_eq_true rfl)) dX0_readUnit_49 ⟨Nat.le_of_ble_eq_true rfl, Nat.le_of_ble_eq_true rfl⟩) hS (fun q _ h => hFc q h) hFc (fun r u t H1 locs ht hvm hw hB hz1 hk1 hS => ?_)
  subst hw
  obtain ⟨hP1, hK1, hD1⟩ := hB
  rw [ht] at hP1
  have hK1 := va_K.moved hvm.symm hK1
  obtain ⟨hP, hD⟩ := va_join (wr := []) (w1 := [(q0, .inr (3, [.ref q2, .ref q3, .int 0, .int 0, .ref q4])), (q2, .inr (7, [.ref q5, .int 0]))]) hP hD [0, 1] [] rfl rfl (by decide) (by decide) hk1 hFc hP1 hD1
  have hK := (hK.sub (tys' := []) [] rfl).app hK1
  generalize H1 = H at hP hS ⊢
  have hP : va_P (dC, dI) vwCl [(q0, .inr (3, [.ref q2, .ref q3, .int 0, .int 0, .ref q4])), (q2, .inr (7, [.ref q5, .int 0]))] H := hP
  have hD : va_D A [(q0, .inr (3, [.ref q2, .ref q3, .int 0, .int 0, .ref q4])), (q2, .inr (7, [.ref q5, .int 0]))] := hD
  have hK : va_K (dC, dI) vwCl [] s := hK
  refine W.widen (k := 0) (n := 0) (Nat.le_of_ble_eq_true rfl) (Nat.le_of_ble_eq_true rfl) ?_
  refine lv_if_eq (tgt := 61) hx hb dX0_readUnit_52 (by decide) (fun _ => ?_) (fun h9 => absurd (show (0 : Int32) = (0 : Int32) by decide +kernel) h9)
  refine lv_aload_n hx hb dX0_readUnit_61 rfl (lv_at hl 0 rfl) ?_
  refine lv_bipush (v := 123) hx hb dX0_readUnit_62 (by decide +kernel) ?_
  have hPc := hP.sub (ws' := [(q0, .inr (3, [.ref q2, .ref q3, .int 0, .int 0, .ref q4])), (q2, .inr (7, [.ref q5, .int 0]))]) [0, 1] rfl
  have hDc := hD.sub (ws' := [(q0, .inr (3, [.ref q2, .ref q3, .int 0, .int 0, .ref q4])), (q2, .inr (7, [.ref q5, .int 0]))]) [0, 1] (by decide) rfl
  have hKc := hK.sub (tys' := []) [] rfl
  have hFc := va_free (wc := [(q0, .inr (3, [.ref q2, .ref q3, .int 0, .int 0, .ref q4])), (q2, .inr (7, [.ref q5, .int 0]))]) hD hS hA [0, 1] rfl
  refine va_calli (va_runV (As := [.int 123]) (rest := []) ⟨hx, hb, hml, hown, hts⟩ (c_X0_take_7 l dC dI q0 q2 q3 q4 q5 H.size  ) (cwV 1 hts gX0_readUnit_X0_take rfl rfl rfl (by decide +kernel) ⟨Nat.le_of_ble_eq_true rfl, Nat.le_of_ble_eq_true rfl⟩) ⟨zB_blind, va_recv hK hP (ci := 3) (q0 := 0) rfl rfl, (zPre hPc hDc hKc hS hFc hZ hN)⟩ rfl rfl hl.1 rfl (lv_room (Nat.le_of_ble_eq_true rfl)) dX0_readUnit_64 ⟨Nat.le_of_ble_eq_true rfl, Nat.le_of_ble_eq_true rfl⟩) hS (fun q _ h => hFc q h) hFc (fun r u t H1 locs ht hvm hw hB hz1 hk1 hS => ?_)
  subst hw
  obtain ⟨hP1, hK1, hD1⟩ := hB
  rw [ht] at hP1
  have hK1 := va_K.moved hvm.symm hK1
  obtain ⟨hP, hD⟩ := va_join (wr := []) (w1 := [(q0, .inr (3, [.ref q2, .ref q3, .int 0, .int 0, .ref q4])), (q2, .inr (7, [.ref q5, .int 0]))]) hP hD [0, 1] [] rfl rfl (by decide) (by decide) hk1 hFc hP1 hD1
  have hK := (hK.sub (tys' := []) [] rfl).app hK1
  generalize H1 = H at hP hS ⊢
  have hP : va_P (dC, dI) vwCl [(q0, .inr (3, [.ref q2, .ref q3, .int 0, .int 0, .ref q4])), (q2, .inr (7, [.ref q5, .int 0]))] H := hP
  have hD : va_D A [(q0, .inr (3, [.ref q2, .ref q3, .int 0, .int 0, .ref q4])), (q2, .inr (7, [.ref q5, .int 0]))] := hD
  have hK : va_K (dC, dI) vwCl [] s := hK
  refine W.widen (k := 0) (n := 0) (Nat.le_of_ble_eq_true rfl) (Nat.le_of_ble_eq_true rfl) ?_
  refine lv_if_eq (tgt := 78) hx hb dX0_readUnit_67 (by decide) (fun _ => ?_) (fun h9 => absurd (show (0 : Int32) = (0 : Int32) by decide +kernel) h9)
  refine lv_aload_n hx hb dX0_readUnit_78 rfl (lv_at hl 0 rfl) ?_
  refine lv_aload_n hx hb dX0_readUnit_79 rfl (lv_at hl 1 rfl) ?_
  have hPc := hP.sub (ws' := [(q0, .inr (3, [.ref q2, .ref q3, .int 0, .int 0, .ref q4])), (q2, .inr (7, [.ref q5, .int 0]))]) [0, 1] rfl
  have hDc := hD.sub (ws' := [(q0, .inr (3, [.ref q2, .ref q3, .int 0, .int 0, .ref q4])), (q2, .inr (7, [.ref q5, .int 0]))]) [0, 1] (by decide) rfl
  have hKc := hK.sub (tys' := []) [] rfl
  have hFc := va_free (wc := [(q0, .inr (3, [.ref q2, .ref q3, .int 0, .int 0, .ref q4])), (q2, .inr (7, [.ref q5, .int 0]))]) hD hS hA [0, 1] rfl
  refine va_calli (va_runV (As := [.ref q1]) (rest := []) ⟨hx, hb, hml, hown, hts⟩ (c_X0_readWordUnit l dC dI q0 q1 q2 q3 q4 q5 H.size  ) (cwV 1 hts gX0_readUnit_X0_readWordUnit rfl rfl rfl (by decide +kernel) ⟨Nat.le_of_ble_eq_true rfl, Nat.le_of_ble_eq_true rfl⟩) ⟨zB_blind, va_recv hK hP (ci := 3) (q0 := 0) rfl rfl, (zPre hPc hDc hKc hS hFc hZ hN)⟩ rfl rfl hl.1 rfl (lv_room (Nat.le_of_ble_eq_true rfl)) dX0_readUnit_80 ⟨Nat.le_of_ble_eq_true rfl, Nat.le_of_ble_eq_true rfl⟩) hS (fun q _ h => hFc q h) hFc (fun r u t H1 locs ht hvm hw hB hz1 hk1 hS => ?_)
  subst hw
  obtain ⟨hP1, hK1, hD1⟩ := hB
  rw [ht] at hP1
  have hK1 := va_K.moved hvm.symm hK1
  obtain ⟨hP, hD⟩ := va_join (wr := []) (w1 := [(q0, .inr (3, [.ref q2, .ref q3, .int 0, .int 0, .ref q4])), (q2, .inr (7, [.ref q5, .int 0]))]) hP hD [0, 1] [] rfl rfl (by decide) (by decide) hk1 hFc hP1 hD1
  have hK := (hK.sub (tys' := []) [] rfl).app hK1
  generalize H1 = H at hP hS ⊢
  have hP : va_P (dC, dI) vwCl [(q0, .inr (3, [.ref q2, .ref q3, .int 0, .int 0, .ref q4])), (q2, .inr (7, [.ref q5, .int 0]))] H := hP
  have hD : va_D A [(q0, .inr (3, [.ref q2, .ref q3, .int 0, .int 0, .ref q4])), (q2, .inr (7, [.ref q5, .int 0]))] := hD
  have hK : va_K (dC, dI) vwCl [] s := hK
  refine W.widen (k := 0) (n := 0) (Nat.le_of_ble_eq_true rfl) (Nat.le_of_ble_eq_true rfl) ?_
  have hP9 := hP.sub (ws' := [(q0, .inr (3, [.ref q2, .ref q3, .int 0, .int 0, .ref q4])), (q2, .inr (7, [.ref q5, .int 0]))]) [0, 1] rfl
  have hD9 := hD.sub (ws' := [(q0, .inr (3, [.ref q2, .ref q3, .int 0, .int 0, .ref q4])), (q2, .inr (7, [.ref q5, .int 0]))]) [0, 1] (by decide) rfl
  have hK9 := hK.sub (tys' := []) [] rfl
  exact W.zret (v := 0) hx hb hr (by decide +kernel) (fun t ht hW => ⟨⟨0, (), rfl, rfl, ⟨by rw [ht]; exact hP9, va_K.moved hW.alike hK9, hD9⟩⟩, hS.F ht⟩) hS.2.2 dX0_readUnit_83
set_option maxHeartbeats 4000000 in
set_option maxRecDepth 100000 in
theorem c_X0_readTerm (l : Launch) (dC : Nat → ClassId) (dI : Nat → Nat → Nat) (q0 q1 q2 q3 q4 q5 q6 q7 : Nat) (sz : Nat) : Met l yX0_readTerm wsX0_readTerm ({ frames := 4, cells := 3, slots := 23, locals := 91 }) (va_Pc [.ref q0, .int 0] (zB (dC, dI) [] [(q0, .inr (3, [.ref q1, .ref q2, .int 0, .int 0, .ref q3])), (q2, .inr (9, [.ref q4, .ref q3, .null])), (q3, .inr (8, [.int 6, .int 0, .int 1, .int 0, .int 0, .int 0, .ref q5, .ref q6, .null, .null, .null, .int 0, .int 0, .int 0, .int 0, .null, .null])), (q1, .inr (7, [.ref q7, .int 0]))] sz)) (va_Qi (fun (r : Int32) (_ : Unit) => 0 = r) (fun _ t => zE (dC, dI) [] [(q0, .inr (3, [.ref q1, .ref q2, .int 0, .int 0, .ref q3])), (q1, .inr (7, [.ref q7, .int 0]))] (va_A [(q0, .inr (3, [.ref q1, .ref q2, .int 0, .int 0, .ref q3])), (q2, .inr (9, [.ref q4, .ref q3, .null])), (q3, .inr (8, [.int 6, .int 0, .int 1, .int 0, .int 0, .int 0, .ref q5, .ref q6, .null, .null, .null, .int 0, .int 0, .int 0, .int 0, .null, .null])), (q1, .inr (7, [.ref q7, .int 0]))] sz) t) (va_A [(q0, .inr (3, [.ref q1, .ref q2, .int 0, .int 0, .ref q3])), (q2, .inr (9, [.ref q4, .ref q3, .null])), (q3, .inr (8, [.int 6, .int 0, .int 1, .int 0, .int 0, .int 0, .ref q5, .ref q6, .null, .null, .null, .int 0, .int 0, .int 0, .int 0, .null, .null])), (q1, .inr (7, [.ref q7, .int 0]))] sz)) 3 23 (va_A [(q0, .inr (3, [.ref q1, .ref q2, .int 0, .int 0, .ref q3])), (q2, .inr (9, [.ref q4, .ref q3, .null])), (q3, .inr (8, [.int 6, .int 0, .int 1, .int 0, .int 0, .int 0, .ref q5, .ref q6, .null, .null, .null, .int 0, .int 0, .int 0, .int 0, .null, .null])), (q1, .inr (7, [.ref q7, .int 0]))] sz) := by
  refine Met.ofW (cc := cX0_readTerm) (maxL := 3) (ret := (some .boolean)) (by decide) rfl ?_
  intro p e s m args below meth c s₁ B hml hv
  obtain ⟨rfl, hsz, hP, hK, hD0, hZ, hN⟩ := hv
  have hx := B.exec
  have hb := B.bytes
  have hr := B.returns
  have hts := atoms_spec (ws := wsX0_readTerm) B.pre
  have hown : s.vm.findClass RX0 = some m.cls := findClass_of_methodNamed B.named
  have hlocks := B.notSynchronized
  subst hsz
  have hD := hD0.self (sz := s.heap.size)
  generalize hAe : va_A [(q0, .inr (3, [.ref q1, .ref q2, .int 0, .int 0, .ref q3])), (q2, .inr (9, [.ref q4, .ref q3, .null])), (q3, .inr (8, [.int 6, .int 0, .int 1, .int 0, .int 0, .int 0, .ref q5, .ref q6, .null, .null, .null, .int 0, .int 0, .int 0, .int 0, .null, .null])), (q1, .inr (7, [.ref q7, .int 0]))] s.heap.size = A at hD hZ ⊢
  have hA : ∀ q : Nat, s.heap.size ≤ q → A q := fun q h => by rw [← hAe]; exact Or.inr h
  have hS : va_S A s.heap s.heap [] := va_S.rf
  have hP : va_P (dC, dI) vwCl [(q0, .inr (3, [.ref q1, .ref q2, .int 0, .int 0, .ref q3])), (q2, .inr (9, [.ref q4, .ref q3, .null])), (q3, .inr (8, [.int 6, .int 0, .int 1, .int 0, .int 0, .int 0, .ref q5, .ref q6, .null, .null, .null, .int 0, .int 0, .int 0, .int 0, .null, .null])), (q1, .inr (7, [.ref q7, .int 0]))] s.heap := hP
  have hl := lv_entry ([.ref q0, .int 0]) (n := 3) (Nat.le_of_ble_eq_true rfl)
  rw [lg_entry_eq]
  generalize (lg_sl ([.ref q0, .int 0]) ++ List.replicate (3 - (lg_sl ([.ref q0, .int 0])).length) Slot.unset).toArray = ls at hl ⊢
  have hl : lv_has ls 3 [(0, .ref q0), (1, .int 0)] := hl
  refine lv_aload_n hx hb dX0_readTerm_0 rfl (lv_at hl 0 rfl) ?_
  refine va_get (D := (dC, dI)) (ci := 3) (v := .ref q2) (C := RX0) (T := TX0) (N := 5) hx hb hts (fun _ h => List.mem_cons_of_mem _ (List.mem_append_left _ (List.mem_append_left _ (List.mem_append_left _ (List.mem_append_left _ (List.mem_append_left _ (List.mem_append_left _ (List.mem_append_left _ (List.mem_append_left _ (List.mem_append_right _ h)))))))))) hown hK hP 0 rfl rfl 1 (by decide) (hts (.fieldLink RX0 15 "Seekwell$Asker" "question" "LSeekwell$Question;") (by decide +kernel)) (fun _ h9 => h9) rfl dX0_readTerm_1 ?_
  refine lv_iconst (v := 0) hx hb dX0_readTerm_4 (by decide +kernel) ?_
  have hPc := hP.sub (ws' := [(q2, .inr (9, [.ref q4, .ref q3, .null])), (q3, .inr (8, [.int 6, .int 0, .int 1, .int 0, .int 0, .int 0, .ref q5, .ref q6, .null, .null, .null, .int 0, .int 0, .int 0, .int 0, .null, .null]))]) [1, 2] rfl
  have hDc := hD.sub (ws' := [(q2, .inr (9, [.ref q4, .ref q3, .null])), (q3, .inr (8, [.int 6, .int 0, .int 1, .int 0, .int 0, .int 0, .ref q5, .ref q6, .null, .null, .null, .int 0, .int 0, .int 0, .int 0, .null, .null]))]) [1, 2] (by decide) rfl
  have hKc := hK.sub (tys' := []) [] rfl
  have hFc := va_free (wc := [(q2, .inr (9, [.ref q4, .ref q3, .null])), (q3, .inr (8, [.int 6, .int 0, .int 1, .int 0, .int 0, .int 0, .ref q5, .ref q6, .null, .null, .null, .int 0, .int 0, .int 0, .int 0, .null, .null]))]) hD hS hA [1, 2] rfl
  refine va_callr (va_runV (As := [.int 0]) (rest := []) ⟨hx, hb, hml, hown, hts⟩ (c_X6_fresh_3 l dC dI q2 q4 q3 q5 q6 s.heap.size  ) (cwV 1 hts gX0_readTerm_X6_fresh rfl rfl rfl (by decide +kernel) ⟨Nat.le_of_ble_eq_true rfl, Nat.le_of_ble_eq_true rfl⟩) ⟨zB_blind, va_recv hK hP (ci := 9) (q0 := 1) rfl rfl, (zPre hPc hDc hKc hS hFc hZ hN)⟩ rfl rfl hl.1 rfl (lv_room (Nat.le_of_ble_eq_true rfl)) dX0_readTerm_5 ⟨Nat.le_of_ble_eq_true rfl, Nat.le_of_ble_eq_true rfl⟩) hS (fun q _ h => hFc q h) hFc (fun u ra t H1 locs ht hvm hw hB hz1 hk1 hS => ?_)
  obtain ⟨q8, q9, hra, hP1, hK1, hD1⟩ := hB
  subst hra
  rw [ht] at hP1
  have hK1 := va_K.moved hvm.symm hK1
  obtain ⟨hP, hD⟩ := va_join (wr := [(q0, .inr (3, [.ref q1, .ref q2, .int 0, .int 0, .ref q3])), (q1, .inr (7, [.ref q7, .int 0]))]) (w1 := [(q8, .inr (8, [.int 0, .int 0, .int 1, .int 0, .int 0, .int 0, .ref q9, .null, .null, .null, .null, .int 0, .int 0, .int 0, .int 0, .null, .null]))]) hP hD [1, 2] [0, 3] rfl rfl (by decide) (by decide) hk1 hFc hP1 hD1
  have hK := (hK.sub (tys' := []) [] rfl).app hK1
  generalize H1 = H at hP hS ⊢
  have hP : va_P (dC, dI) vwCl [(q0, .inr (3, [.ref q1, .ref q2, .int 0, .int 0, .ref q3])), (q1, .inr (7, [.ref q7, .int 0])), (q8, .inr (8, [.int 0, .int 0, .int 1, .int 0, .int 0, .int 0, .ref q9, .null, .null, .null, .null, .int 0, .int 0, .int 0, .int 0, .null, .null]))] H := hP
  have hD : va_D A [(q0, .inr (3, [.ref q1, .ref q2, .int 0, .int 0, .ref q3])), (q1, .inr (7, [.ref q7, .int 0])), (q8, .inr (8, [.int 0, .int 0, .int 1, .int 0, .int 0, .int 0, .ref q9, .null, .null, .null, .null, .int 0, .int 0, .int 0, .int 0, .null, .null]))] := hD
  have hK : va_K (dC, dI) vwCl [] s := hK
  refine W.widen (k := 3) (n := 23) (Nat.le_of_ble_eq_true rfl) (Nat.le_of_ble_eq_true rfl) ?_
  refine lv_astore_n (lv' := [(2, .ref q8), (0, .ref q0), (1, .int 0)]) hx hb dX0_readTerm_8 rfl hl (by decide) rfl (fun ls hl => ?_)
  refine lv_aload_n hx hb dX0_readTerm_9 rfl (lv_at hl 0 rfl) ?_
  refine lv_iload_n hx hb dX0_readTerm_10 rfl (lv_at hl 2 rfl) ?_
  refine va_put (D := (dC, dI)) (ci := 8) (v := .int 0) (ty := .boolean) (C := RX5) (T := TX5) (N := 17) hx hb hts (fun _ h => List.mem_cons_of_mem _ (List.mem_append_left _ (List.mem_append_left _ (List.mem_append_left _ (List.mem_append_left _ (List.mem_append_left _ (List.mem_append_left _ (List.mem_append_left _ (List.mem_append_right _ h))))))))) tyX5 tyX5_ok nmX5 hown hK hP hD hS 2 rfl rfl 1 (by decide) (hts (.fieldLink RX0 81 "Seekwell$Node" "isNot" "Z") (by decide +kernel)) (fun _ h9 => h9) rfl (by decide +kernel) rfl rfl (Nat.le_of_ble_eq_true rfl) dX0_readTerm_11 (fun H locs hP hD hS => ?_)
  have hP : va_P (dC, dI) vwCl [(q0, .inr (3, [.ref q1, .ref q2, .int 0, .int 0, .ref q3])), (q1, .inr (7, [.ref q7, .int 0])), (q8, .inr (8, [.int 0, .int 0, .int 1, .int 0, .int 0, .int 0, .ref q9, .null, .null, .null, .null, .int 0, .int 0, .int 0, .int 0, .null, .null]))] H := hP
  have hD : va_D A [(q0, .inr (3, [.ref q1, .ref q2, .int 0, .int 0, .ref q3])), (q1, .inr (7, [.ref q7, .int 0])), (q8, .inr (8, [.int 0, .int 0, .int 1, .int 0, .int 0, .int 0, .ref q9, .null, .null, .null, .null, .int 0, .int 0, .int 0, .int 0, .null, .null]))] := hD
  refine lv_aload_n hx hb dX0_readTerm_14 rfl (lv_at hl 1 rfl) ?_
  refine lv_aload_n hx hb dX0_readTerm_15 rfl (lv_at hl 0 rfl) ?_
  have hPc := hP.sub (ws' := [(q0, .inr (3, [.ref q1, .ref q2, .int 0, .int 0, .ref q3])), (q1, .inr (7, [.ref q7, .int 0]))]) [0, 1] rfl
  have hDc := hD.sub (ws' := [(q0, .inr (3, [.ref q1, .ref q2, .int 0, .int 0, .ref q3])), (q1, .inr (7, [.ref q7, .int 0]))]) [0, 1] (by decide) rfl
  have hKc := hK.sub (tys' := []) [] rfl
  have hFc := va_free (wc := [(q0, .inr (3, [.ref q1, .ref q2, .int 0, .int 0, .ref q3])), (q1, .inr (7, [.ref q7, .int 0]))]) hD hS hA [0, 1] rfl
  refine va_calli (va_runV (As := [.ref q8]) (rest := []) ⟨hx, hb, hml, hown, hts⟩ (c_X0_readUnit l dC dI q0 q8 q1 q2 q3 q7 H.size  ) (cwV 1 hts gX0_readTerm_X0_readUnit rfl rfl rfl (by decide +kernel) ⟨Nat.le_of_ble_eq_true rfl, Nat.le_of_ble_eq_true rfl⟩) ⟨zB_blind, va_recv hK hP (ci := 3) (q0 := 0) rfl rfl, (zPre hPc hDc hKc hS hFc hZ hN)⟩ rfl rfl hl.1 rfl (lv_room (Nat.le_of_ble_eq_true rfl)) dX0_readTerm_16 ⟨Nat.le_of_ble_eq_true rfl, Nat.le_of_ble_eq_true rfl⟩) hS (fun q _ h => hFc q h) hFc (fun r u t H1 locs ht hvm hw hB hz1 hk1 hS => ?_)
  subst hw
  obtain ⟨hP1, hK1, hD1⟩ := hB
  rw [ht] at hP1
  have hK1 := va_K.moved hvm.symm hK1
  obtain ⟨hP, hD⟩ := va_join (wr := []) (w1 := [(q0, .inr (3, [.ref q1, .ref q2, .int 0, .int 0, .ref q3])), (q1, .inr (7, [.ref q7, .int 0]))]) hP hD [0, 1] [] rfl rfl (by decide) (by decide) hk1 hFc hP1 hD1
  have hK := (hK.sub (tys' := []) [] rfl).app hK1
  generalize H1 = H at hP hS ⊢
  have hP : va_P (dC, dI) vwCl [(q0, .inr (3, [.ref q1, .ref q2, .int 0, .int 0, .ref q3])), (q1, .inr (7, [.ref q7, .int 0]))] H := hP
  have hD : va_D A [(q0, .inr (3, [.ref q1, .ref q2, .int 0, .int 0, .ref q3])), (q1, .inr (7, [.ref q7, .int 0]))] := hD
  have hK : va_K (dC, dI) vwCl [] s := hK
  refine W.widen (k := 3) (n := 23) (Nat.le_of_ble_eq_true rfl) (Nat.le_of_ble_eq_true rfl) ?_
  refine lv_if_eq (tgt := 30) hx hb dX0_readTerm_19 (by decide) (fun _ => ?_) (fun h9 => absurd (show (0 : Int32) = (0 : Int32) by decide +kernel) h9)
  refine lv_iconst (v := 0) hx hb dX0_readTerm_30 (by decide +kernel) ?_
  have hP9 := hP.sub (ws' := [(q0, .inr (3, [.ref q1, .ref q2, .int 0, .int 0, .ref q3])), (q1, .inr (7, [.ref q7, .int 0]))]) [0, 1] rfl
  have hD9 := hD.sub (ws' := [(q0, .inr (3, [.ref q1, .ref q2, .int 0, .int 0, .ref q3])), (q1, .inr (7, [.ref q7, .int 0]))]) [0, 1] (by decide) rfl
  have hK9 := hK.sub (tys' := []) [] rfl
  exact W.zret (v := 0) hx hb hr (by decide +kernel) (fun t ht hW => ⟨⟨0, (), rfl, rfl, ⟨by rw [ht]; exact hP9, va_K.moved hW.alike hK9, hD9⟩⟩, hS.F ht⟩) hS.2.2 dX0_readTerm_31
set_option maxHeartbeats 4000000 in
set_option maxRecDepth 100000 in
theorem c_X0_read (l : Launch) (dC : Nat → ClassId) (dI : Nat → Nat → Nat) (q0 q1 q2 q3 q4 q5 : Nat) (sz : Nat) : Met l yX0_read wsX0_read ({ frames := 6, cells := 9, slots := 69, locals := 124 }) (va_Pc [.ref q0, .ref q1, .ref q2] (zB (dC, dI) [] [(q0, .inr (3, [.null, .null, .int 0, .int 0, .null])), (q2, .inr (9, [.ref q3, .ref q3, .null])), (q3, .inr (8, [.int 0, .int 0, .int 1, .int 0, .int 0, .int 0, .ref q4, .null, .null, .null, .null, .int 0, .int 0, .int 0, .int 0, .null, .null])), (q1, .inr (7, [.ref q5, .int 0]))] sz)) (va_Qi (fun (r : Int32) (_ : Unit) => (-1) = r) (fun _ t => zE (dC, dI) [] [(q1, .inr (7, [.ref q5, .int 0]))] (va_A [(q0, .inr (3, [.null, .null, .int 0, .int 0, .null])), (q2, .inr (9, [.ref q3, .ref q3, .null])), (q3, .inr (8, [.int 0, .int 0, .int 1, .int 0, .int 0, .int 0, .ref q4, .null, .null, .null, .null, .int 0, .int 0, .int 0, .int 0, .null, .null])), (q1, .inr (7, [.ref q5, .int 0]))] sz) t) (va_A [(q0, .inr (3, [.null, .null, .int 0, .int 0, .null])), (q2, .inr (9, [.ref q3, .ref q3, .null])), (q3, .inr (8, [.int 0, .int 0, .int 1, .int 0, .int 0, .int 0, .ref q4, .null, .null, .null, .null, .int 0, .int 0, .int 0, .int 0, .null, .null])), (q1, .inr (7, [.ref q5, .int 0]))] sz)) 9 69 (va_A [(q0, .inr (3, [.null, .null, .int 0, .int 0, .null])), (q2, .inr (9, [.ref q3, .ref q3, .null])), (q3, .inr (8, [.int 0, .int 0, .int 1, .int 0, .int 0, .int 0, .ref q4, .null, .null, .null, .null, .int 0, .int 0, .int 0, .int 0, .null, .null])), (q1, .inr (7, [.ref q5, .int 0]))] sz) := by
  refine Met.ofW (cc := cX0_read) (maxL := 5) (ret := (some .int)) (by decide) rfl ?_
  intro p e s m args below meth c s₁ B hml hv
  obtain ⟨rfl, hsz, hP, hK, hD0, hZ, hN⟩ := hv
  have hx := B.exec
  have hb := B.bytes
  have hr := B.returns
  have hts := atoms_spec (ws := wsX0_read) B.pre
  have hown : s.vm.findClass RX0 = some m.cls := findClass_of_methodNamed B.named
  have hlocks := B.notSynchronized
  subst hsz
  have hD := hD0.self (sz := s.heap.size)
  generalize hAe : va_A [(q0, .inr (3, [.null, .null, .int 0, .int 0, .null])), (q2, .inr (9, [.ref q3, .ref q3, .null])), (q3, .inr (8, [.int 0, .int 0, .int 1, .int 0, .int 0, .int 0, .ref q4, .null, .null, .null, .null, .int 0, .int 0, .int 0, .int 0, .null, .null])), (q1, .inr (7, [.ref q5, .int 0]))] s.heap.size = A at hD hZ ⊢
  have hA : ∀ q : Nat, s.heap.size ≤ q → A q := fun q h => by rw [← hAe]; exact Or.inr h
  have hS : va_S A s.heap s.heap [] := va_S.rf
  have hP : va_P (dC, dI) vwCl [(q0, .inr (3, [.null, .null, .int 0, .int 0, .null])), (q2, .inr (9, [.ref q3, .ref q3, .null])), (q3, .inr (8, [.int 0, .int 0, .int 1, .int 0, .int 0, .int 0, .ref q4, .null, .null, .null, .null, .int 0, .int 0, .int 0, .int 0, .null, .null])), (q1, .inr (7, [.ref q5, .int 0]))] s.heap := hP
  have hl := lv_entry ([.ref q0, .ref q1, .ref q2]) (n := 5) (Nat.le_of_ble_eq_true rfl)
  rw [lg_entry_eq]
  generalize (lg_sl ([.ref q0, .ref q1, .ref q2]) ++ List.replicate (5 - (lg_sl ([.ref q0, .ref q1, .ref q2])).length) Slot.unset).toArray = ls at hl ⊢
  have hl : lv_has ls 5 [(0, .ref q0), (1, .ref q1), (2, .ref q2)] := hl
  refine lv_aload_n hx hb dX0_read_0 rfl (lv_at hl 0 rfl) ?_
  refine lv_aload_n hx hb dX0_read_1 rfl (lv_at hl 1 rfl) ?_
  refine va_put (D := (dC, dI)) (ci := 3) (v := .ref q1) (ty := (.object "Seekwell$Line")) (C := RX0) (T := TX0) (N := 5) hx hb hts (fun _ h => List.mem_cons_of_mem _ (List.mem_append_left _ (List.mem_append_left _ (List.mem_append_left _ (List.mem_append_left _ (List.mem_append_left _ (List.mem_append_left _ (List.mem_append_left _ (List.mem_append_left _ (List.mem_append_right _ h)))))))))) tyX0 tyX0_ok nmX0 hown hK hP hD hS 0 rfl rfl 0 (by decide) (hts (.fieldLink RX0 9 "Seekwell$Asker" "line" "LSeekwell$Line;") (by decide +kernel)) (fun _ h9 => h9) rfl (by decide +kernel) rfl rfl (Nat.le_of_ble_eq_true rfl) dX0_read_2 (fun H locs hP hD hS => ?_)
  have hP : va_P (dC, dI) vwCl [(q0, .inr (3, [.ref q1, .null, .int 0, .int 0, .null])), (q2, .inr (9, [.ref q3, .ref q3, .null])), (q3, .inr (8, [.int 0, .int 0, .int 1, .int 0, .int 0, .int 0, .ref q4, .null, .null, .null, .null, .int 0, .int 0, .int 0, .int 0, .null, .null])), (q1, .inr (7, [.ref q5, .int 0]))] H := hP
  have hD : va_D A [(q0, .inr (3, [.ref q1, .null, .int 0, .int 0, .null])), (q2, .inr (9, [.ref q3, .ref q3, .null])), (q3, .inr (8, [.int 0, .int 0, .int 1, .int 0, .int 0, .int 0, .ref q4, .null, .null, .null, .null, .int 0, .int 0, .int 0, .int 0, .null, .null])), (q1, .inr (7, [.ref q5, .int 0]))] := hD
  refine lv_aload_n hx hb dX0_read_5 rfl (lv_at hl 0 rfl) ?_
  refine lv_aload_n hx hb dX0_read_6 rfl (lv_at hl 2 rfl) ?_
  refine va_put (D := (dC, dI)) (ci := 3) (v := .ref q2) (ty := (.object "Seekwell$Question")) (C := RX0) (T := TX0) (N := 5) hx hb hts (fun _ h => List.mem_cons_of_mem _ (List.mem_append_left _ (List.mem_append_left _ (List.mem_append_left _ (List.mem_append_left _ (List.mem_append_left _ (List.mem_append_left _ (List.mem_append_left _ (List.mem_append_left _ (List.mem_append_right _ h)))))))))) tyX0 tyX0_ok nmX0 hown hK hP hD hS 0 rfl rfl 1 (by decide) (hts (.fieldLink RX0 15 "Seekwell$Asker" "question" "LSeekwell$Question;") (by decide +kernel)) (fun _ h9 => h9) rfl (by decide +kernel) rfl rfl (Nat.le_of_ble_eq_true rfl) dX0_read_7 (fun H locs hP hD hS => ?_)
  have hP : va_P (dC, dI) vwCl [(q0, .inr (3, [.ref q1, .ref q2, .int 0, .int 0, .null])), (q2, .inr (9, [.ref q3, .ref q3, .null])), (q3, .inr (8, [.int 0, .int 0, .int 1, .int 0, .int 0, .int 0, .ref q4, .null, .null, .null, .null, .int 0, .int 0, .int 0, .int 0, .null, .null])), (q1, .inr (7, [.ref q5, .int 0]))] H := hP
  have hD : va_D A [(q0, .inr (3, [.ref q1, .ref q2, .int 0, .int 0, .null])), (q2, .inr (9, [.ref q3, .ref q3, .null])), (q3, .inr (8, [.int 0, .int 0, .int 1, .int 0, .int 0, .int 0, .ref q4, .null, .null, .null, .null, .int 0, .int 0, .int 0, .int 0, .null, .null])), (q1, .inr (7, [.ref q5, .int 0]))] := hD
  refine lv_aload_n hx hb dX0_read_10 rfl (lv_at hl 0 rfl) ?_
  refine lv_iconst (v := 0) hx hb dX0_read_11 (by decide +kernel) ?_
  refine va_put (D := (dC, dI)) (ci := 3) (v := .int 0) (ty := .int) (C := RX0) (T := TX0) (N := 5) hx hb hts (fun _ h => List.mem_cons_of_mem _ (List.mem_append_left _ (List.mem_append_left _ (List.mem_append_left _ (List.mem_append_left _ (List.mem_append_left _ (List.mem_append_left _ (List.mem_append_left _ (List.mem_append_left _ (List.mem_append_right _ h)))))))))) tyX0 tyX0_ok nmX0 hown hK hP hD hS 0 rfl rfl 2 (by decide) (hts (.fieldLink RX0 19 "Seekwell$Asker" "place" "I") (by decide +kernel)) (fun _ h9 => h9) rfl (by decide +kernel) rfl rfl (Nat.le_of_ble_eq_true rfl) dX0_read_12 (fun H locs hP hD hS => ?_)
  have hP : va_P (dC, dI) vwCl [(q0, .inr (3, [.ref q1, .ref q2, .int 0, .int 0, .null])), (q2, .inr (9, [.ref q3, .ref q3, .null])), (q3, .inr (8, [.int 0, .int 0, .int 1, .int 0, .int 0, .int 0, .ref q4, .null, .null, .null, .null, .int 0, .int 0, .int 0, .int 0, .null, .null])), (q1, .inr (7, [.ref q5, .int 0]))] H := hP
  have hD : va_D A [(q0, .inr (3, [.ref q1, .ref q2, .int 0, .int 0, .null])), (q2, .inr (9, [.ref q3, .ref q3, .null])), (q3, .inr (8, [.int 0, .int 0, .int 1, .int 0, .int 0, .int 0, .ref q4, .null, .null, .null, .null, .int 0, .int 0, .int 0, .int 0, .null, .null])), (q1, .inr (7, [.ref q5, .int 0]))] := hD
  refine lv_aload_n hx hb dX0_read_15 rfl (lv_at hl 0 rfl) ?_
  refine lv_iconst (v := 0) hx hb dX0_read_16 (by decide +kernel) ?_
  refine va_put (D := (dC, dI)) (ci := 3) (v := .int 0) (ty := .int) (C := RX0) (T := TX0) (N := 5) hx hb hts (fun _ h => List.mem_cons_of_mem _ (List.mem_append_left _ (List.mem_append_left _ (List.mem_append_left _ (List.mem_append_left _ (List.mem_append_left _ (List.mem_append_left _ (List.mem_append_left _ (List.mem_append_left _ (List.mem_append_right _ h)))))))))) tyX0 tyX0_ok nmX0 hown hK hP hD hS 0 rfl rfl 3 (by decide) (hts (.fieldLink RX0 23 "Seekwell$Asker" "depth" "I") (by decide +kernel)) (fun _ h9 => h9) rfl (by decide +kernel) rfl rfl (Nat.le_of_ble_eq_true rfl) dX0_read_17 (fun H locs hP hD hS => ?_)
  have hP : va_P (dC, dI) vwCl [(q0, .inr (3, [.ref q1, .ref q2, .int 0, .int 0, .null])), (q2, .inr (9, [.ref q3, .ref q3, .null])), (q3, .inr (8, [.int 0, .int 0, .int 1, .int 0, .int 0, .int 0, .ref q4, .null, .null, .null, .null, .int 0, .int 0, .int 0, .int 0, .null, .null])), (q1, .inr (7, [.ref q5, .int 0]))] H := hP
  have hD : va_D A [(q0, .inr (3, [.ref q1, .ref q2, .int 0, .int 0, .null])), (q2, .inr (9, [.ref q3, .ref q3, .null])), (q3, .inr (8, [.int 0, .int 0, .int 1, .int 0, .int 0, .int 0, .ref q4, .null, .null, .null, .null, .int 0, .int 0, .int 0, .int 0, .null, .null])), (q1, .inr (7, [.ref q5, .int 0]))] := hD
  refine lv_aload_n hx hb dX0_read_20 rfl (lv_at hl 0 rfl) ?_
  refine lv_null hx hb dX0_read_21 ?_
  refine va_put (D := (dC, dI)) (ci := 3) (v := .null) (ty := (.object "Seekwell$Node")) (C := RX0) (T := TX0) (N := 5) hx hb hts (fun _ h => List.mem_cons_of_mem _ (List.mem_append_left _ (List.mem_append_left _ (List.mem_append_left _ (List.mem_append_left _ (List.mem_append_left _ (List.mem_append_left _ (List.mem_append_left _ (List.mem_append_left _ (List.mem_append_right _ h)))))))))) tyX0 tyX0_ok nmX0 hown hK hP hD hS 0 rfl rfl 4 (by decide) (hts (.fieldLink RX0 26 "Seekwell$Asker" "terms" "LSeekwell$Node;") (by decide +kernel)) (fun _ h9 => h9) rfl (by decide +kernel) rfl rfl (Nat.le_of_ble_eq_true rfl) dX0_read_22 (fun H locs hP hD hS => ?_)
  have hP : va_P (dC, dI) vwCl [(q0, .inr (3, [.ref q1, .ref q2, .int 0, .int 0, .null])), (q2, .inr (9, [.ref q3, .ref q3, .null])), (q3, .inr (8, [.int 0, .int 0, .int 1, .int 0, .int 0, .int 0, .ref q4, .null, .null, .null, .null, .int 0, .int 0, .int 0, .int 0, .null, .null])), (q1, .inr (7, [.ref q5, .int 0]))] H := hP
  have hD : va_D A [(q0, .inr (3, [.ref q1, .ref q2, .int 0, .int 0, .null])), (q2, .inr (9, [.ref q3, .ref q3, .null])), (q3, .inr (8, [.int 0, .int 0, .int 1, .int 0, .int 0, .int 0, .ref q4, .null, .null, .null, .null, .int 0, .int 0, .int 0, .int 0, .null, .null])), (q1, .inr (7, [.ref q5, .int 0]))] := hD
  refine lv_aload_n hx hb dX0_read_25 rfl (lv_at hl 2 rfl) ?_
  have hPc := hP.sub (ws' := [(q2, .inr (9, [.ref q3, .ref q3, .null]))]) [1] rfl
  have hDc := hD.sub (ws' := [(q2, .inr (9, [.ref q3, .ref q3, .null]))]) [1] (by decide) rfl
  have hKc := hK.sub (tys' := []) [] rfl
  have hFc := va_free (wc := [(q2, .inr (9, [.ref q3, .ref q3, .null]))]) hD hS hA [1] rfl
  refine va_callv (va_runV (As := []) (rest := []) ⟨hx, hb, hml, hown, hts⟩ (c_X6_clear l dC dI q2 q3 H.size  ) (cwV 0 hts gX0_read_X6_clear rfl rfl rfl (by decide +kernel) ⟨Nat.le_of_ble_eq_true rfl, Nat.le_of_ble_eq_true rfl⟩) ⟨zB_blind, va_recv hK hP (ci := 9) (q0 := 1) rfl rfl, (zPre hPc hDc hKc hS hFc hZ hN)⟩ rfl rfl hl.1 rfl (lv_room (Nat.le_of_ble_eq_true rfl)) dX0_read_26 ⟨Nat.le_of_ble_eq_true rfl, Nat.le_of_ble_eq_true rfl⟩) hS (fun q _ h => hFc q h) hFc (fun u t H1 locs ht hvm hw hB hz1 hk1 hS => ?_)
  obtain ⟨hP1, hK1, hD1⟩ := hB
  rw [ht] at hP1
  have hK1 := va_K.moved hvm.symm hK1
  obtain ⟨hP, hD⟩ := va_join (wr := [(q0, .inr (3, [.ref q1, .ref q2, .int 0, .int 0, .null])), (q3, .inr (8, [.int 0, .int 0, .int 1, .int 0, .int 0, .int 0, .ref q4, .null, .null, .null, .null, .int 0, .int 0, .int 0, .int 0, .null, .null])), (q1, .inr (7, [.ref q5, .int 0]))]) (w1 := [(q2, .inr (9, [.ref q3, .ref q3, .null]))]) hP hD [1] [0, 2, 3] rfl rfl (by decide) (by decide) hk1 hFc hP1 hD1
  have hK := (hK.sub (tys' := []) [] rfl).app hK1
  generalize H1 = H at hP hS ⊢
  have hP : va_P (dC, dI) vwCl [(q0, .inr (3, [.ref q1, .ref q2, .int 0, .int 0, .null])), (q3, .inr (8, [.int 0, .int 0, .int 1, .int 0, .int 0, .int 0, .ref q4, .null, .null, .null, .null, .int 0, .int 0, .int 0, .int 0, .null, .null])), (q1, .inr (7, [.ref q5, .int 0])), (q2, .inr (9, [.ref q3, .ref q3, .null]))] H := hP
  have hD : va_D A [(q0, .inr (3, [.ref q1, .ref q2, .int 0, .int 0, .null])), (q3, .inr (8, [.int 0, .int 0, .int 1, .int 0, .int 0, .int 0, .ref q4, .null, .null, .null, .null, .int 0, .int 0, .int 0, .int 0, .null, .null])), (q1, .inr (7, [.ref q5, .int 0])), (q2, .inr (9, [.ref q3, .ref q3, .null]))] := hD
  have hK : va_K (dC, dI) vwCl [] s := hK
  refine W.widen (k := 0) (n := 0) (Nat.le_of_ble_eq_true rfl) (Nat.le_of_ble_eq_true rfl) ?_
  refine lv_aload_n hx hb dX0_read_29 rfl (lv_at hl 0 rfl) ?_
  refine lv_iconst (v := 0) hx hb dX0_read_30 (by decide +kernel) ?_
  have hPc := hP.sub (ws' := [(q0, .inr (3, [.ref q1, .ref q2, .int 0, .int 0, .null])), (q2, .inr (9, [.ref q3, .ref q3, .null])), (q3, .inr (8, [.int 0, .int 0, .int 1, .int 0, .int 0, .int 0, .ref q4, .null, .null, .null, .null, .int 0, .int 0, .int 0, .int 0, .null, .null]))]) [0, 3, 1] rfl
  have hDc := hD.sub (ws' := [(q0, .inr (3, [.ref q1, .ref q2, .int 0, .int 0, .null])), (q2, .inr (9, [.ref q3, .ref q3, .null])), (q3, .inr (8, [.int 0, .int 0, .int 1, .int 0, .int 0, .int 0, .ref q4, .null, .null, .null, .null, .int 0, .int 0, .int 0, .int 0, .null, .null]))]) [0, 3, 1] (by decide) rfl
  have hKc := hK.sub (tys' := []) [] rfl
  have hFc := va_free (wc := [(q0, .inr (3, [.ref q1, .ref q2, .int 0, .int 0, .null])), (q2, .inr (9, [.ref q3, .ref q3, .null])), (q3, .inr (8, [.int 0, .int 0, .int 1, .int 0, .int 0, .int 0, .ref q4, .null, .null, .null, .null, .int 0, .int 0, .int 0, .int 0, .null, .null]))]) hD hS hA [0, 3, 1] rfl
  refine va_callv (va_runV (As := [.int 0]) (rest := []) ⟨hx, hb, hml, hown, hts⟩ (c_X0_open l dC dI q0 q1 q2 q3 q4 H.size  ) (cwV 1 hts gX0_read_X0_open rfl rfl rfl (by decide +kernel) ⟨Nat.le_of_ble_eq_true rfl, Nat.le_of_ble_eq_true rfl⟩) ⟨zB_blind, va_recv hK hP (ci := 3) (q0 := 0) rfl rfl, (zPre hPc hDc hKc hS hFc hZ hN)⟩ rfl rfl hl.1 rfl (lv_room (Nat.le_of_ble_eq_true rfl)) dX0_read_31 ⟨Nat.le_of_ble_eq_true rfl, Nat.le_of_ble_eq_true rfl⟩) hS (fun q _ h => hFc q h) hFc (fun u t H1 locs ht hvm hw hB hz1 hk1 hS => ?_)
  obtain ⟨q6, q7, q8, hP1, hK1, hD1⟩ := hB
  rw [ht] at hP1
  have hK1 := va_K.moved hvm.symm hK1
  obtain ⟨hP, hD⟩ := va_join (wr := [(q1, .inr (7, [.ref q5, .int 0]))]) (w1 := [(q0, .inr (3, [.ref q1, .ref q2, .int 0, .int 0, .ref q6])), (q2, .inr (9, [.ref q3, .ref q6, .null])), (q6, .inr (8, [.int 6, .int 0, .int 1, .int 0, .int 0, .int 0, .ref q7, .ref q8, .null, .null, .null, .int 0, .int 0, .int 0, .int 0, .null, .null]))]) hP hD [0, 3, 1] [2] rfl rfl (by decide) (by decide) hk1 hFc hP1 hD1
  have hK := (hK.sub (tys' := []) [] rfl).app hK1
  generalize H1 = H at hP hS ⊢
  have hP : va_P (dC, dI) vwCl [(q1, .inr (7, [.ref q5, .int 0])), (q0, .inr (3, [.ref q1, .ref q2, .int 0, .int 0, .ref q6])), (q2, .inr (9, [.ref q3, .ref q6, .null])), (q6, .inr (8, [.int 6, .int 0, .int 1, .int 0, .int 0, .int 0, .ref q7, .ref q8, .null, .null, .null, .int 0, .int 0, .int 0, .int 0, .null, .null]))] H := hP
  have hD : va_D A [(q1, .inr (7, [.ref q5, .int 0])), (q0, .inr (3, [.ref q1, .ref q2, .int 0, .int 0, .ref q6])), (q2, .inr (9, [.ref q3, .ref q6, .null])), (q6, .inr (8, [.int 6, .int 0, .int 1, .int 0, .int 0, .int 0, .ref q7, .ref q8, .null, .null, .null, .int 0, .int 0, .int 0, .int 0, .null, .null]))] := hD
  have hK : va_K (dC, dI) vwCl [] s := hK
  refine W.widen (k := 6) (n := 46) (Nat.le_of_ble_eq_true rfl) (Nat.le_of_ble_eq_true rfl) ?_
  refine lv_iconst (v := 0) hx hb dX0_read_34 (by decide +kernel) ?_
  refine lv_istore_n (lv' := [(3, .int 0), (0, .ref q0), (1, .ref q1), (2, .ref q2)]) hx hb dX0_read_35 rfl hl (by decide) rfl (fun ls hl => ?_)
  refine lv_iload_n hx hb dX0_read_36 rfl (lv_at hl 0 rfl) ?_
  refine lv_sipush (v := 512) hx hb dX0_read_37 (by decide +kernel) ?_
  refine lv_icmp_gt (tgt := 171) hx hb dX0_read_40 (by decide) (fun h9 => absurd h9 (show ¬ (512 : Int32) < (0 : Int32) by decide +kernel)) (fun _ => ?_)
  refine lv_aload_n hx hb dX0_read_43 rfl (lv_at hl 1 rfl) ?_
  refine lv_bipush (v := 33) hx hb dX0_read_44 (by decide +kernel) ?_
  have hPc := hP.sub (ws' := [(q0, .inr (3, [.ref q1, .ref q2, .int 0, .int 0, .ref q6])), (q1, .inr (7, [.ref q5, .int 0]))]) [1, 0] rfl
  have hDc := hD.sub (ws' := [(q0, .inr (3, [.ref q1, .ref q2, .int 0, .int 0, .ref q6])), (q1, .inr (7, [.ref q5, .int 0]))]) [1, 0] (by decide) rfl
  have hKc := hK.sub (tys' := []) [] rfl
  have hFc := va_free (wc := [(q0, .inr (3, [.ref q1, .ref q2, .int 0, .int 0, .ref q6])), (q1, .inr (7, [.ref q5, .int 0]))]) hD hS hA [1, 0] rfl
  refine va_calli (va_runV (As := [.int 33]) (rest := []) ⟨hx, hb, hml, hown, hts⟩ (c_X0_take l dC dI q0 q1 q2 q6 q5 H.size  ) (cwV 1 hts gX0_read_X0_take rfl rfl rfl (by decide +kernel) ⟨Nat.le_of_ble_eq_true rfl, Nat.le_of_ble_eq_true rfl⟩) ⟨zB_blind, va_recv hK hP (ci := 3) (q0 := 1) rfl rfl, (zPre hPc hDc hKc hS hFc hZ hN)⟩ rfl rfl hl.1 rfl (lv_room (Nat.le_of_ble_eq_true rfl)) dX0_read_46 ⟨Nat.le_of_ble_eq_true rfl, Nat.le_of_ble_eq_true rfl⟩) hS (fun q _ h => hFc q h) hFc (fun r u t H1 locs ht hvm hw hB hz1 hk1 hS => ?_)
  subst hw
  obtain ⟨hP1, hK1, hD1⟩ := hB
  rw [ht] at hP1
  have hK1 := va_K.moved hvm.symm hK1
  obtain ⟨hP, hD⟩ := va_join (wr := [(q2, .inr (9, [.ref q3, .ref q6, .null])), (q6, .inr (8, [.int 6, .int 0, .int 1, .int 0, .int 0, .int 0, .ref q7, .ref q8, .null, .null, .null, .int 0, .int 0, .int 0, .int 0, .null, .null]))]) (w1 := [(q0, .inr (3, [.ref q1, .ref q2, .int 0, .int 0, .ref q6])), (q1, .inr (7, [.ref q5, .int 0]))]) hP hD [1, 0] [2, 3] rfl rfl (by decide) (by decide) hk1 hFc hP1 hD1
  have hK := (hK.sub (tys' := []) [] rfl).app hK1
  generalize H1 = H at hP hS ⊢
  have hP : va_P (dC, dI) vwCl [(q2, .inr (9, [.ref q3, .ref q6, .null])), (q6, .inr (8, [.int 6, .int 0, .int 1, .int 0, .int 0, .int 0, .ref q7, .ref q8, .null, .null, .null, .int 0, .int 0, .int 0, .int 0, .null, .null])), (q0, .inr (3, [.ref q1, .ref q2, .int 0, .int 0, .ref q6])), (q1, .inr (7, [.ref q5, .int 0]))] H := hP
  have hD : va_D A [(q2, .inr (9, [.ref q3, .ref q6, .null])), (q6, .inr (8, [.int 6, .int 0, .int 1, .int 0, .int 0, .int 0, .ref q7, .ref q8, .null, .null, .null, .int 0, .int 0, .int 0, .int 0, .null, .null])), (q0, .inr (3, [.ref q1, .ref q2, .int 0, .int 0, .ref q6])), (q1, .inr (7, [.ref q5, .int 0]))] := hD
  have hK : va_K (dC, dI) vwCl [] s := hK
  refine W.widen (k := 6) (n := 46) (Nat.le_of_ble_eq_true rfl) (Nat.le_of_ble_eq_true rfl) ?_
  refine lv_istore (lv' := [(4, .int 0), (3, .int 0), (0, .ref q0), (1, .ref q1), (2, .ref q2)]) hx hb dX0_read_49 hl (by decide) rfl (fun ls hl => ?_)
  refine lv_aload_n hx hb dX0_read_51 rfl (lv_at hl 2 rfl) ?_
  refine lv_bipush (v := 40) hx hb dX0_read_52 (by decide +kernel) ?_
  have hPc := hP.sub (ws' := [(q0, .inr (3, [.ref q1, .ref q2, .int 0, .int 0, .ref q6])), (q1, .inr (7, [.ref q5, .int 0]))]) [2, 3] rfl
  have hDc := hD.sub (ws' := [(q0, .inr (3, [.ref q1, .ref q2, .int 0, .int 0, .ref q6])), (q1, .inr (7, [.ref q5, .int 0]))]) [2, 3] (by decide) rfl
  have hKc := hK.sub (tys' := []) [] rfl
  have hFc := va_free (wc := [(q0, .inr (3, [.ref q1, .ref q2, .int 0, .int 0, .ref q6])), (q1, .inr (7, [.ref q5, .int 0]))]) hD hS hA [2, 3] rfl
  refine va_calli (va_runV (As := [.int 40]) (rest := []) ⟨hx, hb, hml, hown, hts⟩ (c_X0_take_2 l dC dI q0 q1 q2 q6 q5 H.size  ) (cwV 1 hts gX0_read_X0_take rfl rfl rfl (by decide +kernel) ⟨Nat.le_of_ble_eq_true rfl, Nat.le_of_ble_eq_true rfl⟩) ⟨zB_blind, va_recv hK hP (ci := 3) (q0 := 2) rfl rfl, (zPre hPc hDc hKc hS hFc hZ hN)⟩ rfl rfl hl.1 rfl (lv_room (Nat.le_of_ble_eq_true rfl)) dX0_read_54 ⟨Nat.le_of_ble_eq_true rfl, Nat.le_of_ble_eq_true rfl⟩) hS (fun q _ h => hFc q h) hFc (fun r u t H1 locs ht hvm hw hB hz1 hk1 hS => ?_)
  subst hw
  obtain ⟨hP1, hK1, hD1⟩ := hB
  rw [ht] at hP1
  have hK1 := va_K.moved hvm.symm hK1
  obtain ⟨hP, hD⟩ := va_join (wr := [(q2, .inr (9, [.ref q3, .ref q6, .null])), (q6, .inr (8, [.int 6, .int 0, .int 1, .int 0, .int 0, .int 0, .ref q7, .ref q8, .null, .null, .null, .int 0, .int 0, .int 0, .int 0, .null, .null]))]) (w1 := [(q0, .inr (3, [.ref q1, .ref q2, .int 0, .int 0, .ref q6])), (q1, .inr (7, [.ref q5, .int 0]))]) hP hD [2, 3] [0, 1] rfl rfl (by decide) (by decide) hk1 hFc hP1 hD1
  have hK := (hK.sub (tys' := []) [] rfl).app hK1
  generalize H1 = H at hP hS ⊢
  have hP : va_P (dC, dI) vwCl [(q2, .inr (9, [.ref q3, .ref q6, .null])), (q6, .inr (8, [.int 6, .int 0, .int 1, .int 0, .int 0, .int 0, .ref q7, .ref q8, .null, .null, .null, .int 0, .int 0, .int 0, .int 0, .null, .null])), (q0, .inr (3, [.ref q1, .ref q2, .int 0, .int 0, .ref q6])), (q1, .inr (7, [.ref q5, .int 0]))] H := hP
  have hD : va_D A [(q2, .inr (9, [.ref q3, .ref q6, .null])), (q6, .inr (8, [.int 6, .int 0, .int 1, .int 0, .int 0, .int 0, .ref q7, .ref q8, .null, .null, .null, .int 0, .int 0, .int 0, .int 0, .null, .null])), (q0, .inr (3, [.ref q1, .ref q2, .int 0, .int 0, .ref q6])), (q1, .inr (7, [.ref q5, .int 0]))] := hD
  have hK : va_K (dC, dI) vwCl [] s := hK
  refine W.widen (k := 6) (n := 46) (Nat.le_of_ble_eq_true rfl) (Nat.le_of_ble_eq_true rfl) ?_
  refine lv_if_eq (tgt := 79) hx hb dX0_read_57 (by decide) (fun _ => ?_) (fun h9 => absurd (show (0 : Int32) = (0 : Int32) by decide +kernel) h9)
  refine lv_aload_n hx hb dX0_read_79 rfl (lv_at hl 2 rfl) ?_
  refine lv_iload hx hb dX0_read_80 (lv_at hl 0 rfl) ?_
  have hPc := hP.sub (ws' := [(q0, .inr (3, [.ref q1, .ref q2, .int 0, .int 0, .ref q6])), (q2, .inr (9, [.ref q3, .ref q6, .null])), (q6, .inr (8, [.int 6, .int 0, .int 1, .int 0, .int 0, .int 0, .ref q7, .ref q8, .null, .null, .null, .int 0, .int 0, .int 0, .int 0, .null, .null])), (q1, .inr (7, [.ref q5, .int 0]))]) [2, 0, 1, 3] rfl
  have hDc := hD.sub (ws' := [(q0, .inr (3, [.ref q1, .ref q2, .int 0, .int 0, .ref q6])), (q2, .inr (9, [.ref q3, .ref q6, .null])), (q6, .inr (8, [.int 6, .int 0, .int 1, .int 0, .int 0, .int 0, .ref q7, .ref q8, .null, .null, .null, .int 0, .int 0, .int 0, .int 0, .null, .null])), (q1, .inr (7, [.ref q5, .int 0]))]) [2, 0, 1, 3] (by decide) rfl
  have hKc := hK.sub (tys' := []) [] rfl
  have hFc := va_free (wc := [(q0, .inr (3, [.ref q1, .ref q2, .int 0, .int 0, .ref q6])), (q2, .inr (9, [.ref q3, .ref q6, .null])), (q6, .inr (8, [.int 6, .int 0, .int 1, .int 0, .int 0, .int 0, .ref q7, .ref q8, .null, .null, .null, .int 0, .int 0, .int 0, .int 0, .null, .null])), (q1, .inr (7, [.ref q5, .int 0]))]) hD hS hA [2, 0, 1, 3] rfl
  refine va_calli (va_runV (As := [.int 0]) (rest := []) ⟨hx, hb, hml, hown, hts⟩ (c_X0_readTerm l dC dI q0 q1 q2 q6 q3 q7 q8 q5 H.size  ) (cwV 1 hts gX0_read_X0_readTerm rfl rfl rfl (by decide +kernel) ⟨Nat.le_of_ble_eq_true rfl, Nat.le_of_ble_eq_true rfl⟩) ⟨zB_blind, va_recv hK hP (ci := 3) (q0 := 2) rfl rfl, (zPre hPc hDc hKc hS hFc hZ hN)⟩ rfl rfl hl.1 rfl (lv_room (Nat.le_of_ble_eq_true rfl)) dX0_read_82 ⟨Nat.le_of_ble_eq_true rfl, Nat.le_of_ble_eq_true rfl⟩) hS (fun q _ h => hFc q h) hFc (fun r u t H1 locs ht hvm hw hB hz1 hk1 hS => ?_)
  subst hw
  obtain ⟨hP1, hK1, hD1⟩ := hB
  rw [ht] at hP1
  have hK1 := va_K.moved hvm.symm hK1
  obtain ⟨hP, hD⟩ := va_join (wr := []) (w1 := [(q0, .inr (3, [.ref q1, .ref q2, .int 0, .int 0, .ref q6])), (q1, .inr (7, [.ref q5, .int 0]))]) hP hD [2, 0, 1, 3] [] rfl rfl (by decide) (by decide) hk1 hFc hP1 hD1
  have hK := (hK.sub (tys' := []) [] rfl).app hK1
  generalize H1 = H at hP hS ⊢
  have hP : va_P (dC, dI) vwCl [(q0, .inr (3, [.ref q1, .ref q2, .int 0, .int 0, .ref q6])), (q1, .inr (7, [.ref q5, .int 0]))] H := hP
  have hD : va_D A [(q0, .inr (3, [.ref q1, .ref q2, .int 0, .int 0, .ref q6])), (q1, .inr (7, [.ref q5, .int 0]))] := hD
  have hK : va_K (dC, dI) vwCl [] s := hK
  refine W.widen (k := 9) (n := 69) (Nat.le_of_ble_eq_true rfl) (Nat.le_of_ble_eq_true rfl) ?_
  refine lv_if_eq (tgt := 95) hx hb dX0_read_85 (by decide) (fun _ => ?_) (fun h9 => absurd (show (0 : Int32) = (0 : Int32) by decide +kernel) h9)
  refine lv_iconst (v := (-1)) hx hb dX0_read_95 (by decide +kernel) ?_
  refine lv_aload_n hx hb dX0_read_96 rfl (lv_at hl 2 rfl) ?_
  refine va_get (D := (dC, dI)) (ci := 3) (v := .int 0) (C := RX0) (T := TX0) (N := 5) hx hb hts (fun _ h => List.mem_cons_of_mem _ (List.mem_append_left _ (List.mem_append_left _ (List.mem_append_left _ (List.mem_append_left _ (List.mem_append_left _ (List.mem_append_left _ (List.mem_append_left _ (List.mem_append_left _ (List.mem_append_right _ h)))))))))) hown hK hP 0 rfl rfl 2 (by decide) (hts (.fieldLink RX0 19 "Seekwell$Asker" "place" "I") (by decide +kernel)) (fun _ h9 => h9) rfl dX0_read_97 ?_
  refine lv_isub hx hb dX0_read_100 ?_
  refine zt_i (v := (-1)) (by decide +kernel) ?_
  have hP9 := hP.sub (ws' := [(q1, .inr (7, [.ref q5, .int 0]))]) [1] rfl
  have hD9 := hD.sub (ws' := [(q1, .inr (7, [.ref q5, .int 0]))]) [1] (by decide) rfl
  have hK9 := hK.sub (tys' := []) [] rfl
  exact W.iret (v := (-1)) hx hb hr (fun t ht hW => ⟨⟨(-1), (), rfl, rfl, ⟨by rw [ht]; exact hP9, va_K.moved hW.alike hK9, hD9⟩⟩, hS.F ht⟩) hS.2.2 dX0_read_101
