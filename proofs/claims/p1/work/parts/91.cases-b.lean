/-! the law, call by call, written by program -/
set_option maxHeartbeats 8000000 in
set_option maxRecDepth 100000 in
theorem law_case_8 {p : Program} {l : Launch} {e : Env} {s : State} {m : MethodId} {below : List Frame} {meth : Method} {c : Code} {b : Nat} {xs : Nat → Int32} (hfl : l.stackTraces = false) (C0 : lw_At p s m meth c b 4 xs) {dC : Nat → ClassId} {dI : Nat → Nat → Nat} {q0 q1 q3 q5 q7 q9 q11 q13 q15 q17 q21 q25 q26 q27 q2 q4 q6 q8 q10 q16 q18 q22 q23 q86 q87 q88 q89 q90 q91 q92 q93 q94 q95 q96 q97 q98 q99 q100 q101 q102 q103 q104 q105 q106 : Nat} {k2 k4 k87 k88 k89 k90 k91 k92 k93 k94 k96 k106 : ClassId} {H : Heap} {locs : List Loc} (hK : va_K (dC, dI) vwCl [(k2, .char), (k4, (.object "Seekwell$Text")), (k87, .boolean), (k88, .int), (k89, .int), (k90, .char), (k91, (.array .long)), (k92, (.array .long)), (k93, .int), (k94, .int), (k96, .boolean), (k106, .long)] s) (hP : va_P (dC, dI) vwCl [(q0, .inr (13, [.ref q1, .ref q3, .ref q5, .ref q7, .ref q9, .ref q11, .ref q13, .ref q15, .int 0, .ref q17, .ref q21, .ref q25, .ref q26, .ref q27])), (q1, .inr (7, [.ref q2, .int 0])), (q2, .inl (k2, 512, .inl (fun _ => 0))), (q3, .inr (11, [.ref q4, .int 0, .int 1])), (q4, .inl (k4, 24, .inr (.inr (.inr (.inr (fun _ => none)))))), (q5, .inr (11, [.ref q6, .int 0, .int 1])), (q7, .inr (10, [.ref q8, .int 0])), (q9, .inr (5, [.ref q10, .int 0, .int 0])), (q15, .inr (5, [.ref q16, .int 0, .int 0])), (q17, .inr (9, [.ref q18, .ref q18, .null])), (q21, .inr (9, [.ref q22, .ref q22, .null])), (q22, .inr (8, [.int 0, .int 0, .int 1, .int 0, .int 0, .int 0, .ref q23, .null, .null, .null, .null, .int 0, .int 0, .int 0, .int 0, .null, .null])), (q26, .inr (3, [.null, .null, .int 0, .int 0, .null])), (q86, .inr (15, [.ref q87, .ref q88, .ref q89, .ref q90, .ref q91, .ref q92, .int 0, .int 1, .ref q93, .int 0, .ref q94, .null, .ref q95, .null, .ref q96, .ref q97, .ref q98, .ref q99, .ref q100, .int 0, .ref q101, .ref q102, .ref q103, .ref q104, .ref q105, .int 0, .int 0])), (q87, .inl (k87, 24, .inl (fun _ => 0))), (q88, .inl (k88, 24, .inl (fun _ => 0))), (q89, .inl (k89, 24, .inl (fun _ => 0))), (q90, .inl (k90, 24, .inl (fun _ => 0))), (q91, .inl (k91, 24, .inr (.inr (.inr (.inr (fun _ => none)))))), (q92, .inl (k92, 24, .inr (.inr (.inr (.inr (fun _ => none)))))), (q93, .inl (k93, 4000, .inl (fun _ => 0))), (q94, .inl (k94, 0, .inl (fun _ => 0))), (q96, .inl (k96, 24, .inl (fun _ => 0))), (q106, .inl (k106, 1, .inr (.inl (fun _ => 0))))] H) (hD : va_D (fun q : Nat => s.heap.size ≤ q) [(q0, .inr (13, [.ref q1, .ref q3, .ref q5, .ref q7, .ref q9, .ref q11, .ref q13, .ref q15, .int 0, .ref q17, .ref q21, .ref q25, .ref q26, .ref q27])), (q1, .inr (7, [.ref q2, .int 0])), (q2, .inl (k2, 512, .inl (fun _ => 0))), (q3, .inr (11, [.ref q4, .int 0, .int 1])), (q4, .inl (k4, 24, .inr (.inr (.inr (.inr (fun _ => none)))))), (q5, .inr (11, [.ref q6, .int 0, .int 1])), (q7, .inr (10, [.ref q8, .int 0])), (q9, .inr (5, [.ref q10, .int 0, .int 0])), (q15, .inr (5, [.ref q16, .int 0, .int 0])), (q17, .inr (9, [.ref q18, .ref q18, .null])), (q21, .inr (9, [.ref q22, .ref q22, .null])), (q22, .inr (8, [.int 0, .int 0, .int 1, .int 0, .int 0, .int 0, .ref q23, .null, .null, .null, .null, .int 0, .int 0, .int 0, .int 0, .null, .null])), (q26, .inr (3, [.null, .null, .int 0, .int 0, .null])), (q86, .inr (15, [.ref q87, .ref q88, .ref q89, .ref q90, .ref q91, .ref q92, .int 0, .int 1, .ref q93, .int 0, .ref q94, .null, .ref q95, .null, .ref q96, .ref q97, .ref q98, .ref q99, .ref q100, .int 0, .ref q101, .ref q102, .ref q103, .ref q104, .ref q105, .int 0, .int 0])), (q87, .inl (k87, 24, .inl (fun _ => 0))), (q88, .inl (k88, 24, .inl (fun _ => 0))), (q89, .inl (k89, 24, .inl (fun _ => 0))), (q90, .inl (k90, 24, .inl (fun _ => 0))), (q91, .inl (k91, 24, .inr (.inr (.inr (.inr (fun _ => none)))))), (q92, .inl (k92, 24, .inr (.inr (.inr (.inr (fun _ => none)))))), (q93, .inl (k93, 4000, .inl (fun _ => 0))), (q94, .inl (k94, 0, .inl (fun _ => 0))), (q96, .inl (k96, 24, .inl (fun _ => 0))), (q106, .inl (k106, 1, .inr (.inl (fun _ => 0))))]) (hS : va_S (fun q : Nat => s.heap.size ≤ q) s.heap H locs) (hZ : zZ (fun q : Nat => s.heap.size ≤ q) s s.heap) (hN : zN s) (ls : Array Slot) (hl : lv_has ls 7 [(4, .int 0), (3, .ref q106), (2, .ref q86), (1, .ref q0), (0, .ref b)]) : W p l e room_1 s m #[Value.ref b] below meth c H locs 131 6692 (lw_Z below #[Value.ref b] s) (F0 m 575 ls []) := by
  obtain ⟨hx, hb, hr, hml, hown, hts, hX, hbl, hlocks, hgv⟩ := id C0
  have hbA : ¬ (fun q : Nat => s.heap.size ≤ q) b := Nat.not_le.mpr hbl
  have hA : ∀ q : Nat, s.heap.size ≤ q → (fun q : Nat => s.heap.size ≤ q) q := fun _ h => h
  by_cases hb0 : (xs 1) < (0 : Int32)
  · skip
    have hc0 : (xs 1) < (0 : Int32) := hb0
    refine lv_aload_n hx hb dL_law_575 rfl (lv_at hl 3 rfl) ?_
    refine lv_aload_n hx hb dL_law_576 rfl (lv_at hl 4 rfl) ?_
    refine lv_iload hx hb dL_law_577 (lv_at hl 0 rfl) ?_
    refine lv_iconst (v := 1) hx hb dL_law_579 (by decide +kernel) ?_
    refine lv_iadd hx hb dL_law_580 ?_
    refine zt_i (v := 1) (by decide +kernel) ?_
    refine va_sld hx hb hX hbl hbA hS (i := 1) (zin (by decide +kernel)) dL_law_581 ?_
    refine zt_v (w := .int (xs 1)) rfl ?_
    refine lv_aload_n hx hb dL_law_582 rfl (lv_at hl 1 rfl) ?_
    have hPc := hP.sub (ws' := [(q0, .inr (13, [.ref q1, .ref q3, .ref q5, .ref q7, .ref q9, .ref q11, .ref q13, .ref q15, .int 0, .ref q17, .ref q21, .ref q25, .ref q26, .ref q27])), (q3, .inr (11, [.ref q4, .int 0, .int 1]))]) [0, 3] rfl
    have hDc := hD.sub (ws' := [(q0, .inr (13, [.ref q1, .ref q3, .ref q5, .ref q7, .ref q9, .ref q11, .ref q13, .ref q15, .int 0, .ref q17, .ref q21, .ref q25, .ref q26, .ref q27])), (q3, .inr (11, [.ref q4, .int 0, .int 1]))]) [0, 3] (by decide) rfl
    have hKc := hK.sub (tys' := []) [] rfl
    have hFc := va_free (wc := [(q0, .inr (13, [.ref q1, .ref q3, .ref q5, .ref q7, .ref q9, .ref q11, .ref q13, .ref q15, .int 0, .ref q17, .ref q21, .ref q25, .ref q26, .ref q27])), (q3, .inr (11, [.ref q4, .int 0, .int 1]))]) hD hS hA [0, 3] rfl
    refine va_calli (vx_runSW (As := [.ref q0, .int (xs 1), .ref q106]) (rest := []) ⟨hx, hb, hml, hown, hts⟩ (c_L_length l hfl dC dI q0 q106 q1 q3 q5 q7 q9 q11 q13 q15 q17 q21 q25 q26 q27 q4 H.size (xs 1) hc0) (vx_cwSW 3 hts gL_law_L_length rfl rfl rfl (by decide +kernel) ⟨Nat.le_of_ble_eq_true rfl, Nat.le_of_ble_eq_true rfl⟩) ⟨zB_blind, (zPre hPc hDc hKc hS hFc hZ hN)⟩ rfl rfl hl.1 rfl (lv_room (Nat.le_of_ble_eq_true rfl)) dL_law_583 ⟨Nat.le_of_ble_eq_true rfl, Nat.le_of_ble_eq_true rfl⟩) hS (fun q _ h => hFc q h) hFc (fun r u t H1 locs ht hvm hw hB hz1 hk1 hS => ?_)
    subst hw
    obtain ⟨hP1, hK1, hD1⟩ := hB
    rw [ht] at hP1
    have hK1 := va_K.moved hvm.symm hK1
    obtain ⟨hP, hD⟩ := va_join (wr := [(q86, .inr (15, [.ref q87, .ref q88, .ref q89, .ref q90, .ref q91, .ref q92, .int 0, .int 1, .ref q93, .int 0, .ref q94, .null, .ref q95, .null, .ref q96, .ref q97, .ref q98, .ref q99, .ref q100, .int 0, .ref q101, .ref q102, .ref q103, .ref q104, .ref q105, .int 0, .int 0]))]) (w1 := []) hP hD [0, 3] [13] rfl rfl (by decide) (by decide) hk1 hFc hP1 hD1
    have hK := (hK.sub (tys' := []) [] rfl).app hK1
    generalize H1 = H at hP hS ⊢
    have hP : va_P (dC, dI) vwCl [(q86, .inr (15, [.ref q87, .ref q88, .ref q89, .ref q90, .ref q91, .ref q92, .int 0, .int 1, .ref q93, .int 0, .ref q94, .null, .ref q95, .null, .ref q96, .ref q97, .ref q98, .ref q99, .ref q100, .int 0, .ref q101, .ref q102, .ref q103, .ref q104, .ref q105, .int 0, .int 0]))] H := hP
    have hD : va_D (fun q : Nat => s.heap.size ≤ q) [(q86, .inr (15, [.ref q87, .ref q88, .ref q89, .ref q90, .ref q91, .ref q92, .int 0, .int 1, .ref q93, .int 0, .ref q94, .null, .ref q95, .null, .ref q96, .ref q97, .ref q98, .ref q99, .ref q100, .int 0, .ref q101, .ref q102, .ref q103, .ref q104, .ref q105, .int 0, .int 0]))] := hD
    have hK : va_K (dC, dI) vwCl [] s := hK
    refine W.widen (k := 132) (n := 6698) (Nat.le_of_ble_eq_true rfl) (Nat.le_of_ble_eq_true rfl) ?_
    refine lv_istore (lv' := [(5, .int 1), (4, .int 0), (3, .ref q106), (2, .ref q86), (1, .ref q0), (0, .ref b)]) hx hb dL_law_586 hl (by decide) rfl (fun ls hl => ?_)
    refine lv_aload_n hx hb dL_law_588 rfl (lv_at hl 3 rfl) ?_
    refine lv_aload_n hx hb dL_law_589 rfl (lv_at hl 5 rfl) ?_
    refine lv_iload hx hb dL_law_590 (lv_at hl 1 rfl) ?_
    refine lv_iconst (v := 1) hx hb dL_law_592 (by decide +kernel) ?_
    refine lv_iadd hx hb dL_law_593 ?_
    refine zt_i (v := 1) (by decide +kernel) ?_
    refine va_sld hx hb hX hbl hbA hS (i := 1) (zin (by decide +kernel)) dL_law_594 ?_
    refine zt_v (w := .int (xs 1)) rfl ?_
    have hPc := hP.sub (ws' := [(q86, .inr (15, [.ref q87, .ref q88, .ref q89, .ref q90, .ref q91, .ref q92, .int 0, .int 1, .ref q93, .int 0, .ref q94, .null, .ref q95, .null, .ref q96, .ref q97, .ref q98, .ref q99, .ref q100, .int 0, .ref q101, .ref q102, .ref q103, .ref q104, .ref q105, .int 0, .int 0]))]) [0] rfl
    have hDc := hD.sub (ws' := [(q86, .inr (15, [.ref q87, .ref q88, .ref q89, .ref q90, .ref q91, .ref q92, .int 0, .int 1, .ref q93, .int 0, .ref q94, .null, .ref q95, .null, .ref q96, .ref q97, .ref q98, .ref q99, .ref q100, .int 0, .ref q101, .ref q102, .ref q103, .ref q104, .ref q105, .int 0, .int 0]))]) [0] (by decide) rfl
    have hKc := hK.sub (tys' := []) [] rfl
    have hFc := va_free (wc := [(q86, .inr (15, [.ref q87, .ref q88, .ref q89, .ref q90, .ref q91, .ref q92, .int 0, .int 1, .ref q93, .int 0, .ref q94, .null, .ref q95, .null, .ref q96, .ref q97, .ref q98, .ref q99, .ref q100, .int 0, .ref q101, .ref q102, .ref q103, .ref q104, .ref q105, .int 0, .int 0]))]) hD hS hA [0] rfl
    refine va_calli (va_runV (As := [.int (xs 1)]) (rest := []) ⟨hx, hb, hml, hown, hts⟩ (c_X13_length l dC dI q86 q87 q88 q89 q90 q91 q92 q93 q94 q95 q96 q97 q98 q99 q100 q101 q102 q103 q104 q105 H.size (xs 1) hc0) (cwV 1 hts gL_law_X13_length rfl rfl rfl (by decide +kernel) ⟨Nat.le_of_ble_eq_true rfl, Nat.le_of_ble_eq_true rfl⟩) ⟨zB_blind, va_recv hK hP (ci := 15) (q0 := 0) rfl rfl, (zPre hPc hDc hKc hS hFc hZ hN)⟩ rfl rfl hl.1 rfl (lv_room (Nat.le_of_ble_eq_true rfl)) dL_law_595 ⟨Nat.le_of_ble_eq_true rfl, Nat.le_of_ble_eq_true rfl⟩) hS (fun q _ h => hFc q h) hFc (fun r u t H1 locs ht hvm hw hB hz1 hk1 hS => ?_)
    subst hw
    obtain ⟨hP1, hK1, hD1⟩ := hB
    rw [ht] at hP1
    have hK1 := va_K.moved hvm.symm hK1
    obtain ⟨hP, hD⟩ := va_join (wr := []) (w1 := [(q86, .inr (15, [.ref q87, .ref q88, .ref q89, .ref q90, .ref q91, .ref q92, .int 0, .int 1, .ref q93, .int 0, .ref q94, .null, .ref q95, .null, .ref q96, .ref q97, .ref q98, .ref q99, .ref q100, .int 1, .ref q101, .ref q102, .ref q103, .ref q104, .ref q105, .int 0, .int 0]))]) hP hD [0] [] rfl rfl (by decide) (by decide) hk1 hFc hP1 hD1
    have hK := (hK.sub (tys' := []) [] rfl).app hK1
    generalize H1 = H at hP hS ⊢
    have hP : va_P (dC, dI) vwCl [(q86, .inr (15, [.ref q87, .ref q88, .ref q89, .ref q90, .ref q91, .ref q92, .int 0, .int 1, .ref q93, .int 0, .ref q94, .null, .ref q95, .null, .ref q96, .ref q97, .ref q98, .ref q99, .ref q100, .int 1, .ref q101, .ref q102, .ref q103, .ref q104, .ref q105, .int 0, .int 0]))] H := hP
    have hD : va_D (fun q : Nat => s.heap.size ≤ q) [(q86, .inr (15, [.ref q87, .ref q88, .ref q89, .ref q90, .ref q91, .ref q92, .int 0, .int 1, .ref q93, .int 0, .ref q94, .null, .ref q95, .null, .ref q96, .ref q97, .ref q98, .ref q99, .ref q100, .int 1, .ref q101, .ref q102, .ref q103, .ref q104, .ref q105, .int 0, .int 0]))] := hD
    have hK : va_K (dC, dI) vwCl [] s := hK
    refine W.widen (k := 132) (n := 6698) (Nat.le_of_ble_eq_true rfl) (Nat.le_of_ble_eq_true rfl) ?_
    refine lv_istore (lv' := [(6, .int 0), (5, .int 1), (4, .int 0), (3, .ref q106), (2, .ref q86), (1, .ref q0), (0, .ref b)]) hx hb dL_law_598 hl (by decide) rfl (fun ls hl => ?_)
    refine lv_aload_n hx hb dL_law_600 rfl (lv_at hl 4 rfl) ?_
    have hPc := hP.sub (ws' := [(q86, .inr (15, [.ref q87, .ref q88, .ref q89, .ref q90, .ref q91, .ref q92, .int 0, .int 1, .ref q93, .int 0, .ref q94, .null, .ref q95, .null, .ref q96, .ref q97, .ref q98, .ref q99, .ref q100, .int 1, .ref q101, .ref q102, .ref q103, .ref q104, .ref q105, .int 0, .int 0]))]) [0] rfl
    have hDc := hD.sub (ws' := [(q86, .inr (15, [.ref q87, .ref q88, .ref q89, .ref q90, .ref q91, .ref q92, .int 0, .int 1, .ref q93, .int 0, .ref q94, .null, .ref q95, .null, .ref q96, .ref q97, .ref q98, .ref q99, .ref q100, .int 1, .ref q101, .ref q102, .ref q103, .ref q104, .ref q105, .int 0, .int 0]))]) [0] (by decide) rfl
    have hKc := hK.sub (tys' := []) [] rfl
    have hFc := va_free (wc := [(q86, .inr (15, [.ref q87, .ref q88, .ref q89, .ref q90, .ref q91, .ref q92, .int 0, .int 1, .ref q93, .int 0, .ref q94, .null, .ref q95, .null, .ref q96, .ref q97, .ref q98, .ref q99, .ref q100, .int 1, .ref q101, .ref q102, .ref q103, .ref q104, .ref q105, .int 0, .int 0]))]) hD hS hA [0] rfl
    refine va_calli (va_runV (As := []) (rest := []) ⟨hx, hb, hml, hown, hts⟩ (c_X13_thrown l dC dI q86 q87 q88 q89 q90 q91 q92 q93 q94 q95 q96 q97 q98 q99 q100 q101 q102 q103 q104 q105 H.size  ) (cwV 0 hts gL_law_X13_thrown rfl rfl rfl (by decide +kernel) ⟨Nat.le_of_ble_eq_true rfl, Nat.le_of_ble_eq_true rfl⟩) ⟨zB_blind, va_recv hK hP (ci := 15) (q0 := 0) rfl rfl, (zPre hPc hDc hKc hS hFc hZ hN)⟩ rfl rfl hl.1 rfl (lv_room (Nat.le_of_ble_eq_true rfl)) dL_law_601 ⟨Nat.le_of_ble_eq_true rfl, Nat.le_of_ble_eq_true rfl⟩) hS (fun q _ h => hFc q h) hFc (fun r u t H1 locs ht hvm hw hB hz1 hk1 hS => ?_)
    subst hw
    obtain ⟨hP1, hK1, hD1⟩ := hB
    rw [ht] at hP1
    have hK1 := va_K.moved hvm.symm hK1
    obtain ⟨hP, hD⟩ := va_join (wr := []) (w1 := []) hP hD [0] [] rfl rfl (by decide) (by decide) hk1 hFc hP1 hD1
    have hK := (hK.sub (tys' := []) [] rfl).app hK1
    generalize H1 = H at hP hS ⊢
    have hP : va_P (dC, dI) vwCl [] H := hP
    have hD : va_D (fun q : Nat => s.heap.size ≤ q) [] := hD
    have hK : va_K (dC, dI) vwCl [] s := hK
    refine W.widen (k := 132) (n := 6698) (Nat.le_of_ble_eq_true rfl) (Nat.le_of_ble_eq_true rfl) ?_
    refine lv_iload hx hb dL_law_604 (lv_at hl 1 rfl) ?_
    refine lv_icmp_eq (tgt := 611) hx hb dL_law_606 (by decide) (fun _ => ?_) (fun h9 => absurd (show (1 : Int32) = (1 : Int32) by decide +kernel) h9)
    refine lv_iload hx hb dL_law_611 (lv_at hl 1 rfl) ?_
    refine lv_if_ne (tgt := 628) hx hb dL_law_613 (by decide) (fun _ => ?_) (fun h9 => absurd h9 (show ¬ (1 : Int32) = (0 : Int32) by decide +kernel))
    refine lv_goto (tgt := 2311) hx hb dL_law_628 (by decide) ?_
    exact law_exit C0 hS (Nat.le_of_ble_eq_true rfl) (Nat.le_of_ble_eq_true rfl) ls (lv_sub hl [2, 3, 4, 5, 6] rfl)
  · skip
    have hc0 : ¬ (xs 1) < (0 : Int32) := hb0
    have hc1 : (0 : Int32) ≤ (xs 1) := zd_4 hb0
    have hc2 : ((-1) : Int32) < (xs 1) := zd_3 hb0
    refine lv_aload_n hx hb dL_law_575 rfl (lv_at hl 3 rfl) ?_
    refine lv_aload_n hx hb dL_law_576 rfl (lv_at hl 4 rfl) ?_
    refine lv_iload hx hb dL_law_577 (lv_at hl 0 rfl) ?_
    refine lv_iconst (v := 1) hx hb dL_law_579 (by decide +kernel) ?_
    refine lv_iadd hx hb dL_law_580 ?_
    refine zt_i (v := 1) (by decide +kernel) ?_
    refine va_sld hx hb hX hbl hbA hS (i := 1) (zin (by decide +kernel)) dL_law_581 ?_
    refine zt_v (w := .int (xs 1)) rfl ?_
    refine lv_aload_n hx hb dL_law_582 rfl (lv_at hl 1 rfl) ?_
    have hPc := hP.sub (ws' := [(q0, .inr (13, [.ref q1, .ref q3, .ref q5, .ref q7, .ref q9, .ref q11, .ref q13, .ref q15, .int 0, .ref q17, .ref q21, .ref q25, .ref q26, .ref q27])), (q3, .inr (11, [.ref q4, .int 0, .int 1]))]) [0, 3] rfl
    have hDc := hD.sub (ws' := [(q0, .inr (13, [.ref q1, .ref q3, .ref q5, .ref q7, .ref q9, .ref q11, .ref q13, .ref q15, .int 0, .ref q17, .ref q21, .ref q25, .ref q26, .ref q27])), (q3, .inr (11, [.ref q4, .int 0, .int 1]))]) [0, 3] (by decide) rfl
    have hKc := hK.sub (tys' := []) [] rfl
    have hFc := va_free (wc := [(q0, .inr (13, [.ref q1, .ref q3, .ref q5, .ref q7, .ref q9, .ref q11, .ref q13, .ref q15, .int 0, .ref q17, .ref q21, .ref q25, .ref q26, .ref q27])), (q3, .inr (11, [.ref q4, .int 0, .int 1]))]) hD hS hA [0, 3] rfl
    refine va_calli (vx_runSW (As := [.ref q0, .int (xs 1), .ref q106]) (rest := []) ⟨hx, hb, hml, hown, hts⟩ (c_L_length_2 l hfl dC dI q0 q106 q1 q3 q5 q7 q9 q11 q13 q15 q17 q21 q25 q26 q27 q4 H.size (xs 1) hc0 hc1) (vx_cwSW 3 hts gL_law_L_length rfl rfl rfl (by decide +kernel) ⟨Nat.le_of_ble_eq_true rfl, Nat.le_of_ble_eq_true rfl⟩) ⟨zB_blind, (zPre hPc hDc hKc hS hFc hZ hN)⟩ rfl rfl hl.1 rfl (lv_room (Nat.le_of_ble_eq_true rfl)) dL_law_583 ⟨Nat.le_of_ble_eq_true rfl, Nat.le_of_ble_eq_true rfl⟩) hS (fun q _ h => hFc q h) hFc (fun r u t H1 locs ht hvm hw hB hz1 hk1 hS => ?_)
    subst hw
    obtain ⟨hP1, hK1, hD1⟩ := hB
    rw [ht] at hP1
    have hK1 := va_K.moved hvm.symm hK1
    obtain ⟨hP, hD⟩ := va_join (wr := [(q86, .inr (15, [.ref q87, .ref q88, .ref q89, .ref q90, .ref q91, .ref q92, .int 0, .int 1, .ref q93, .int 0, .ref q94, .null, .ref q95, .null, .ref q96, .ref q97, .ref q98, .ref q99, .ref q100, .int 0, .ref q101, .ref q102, .ref q103, .ref q104, .ref q105, .int 0, .int 0]))]) (w1 := []) hP hD [0, 3] [13] rfl rfl (by decide) (by decide) hk1 hFc hP1 hD1
    have hK := (hK.sub (tys' := []) [] rfl).app hK1
    generalize H1 = H at hP hS ⊢
    have hP : va_P (dC, dI) vwCl [(q86, .inr (15, [.ref q87, .ref q88, .ref q89, .ref q90, .ref q91, .ref q92, .int 0, .int 1, .ref q93, .int 0, .ref q94, .null, .ref q95, .null, .ref q96, .ref q97, .ref q98, .ref q99, .ref q100, .int 0, .ref q101, .ref q102, .ref q103, .ref q104, .ref q105, .int 0, .int 0]))] H := hP
    have hD : va_D (fun q : Nat => s.heap.size ≤ q) [(q86, .inr (15, [.ref q87, .ref q88, .ref q89, .ref q90, .ref q91, .ref q92, .int 0, .int 1, .ref q93, .int 0, .ref q94, .null, .ref q95, .null, .ref q96, .ref q97, .ref q98, .ref q99, .ref q100, .int 0, .ref q101, .ref q102, .ref q103, .ref q104, .ref q105, .int 0, .int 0]))] := hD
    have hK : va_K (dC, dI) vwCl [] s := hK
    refine W.widen (k := 132) (n := 6698) (Nat.le_of_ble_eq_true rfl) (Nat.le_of_ble_eq_true rfl) ?_
    refine lv_istore (lv' := [(5, .int 1), (4, .int 0), (3, .ref q106), (2, .ref q86), (1, .ref q0), (0, .ref b)]) hx hb dL_law_586 hl (by decide) rfl (fun ls hl => ?_)
    refine lv_aload_n hx hb dL_law_588 rfl (lv_at hl 3 rfl) ?_
    refine lv_aload_n hx hb dL_law_589 rfl (lv_at hl 5 rfl) ?_
    refine lv_iload hx hb dL_law_590 (lv_at hl 1 rfl) ?_
    refine lv_iconst (v := 1) hx hb dL_law_592 (by decide +kernel) ?_
    refine lv_iadd hx hb dL_law_593 ?_
    refine zt_i (v := 1) (by decide +kernel) ?_
    refine va_sld hx hb hX hbl hbA hS (i := 1) (zin (by decide +kernel)) dL_law_594 ?_
    refine zt_v (w := .int (xs 1)) rfl ?_
    have hPc := hP.sub (ws' := [(q86, .inr (15, [.ref q87, .ref q88, .ref q89, .ref q90, .ref q91, .ref q92, .int 0, .int 1, .ref q93, .int 0, .ref q94, .null, .ref q95, .null, .ref q96, .ref q97, .ref q98, .ref q99, .ref q100, .int 0, .ref q101, .ref q102, .ref q103, .ref q104, .ref q105, .int 0, .int 0]))]) [0] rfl
    have hDc := hD.sub (ws' := [(q86, .inr (15, [.ref q87, .ref q88, .ref q89, .ref q90, .ref q91, .ref q92, .int 0, .int 1, .ref q93, .int 0, .ref q94, .null, .ref q95, .null, .ref q96, .ref q97, .ref q98, .ref q99, .ref q100, .int 0, .ref q101, .ref q102, .ref q103, .ref q104, .ref q105, .int 0, .int 0]))]) [0] (by decide) rfl
    have hKc := hK.sub (tys' := []) [] rfl
    have hFc := va_free (wc := [(q86, .inr (15, [.ref q87, .ref q88, .ref q89, .ref q90, .ref q91, .ref q92, .int 0, .int 1, .ref q93, .int 0, .ref q94, .null, .ref q95, .null, .ref q96, .ref q97, .ref q98, .ref q99, .ref q100, .int 0, .ref q101, .ref q102, .ref q103, .ref q104, .ref q105, .int 0, .int 0]))]) hD hS hA [0] rfl
    refine va_calli (va_runV (As := [.int (xs 1)]) (rest := []) ⟨hx, hb, hml, hown, hts⟩ (c_X13_length_2 l dC dI q86 q87 q88 q89 q90 q91 q92 q93 q94 q95 q96 q97 q98 q99 q100 q101 q102 q103 q104 q105 H.size (xs 1) hc0 hc2) (cwV 1 hts gL_law_X13_length rfl rfl rfl (by decide +kernel) ⟨Nat.le_of_ble_eq_true rfl, Nat.le_of_ble_eq_true rfl⟩) ⟨zB_blind, va_recv hK hP (ci := 15) (q0 := 0) rfl rfl, (zPre hPc hDc hKc hS hFc hZ hN)⟩ rfl rfl hl.1 rfl (lv_room (Nat.le_of_ble_eq_true rfl)) dL_law_595 ⟨Nat.le_of_ble_eq_true rfl, Nat.le_of_ble_eq_true rfl⟩) hS (fun q _ h => hFc q h) hFc (fun r u t H1 locs ht hvm hw hB hz1 hk1 hS => ?_)
    subst hw
    obtain ⟨hP1, hK1, hD1⟩ := hB
    rw [ht] at hP1
    have hK1 := va_K.moved hvm.symm hK1
    obtain ⟨hP, hD⟩ := va_join (wr := []) (w1 := [(q86, .inr (15, [.ref q87, .ref q88, .ref q89, .ref q90, .ref q91, .ref q92, .int 0, .int 1, .ref q93, .int 0, .ref q94, .null, .ref q95, .null, .ref q96, .ref q97, .ref q98, .ref q99, .ref q100, .int 1, .ref q101, .ref q102, .ref q103, .ref q104, .ref q105, .int 0, .int 0]))]) hP hD [0] [] rfl rfl (by decide) (by decide) hk1 hFc hP1 hD1
    have hK := (hK.sub (tys' := []) [] rfl).app hK1
    generalize H1 = H at hP hS ⊢
    have hP : va_P (dC, dI) vwCl [(q86, .inr (15, [.ref q87, .ref q88, .ref q89, .ref q90, .ref q91, .ref q92, .int 0, .int 1, .ref q93, .int 0, .ref q94, .null, .ref q95, .null, .ref q96, .ref q97, .ref q98, .ref q99, .ref q100, .int 1, .ref q101, .ref q102, .ref q103, .ref q104, .ref q105, .int 0, .int 0]))] H := hP
    have hD : va_D (fun q : Nat => s.heap.size ≤ q) [(q86, .inr (15, [.ref q87, .ref q88, .ref q89, .ref q90, .ref q91, .ref q92, .int 0, .int 1, .ref q93, .int 0, .ref q94, .null, .ref q95, .null, .ref q96, .ref q97, .ref q98, .ref q99, .ref q100, .int 1, .ref q101, .ref q102, .ref q103, .ref q104, .ref q105, .int 0, .int 0]))] := hD
    have hK : va_K (dC, dI) vwCl [] s := hK
    refine W.widen (k := 132) (n := 6698) (Nat.le_of_ble_eq_true rfl) (Nat.le_of_ble_eq_true rfl) ?_
    refine lv_istore (lv' := [(6, .int 0), (5, .int 1), (4, .int 0), (3, .ref q106), (2, .ref q86), (1, .ref q0), (0, .ref b)]) hx hb dL_law_598 hl (by decide) rfl (fun ls hl => ?_)
    refine lv_aload_n hx hb dL_law_600 rfl (lv_at hl 4 rfl) ?_
    have hPc := hP.sub (ws' := [(q86, .inr (15, [.ref q87, .ref q88, .ref q89, .ref q90, .ref q91, .ref q92, .int 0, .int 1, .ref q93, .int 0, .ref q94, .null, .ref q95, .null, .ref q96, .ref q97, .ref q98, .ref q99, .ref q100, .int 1, .ref q101, .ref q102, .ref q103, .ref q104, .ref q105, .int 0, .int 0]))]) [0] rfl
    have hDc := hD.sub (ws' := [(q86, .inr (15, [.ref q87, .ref q88, .ref q89, .ref q90, .ref q91, .ref q92, .int 0, .int 1, .ref q93, .int 0, .ref q94, .null, .ref q95, .null, .ref q96, .ref q97, .ref q98, .ref q99, .ref q100, .int 1, .ref q101, .ref q102, .ref q103, .ref q104, .ref q105, .int 0, .int 0]))]) [0] (by decide) rfl
    have hKc := hK.sub (tys' := []) [] rfl
    have hFc := va_free (wc := [(q86, .inr (15, [.ref q87, .ref q88, .ref q89, .ref q90, .ref q91, .ref q92, .int 0, .int 1, .ref q93, .int 0, .ref q94, .null, .ref q95, .null, .ref q96, .ref q97, .ref q98, .ref q99, .ref q100, .int 1, .ref q101, .ref q102, .ref q103, .ref q104, .ref q105, .int 0, .int 0]))]) hD hS hA [0] rfl
    refine va_calli (va_runV (As := []) (rest := []) ⟨hx, hb, hml, hown, hts⟩ (c_X13_thrown l dC dI q86 q87 q88 q89 q90 q91 q92 q93 q94 q95 q96 q97 q98 q99 q100 q101 q102 q103 q104 q105 H.size  ) (cwV 0 hts gL_law_X13_thrown rfl rfl rfl (by decide +kernel) ⟨Nat.le_of_ble_eq_true rfl, Nat.le_of_ble_eq_true rfl⟩) ⟨zB_blind, va_recv hK hP (ci := 15) (q0 := 0) rfl rfl, (zPre hPc hDc hKc hS hFc hZ hN)⟩ rfl rfl hl.1 rfl (lv_room (Nat.le_of_ble_eq_true rfl)) dL_law_601 ⟨Nat.le_of_ble_eq_true rfl, Nat.le_of_ble_eq_true rfl⟩) hS (fun q _ h => hFc q h) hFc (fun r u t H1 locs ht hvm hw hB hz1 hk1 hS => ?_)
    subst hw
    obtain ⟨hP1, hK1, hD1⟩ := hB
    rw [ht] at hP1
    have hK1 := va_K.moved hvm.symm hK1
    obtain ⟨hP, hD⟩ := va_join (wr := []) (w1 := []) hP hD [0] [] rfl rfl (by decide) (by decide) hk1 hFc hP1 hD1
    have hK := (hK.sub (tys' := []) [] rfl).app hK1
    generalize H1 = H at hP hS ⊢
    have hP : va_P (dC, dI) vwCl [] H := hP
    have hD : va_D (fun q : Nat => s.heap.size ≤ q) [] := hD
    have hK : va_K (dC, dI) vwCl [] s := hK
    refine W.widen (k := 132) (n := 6698) (Nat.le_of_ble_eq_true rfl) (Nat.le_of_ble_eq_true rfl) ?_
    refine lv_iload hx hb dL_law_604 (lv_at hl 1 rfl) ?_
    refine lv_icmp_eq (tgt := 611) hx hb dL_law_606 (by decide) (fun _ => ?_) (fun h9 => absurd (show (1 : Int32) = (1 : Int32) by decide +kernel) h9)
    refine lv_iload hx hb dL_law_611 (lv_at hl 1 rfl) ?_
    refine lv_if_ne (tgt := 628) hx hb dL_law_613 (by decide) (fun _ => ?_) (fun h9 => absurd h9 (show ¬ (1 : Int32) = (0 : Int32) by decide +kernel))
    refine lv_goto (tgt := 2311) hx hb dL_law_628 (by decide) ?_
    exact law_exit C0 hS (Nat.le_of_ble_eq_true rfl) (Nat.le_of_ble_eq_true rfl) ls (lv_sub hl [2, 3, 4, 5, 6] rfl)
set_option maxHeartbeats 8000000 in
set_option maxRecDepth 100000 in
theorem law_case_9 {p : Program} {l : Launch} {e : Env} {s : State} {m : MethodId} {below : List Frame} {meth : Method} {c : Code} {b : Nat} {xs : Nat → Int32} (hfl : l.stackTraces = false) (C0 : lw_At p s m meth c b 4 xs) {dC : Nat → ClassId} {dI : Nat → Nat → Nat} {q0 q1 q3 q5 q7 q9 q11 q13 q15 q17 q21 q25 q26 q27 q2 q4 q6 q8 q10 q16 q18 q22 q23 q86 q87 q88 q89 q90 q91 q92 q93 q94 q95 q96 q97 q98 q99 q100 q101 q102 q103 q104 q105 q106 : Nat} {k2 k4 k87 k88 k89 k90 k91 k92 k93 k94 k96 k106 : ClassId} {H : Heap} {locs : List Loc} (hK : va_K (dC, dI) vwCl [(k2, .char), (k4, (.object "Seekwell$Text")), (k87, .boolean), (k88, .int), (k89, .int), (k90, .char), (k91, (.array .long)), (k92, (.array .long)), (k93, .int), (k94, .int), (k96, .boolean), (k106, .long)] s) (hP : va_P (dC, dI) vwCl [(q0, .inr (13, [.ref q1, .ref q3, .ref q5, .ref q7, .ref q9, .ref q11, .ref q13, .ref q15, .int 0, .ref q17, .ref q21, .ref q25, .ref q26, .ref q27])), (q1, .inr (7, [.ref q2, .int 0])), (q2, .inl (k2, 512, .inl (fun _ => 0))), (q3, .inr (11, [.ref q4, .int 0, .int 1])), (q4, .inl (k4, 24, .inr (.inr (.inr (.inr (fun _ => none)))))), (q5, .inr (11, [.ref q6, .int 0, .int 1])), (q7, .inr (10, [.ref q8, .int 0])), (q9, .inr (5, [.ref q10, .int 0, .int 0])), (q15, .inr (5, [.ref q16, .int 0, .int 0])), (q17, .inr (9, [.ref q18, .ref q18, .null])), (q21, .inr (9, [.ref q22, .ref q22, .null])), (q22, .inr (8, [.int 0, .int 0, .int 1, .int 0, .int 0, .int 0, .ref q23, .null, .null, .null, .null, .int 0, .int 0, .int 0, .int 0, .null, .null])), (q26, .inr (3, [.null, .null, .int 0, .int 0, .null])), (q86, .inr (15, [.ref q87, .ref q88, .ref q89, .ref q90, .ref q91, .ref q92, .int 0, .int 1, .ref q93, .int 0, .ref q94, .null, .ref q95, .null, .ref q96, .ref q97, .ref q98, .ref q99, .ref q100, .int 0, .ref q101, .ref q102, .ref q103, .ref q104, .ref q105, .int 0, .int 0])), (q87, .inl (k87, 24, .inl (fun _ => 0))), (q88, .inl (k88, 24, .inl (fun _ => 0))), (q89, .inl (k89, 24, .inl (fun _ => 0))), (q90, .inl (k90, 24, .inl (fun _ => 0))), (q91, .inl (k91, 24, .inr (.inr (.inr (.inr (fun _ => none)))))), (q92, .inl (k92, 24, .inr (.inr (.inr (.inr (fun _ => none)))))), (q93, .inl (k93, 4000, .inl (fun _ => 0))), (q94, .inl (k94, 0, .inl (fun _ => 0))), (q96, .inl (k96, 24, .inl (fun _ => 0))), (q106, .inl (k106, 1, .inr (.inl (fun _ => 0))))] H) (hD : va_D (fun q : Nat => s.heap.size ≤ q) [(q0, .inr (13, [.ref q1, .ref q3, .ref q5, .ref q7, .ref q9, .ref q11, .ref q13, .ref q15, .int 0, .ref q17, .ref q21, .ref q25, .ref q26, .ref q27])), (q1, .inr (7, [.ref q2, .int 0])), (q2, .inl (k2, 512, .inl (fun _ => 0))), (q3, .inr (11, [.ref q4, .int 0, .int 1])), (q4, .inl (k4, 24, .inr (.inr (.inr (.inr (fun _ => none)))))), (q5, .inr (11, [.ref q6, .int 0, .int 1])), (q7, .inr (10, [.ref q8, .int 0])), (q9, .inr (5, [.ref q10, .int 0, .int 0])), (q15, .inr (5, [.ref q16, .int 0, .int 0])), (q17, .inr (9, [.ref q18, .ref q18, .null])), (q21, .inr (9, [.ref q22, .ref q22, .null])), (q22, .inr (8, [.int 0, .int 0, .int 1, .int 0, .int 0, .int 0, .ref q23, .null, .null, .null, .null, .int 0, .int 0, .int 0, .int 0, .null, .null])), (q26, .inr (3, [.null, .null, .int 0, .int 0, .null])), (q86, .inr (15, [.ref q87, .ref q88, .ref q89, .ref q90, .ref q91, .ref q92, .int 0, .int 1, .ref q93, .int 0, .ref q94, .null, .ref q95, .null, .ref q96, .ref q97, .ref q98, .ref q99, .ref q100, .int 0, .ref q101, .ref q102, .ref q103, .ref q104, .ref q105, .int 0, .int 0])), (q87, .inl (k87, 24, .inl (fun _ => 0))), (q88, .inl (k88, 24, .inl (fun _ => 0))), (q89, .inl (k89, 24, .inl (fun _ => 0))), (q90, .inl (k90, 24, .inl (fun _ => 0))), (q91, .inl (k91, 24, .inr (.inr (.inr (.inr (fun _ => none)))))), (q92, .inl (k92, 24, .inr (.inr (.inr (.inr (fun _ => none)))))), (q93, .inl (k93, 4000, .inl (fun _ => 0))), (q94, .inl (k94, 0, .inl (fun _ => 0))), (q96, .inl (k96, 24, .inl (fun _ => 0))), (q106, .inl (k106, 1, .inr (.inl (fun _ => 0))))]) (hS : va_S (fun q : Nat => s.heap.size ≤ q) s.heap H locs) (hZ : zZ (fun q : Nat => s.heap.size ≤ q) s s.heap) (hN : zN s) (ls : Array Slot) (hl : lv_has ls 7 [(4, .int 0), (3, .ref q106), (2, .ref q86), (1, .ref q0), (0, .ref b)]) : W p l e room_1 s m #[Value.ref b] below meth c H locs 131 6692 (lw_Z below #[Value.ref b] s) (F0 m 631 ls []) := by
  obtain ⟨hx, hb, hr, hml, hown, hts, hX, hbl, hlocks, hgv⟩ := id C0
  have hbA : ¬ (fun q : Nat => s.heap.size ≤ q) b := Nat.not_le.mpr hbl
  have hA : ∀ q : Nat, s.heap.size ≤ q → (fun q : Nat => s.heap.size ≤ q) q := fun _ h => h
  by_cases hb0 : (xs 2) = (0 : Int32)
  · skip
    by_cases hb1 : (xs 1) < (0 : Int32)
    · skip
      have hc0 : (xs 2) = (0 : Int32) := hb0
      have hc1 : (xs 1) < (0 : Int32) := hb1
      refine lv_aload_n hx hb dL_law_631 rfl (lv_at hl 3 rfl) ?_
      refine lv_aload_n hx hb dL_law_632 rfl (lv_at hl 4 rfl) ?_
      refine lv_iload hx hb dL_law_633 (lv_at hl 0 rfl) ?_
      refine lv_iconst (v := 1) hx hb dL_law_635 (by decide +kernel) ?_
      refine lv_iadd hx hb dL_law_636 ?_
      refine zt_i (v := 1) (by decide +kernel) ?_
      refine va_sld hx hb hX hbl hbA hS (i := 1) (zin (by decide +kernel)) dL_law_637 ?_
      refine zt_v (w := .int (xs 1)) rfl ?_
      refine lv_aload_n hx hb dL_law_638 rfl (lv_at hl 4 rfl) ?_
      refine lv_iload hx hb dL_law_639 (lv_at hl 0 rfl) ?_
      refine lv_iconst (v := 2) hx hb dL_law_641 (by decide +kernel) ?_
      refine lv_iadd hx hb dL_law_642 ?_
      refine zt_i (v := 2) (by decide +kernel) ?_
      refine va_sld hx hb hX hbl hbA hS (i := 2) (zin (by decide +kernel)) dL_law_643 ?_
      refine zt_v (w := .int (xs 2)) rfl ?_
      refine lv_if_eq (tgt := 651) hx hb dL_law_644 (by decide) (fun _ => ?_) (fun h9 => absurd hc0 h9)
      refine lv_iconst (v := 0) hx hb dL_law_651 (by decide +kernel) ?_
      refine lv_aload_n hx hb dL_law_652 rfl (lv_at hl 4 rfl) ?_
      refine lv_iload hx hb dL_law_653 (lv_at hl 0 rfl) ?_
      refine lv_iconst (v := 3) hx hb dL_law_655 (by decide +kernel) ?_
      refine lv_iadd hx hb dL_law_656 ?_
      refine zt_i (v := 3) (by decide +kernel) ?_
      refine va_sld hx hb hX hbl hbA hS (i := 3) (zin (by decide +kernel)) dL_law_657 ?_
      refine zt_v (w := .int (xs 3)) rfl ?_
      refine lv_aload_n hx hb dL_law_658 rfl (lv_at hl 1 rfl) ?_
      have hPc := hP.sub (ws' := [(q0, .inr (13, [.ref q1, .ref q3, .ref q5, .ref q7, .ref q9, .ref q11, .ref q13, .ref q15, .int 0, .ref q17, .ref q21, .ref q25, .ref q26, .ref q27])), (q3, .inr (11, [.ref q4, .int 0, .int 1]))]) [0, 3] rfl
      have hDc := hD.sub (ws' := [(q0, .inr (13, [.ref q1, .ref q3, .ref q5, .ref q7, .ref q9, .ref q11, .ref q13, .ref q15, .int 0, .ref q17, .ref q21, .ref q25, .ref q26, .ref q27])), (q3, .inr (11, [.ref q4, .int 0, .int 1]))]) [0, 3] (by decide) rfl
      have hKc := hK.sub (tys' := []) [] rfl
      have hFc := va_free (wc := [(q0, .inr (13, [.ref q1, .ref q3, .ref q5, .ref q7, .ref q9, .ref q11, .ref q13, .ref q15, .int 0, .ref q17, .ref q21, .ref q25, .ref q26, .ref q27])), (q3, .inr (11, [.ref q4, .int 0, .int 1]))]) hD hS hA [0, 3] rfl
      refine va_calli (vx_runSW (As := [.ref q0, .int (xs 1), .int 0, .int (xs 3), .ref q106]) (rest := []) ⟨hx, hb, hml, hown, hts⟩ (c_L_tellWord l hfl dC dI q0 q106 q1 q3 q5 q7 q9 q11 q13 q15 q17 q21 q25 q26 q27 q4 H.size (xs 1) (xs 3) hc1) (vx_cwSW 5 hts gL_law_L_tellWord rfl rfl rfl (by decide +kernel) ⟨Nat.le_of_ble_eq_true rfl, Nat.le_of_ble_eq_true rfl⟩) ⟨zB_blind, (zPre hPc hDc hKc hS hFc hZ hN)⟩ rfl rfl hl.1 rfl (lv_room (Nat.le_of_ble_eq_true rfl)) dL_law_659 ⟨Nat.le_of_ble_eq_true rfl, Nat.le_of_ble_eq_true rfl⟩) hS (fun q _ h => hFc q h) hFc (fun r u t H1 locs ht hvm hw hB hz1 hk1 hS => ?_)
      subst hw
      obtain ⟨hP1, hK1, hD1⟩ := hB
      rw [ht] at hP1
      have hK1 := va_K.moved hvm.symm hK1
      obtain ⟨hP, hD⟩ := va_join (wr := [(q86, .inr (15, [.ref q87, .ref q88, .ref q89, .ref q90, .ref q91, .ref q92, .int 0, .int 1, .ref q93, .int 0, .ref q94, .null, .ref q95, .null, .ref q96, .ref q97, .ref q98, .ref q99, .ref q100, .int 0, .ref q101, .ref q102, .ref q103, .ref q104, .ref q105, .int 0, .int 0]))]) (w1 := []) hP hD [0, 3] [13] rfl rfl (by decide) (by decide) hk1 hFc hP1 hD1
      have hK := (hK.sub (tys' := []) [] rfl).app hK1
      generalize H1 = H at hP hS ⊢
      have hP : va_P (dC, dI) vwCl [(q86, .inr (15, [.ref q87, .ref q88, .ref q89, .ref q90, .ref q91, .ref q92, .int 0, .int 1, .ref q93, .int 0, .ref q94, .null, .ref q95, .null, .ref q96, .ref q97, .ref q98, .ref q99, .ref q100, .int 0, .ref q101, .ref q102, .ref q103, .ref q104, .ref q105, .int 0, .int 0]))] H := hP
      have hD : va_D (fun q : Nat => s.heap.size ≤ q) [(q86, .inr (15, [.ref q87, .ref q88, .ref q89, .ref q90, .ref q91, .ref q92, .int 0, .int 1, .ref q93, .int 0, .ref q94, .null, .ref q95, .null, .ref q96, .ref q97, .ref q98, .ref q99, .ref q100, .int 0, .ref q101, .ref q102, .ref q103, .ref q104, .ref q105, .int 0, .int 0]))] := hD
      have hK : va_K (dC, dI) vwCl [] s := hK
      refine W.widen (k := 132) (n := 6698) (Nat.le_of_ble_eq_true rfl) (Nat.le_of_ble_eq_true rfl) ?_
      refine lv_istore (lv' := [(5, .int 1), (4, .int 0), (3, .ref q106), (2, .ref q86), (1, .ref q0), (0, .ref b)]) hx hb dL_law_662 hl (by decide) rfl (fun ls hl => ?_)
      refine lv_aload_n hx hb dL_law_664 rfl (lv_at hl 3 rfl) ?_
      refine lv_aload_n hx hb dL_law_665 rfl (lv_at hl 5 rfl) ?_
      refine lv_iload hx hb dL_law_666 (lv_at hl 1 rfl) ?_
      refine lv_iconst (v := 1) hx hb dL_law_668 (by decide +kernel) ?_
      refine lv_iadd hx hb dL_law_669 ?_
      refine zt_i (v := 1) (by decide +kernel) ?_
      refine va_sld hx hb hX hbl hbA hS (i := 1) (zin (by decide +kernel)) dL_law_670 ?_
      refine zt_v (w := .int (xs 1)) rfl ?_
      refine lv_aload_n hx hb dL_law_671 rfl (lv_at hl 5 rfl) ?_
      refine lv_iload hx hb dL_law_672 (lv_at hl 1 rfl) ?_
      refine lv_iconst (v := 2) hx hb dL_law_674 (by decide +kernel) ?_
      refine lv_iadd hx hb dL_law_675 ?_
      refine zt_i (v := 2) (by decide +kernel) ?_
      refine va_sld hx hb hX hbl hbA hS (i := 2) (zin (by decide +kernel)) dL_law_676 ?_
      refine zt_v (w := .int (xs 2)) rfl ?_
      refine lv_if_eq (tgt := 684) hx hb dL_law_677 (by decide) (fun _ => ?_) (fun h9 => absurd hc0 h9)
      refine lv_iconst (v := 0) hx hb dL_law_684 (by decide +kernel) ?_
      refine lv_aload_n hx hb dL_law_685 rfl (lv_at hl 5 rfl) ?_
      refine lv_iload hx hb dL_law_686 (lv_at hl 1 rfl) ?_
      refine lv_iconst (v := 3) hx hb dL_law_688 (by decide +kernel) ?_
      refine lv_iadd hx hb dL_law_689 ?_
      refine zt_i (v := 3) (by decide +kernel) ?_
      refine va_sld hx hb hX hbl hbA hS (i := 3) (zin (by decide +kernel)) dL_law_690 ?_
      refine zt_v (w := .int (xs 3)) rfl ?_
      have hPc := hP.sub (ws' := [(q86, .inr (15, [.ref q87, .ref q88, .ref q89, .ref q90, .ref q91, .ref q92, .int 0, .int 1, .ref q93, .int 0, .ref q94, .null, .ref q95, .null, .ref q96, .ref q97, .ref q98, .ref q99, .ref q100, .int 0, .ref q101, .ref q102, .ref q103, .ref q104, .ref q105, .int 0, .int 0]))]) [0] rfl
      have hDc := hD.sub (ws' := [(q86, .inr (15, [.ref q87, .ref q88, .ref q89, .ref q90, .ref q91, .ref q92, .int 0, .int 1, .ref q93, .int 0, .ref q94, .null, .ref q95, .null, .ref q96, .ref q97, .ref q98, .ref q99, .ref q100, .int 0, .ref q101, .ref q102, .ref q103, .ref q104, .ref q105, .int 0, .int 0]))]) [0] (by decide) rfl
      have hKc := hK.sub (tys' := []) [] rfl
      have hFc := va_free (wc := [(q86, .inr (15, [.ref q87, .ref q88, .ref q89, .ref q90, .ref q91, .ref q92, .int 0, .int 1, .ref q93, .int 0, .ref q94, .null, .ref q95, .null, .ref q96, .ref q97, .ref q98, .ref q99, .ref q100, .int 0, .ref q101, .ref q102, .ref q103, .ref q104, .ref q105, .int 0, .int 0]))]) hD hS hA [0] rfl
      refine va_calli (va_runV (As := [.int (xs 1), .int 0, .int (xs 3)]) (rest := []) ⟨hx, hb, hml, hown, hts⟩ (c_X13_tellWord l dC dI q86 q87 q88 q89 q90 q91 q92 q93 q94 q95 q96 q97 q98 q99 q100 q101 q102 q103 q104 q105 H.size (xs 1) (xs 3) hc1) (cwV 3 hts gL_law_X13_tellWord rfl rfl rfl (by decide +kernel) ⟨Nat.le_of_ble_eq_true rfl, Nat.le_of_ble_eq_true rfl⟩) ⟨zB_blind, va_recv hK hP (ci := 15) (q0 := 0) rfl rfl, (zPre hPc hDc hKc hS hFc hZ hN)⟩ rfl rfl hl.1 rfl (lv_room (Nat.le_of_ble_eq_true rfl)) dL_law_691 ⟨Nat.le_of_ble_eq_true rfl, Nat.le_of_ble_eq_true rfl⟩) hS (fun q _ h => hFc q h) hFc (fun r u t H1 locs ht hvm hw hB hz1 hk1 hS => ?_)
      subst hw
      obtain ⟨hP1, hK1, hD1⟩ := hB
      rw [ht] at hP1
      have hK1 := va_K.moved hvm.symm hK1
      obtain ⟨hP, hD⟩ := va_join (wr := []) (w1 := [(q86, .inr (15, [.ref q87, .ref q88, .ref q89, .ref q90, .ref q91, .ref q92, .int 0, .int 1, .ref q93, .int 0, .ref q94, .null, .ref q95, .null, .ref q96, .ref q97, .ref q98, .ref q99, .ref q100, .int 1, .ref q101, .ref q102, .ref q103, .ref q104, .ref q105, .int 0, .int 0]))]) hP hD [0] [] rfl rfl (by decide) (by decide) hk1 hFc hP1 hD1
      have hK := (hK.sub (tys' := []) [] rfl).app hK1
      generalize H1 = H at hP hS ⊢
      have hP : va_P (dC, dI) vwCl [(q86, .inr (15, [.ref q87, .ref q88, .ref q89, .ref q90, .ref q91, .ref q92, .int 0, .int 1, .ref q93, .int 0, .ref q94, .null, .ref q95, .null, .ref q96, .ref q97, .ref q98, .ref q99, .ref q100, .int 1, .ref q101, .ref q102, .ref q103, .ref q104, .ref q105, .int 0, .int 0]))] H := hP
      have hD : va_D (fun q : Nat => s.heap.size ≤ q) [(q86, .inr (15, [.ref q87, .ref q88, .ref q89, .ref q90, .ref q91, .ref q92, .int 0, .int 1, .ref q93, .int 0, .ref q94, .null, .ref q95, .null, .ref q96, .ref q97, .ref q98, .ref q99, .ref q100, .int 1, .ref q101, .ref q102, .ref q103, .ref q104, .ref q105, .int 0, .int 0]))] := hD
      have hK : va_K (dC, dI) vwCl [] s := hK
      refine W.widen (k := 132) (n := 6698) (Nat.le_of_ble_eq_true rfl) (Nat.le_of_ble_eq_true rfl) ?_
      refine lv_istore (lv' := [(6, .int 0), (5, .int 1), (4, .int 0), (3, .ref q106), (2, .ref q86), (1, .ref q0), (0, .ref b)]) hx hb dL_law_694 hl (by decide) rfl (fun ls hl => ?_)
      refine lv_aload_n hx hb dL_law_696 rfl (lv_at hl 4 rfl) ?_
      have hPc := hP.sub (ws' := [(q86, .inr (15, [.ref q87, .ref q88, .ref q89, .ref q90, .ref q91, .ref q92, .int 0, .int 1, .ref q93, .int 0, .ref q94, .null, .ref q95, .null, .ref q96, .ref q97, .ref q98, .ref q99, .ref q100, .int 1, .ref q101, .ref q102, .ref q103, .ref q104, .ref q105, .int 0, .int 0]))]) [0] rfl
      have hDc := hD.sub (ws' := [(q86, .inr (15, [.ref q87, .ref q88, .ref q89, .ref q90, .ref q91, .ref q92, .int 0, .int 1, .ref q93, .int 0, .ref q94, .null, .ref q95, .null, .ref q96, .ref q97, .ref q98, .ref q99, .ref q100, .int 1, .ref q101, .ref q102, .ref q103, .ref q104, .ref q105, .int 0, .int 0]))]) [0] (by decide) rfl
      have hKc := hK.sub (tys' := []) [] rfl
      have hFc := va_free (wc := [(q86, .inr (15, [.ref q87, .ref q88, .ref q89, .ref q90, .ref q91, .ref q92, .int 0, .int 1, .ref q93, .int 0, .ref q94, .null, .ref q95, .null, .ref q96, .ref q97, .ref q98, .ref q99, .ref q100, .int 1, .ref q101, .ref q102, .ref q103, .ref q104, .ref q105, .int 0, .int 0]))]) hD hS hA [0] rfl
      refine va_calli (va_runV (As := []) (rest := []) ⟨hx, hb, hml, hown, hts⟩ (c_X13_thrown l dC dI q86 q87 q88 q89 q90 q91 q92 q93 q94 q95 q96 q97 q98 q99 q100 q101 q102 q103 q104 q105 H.size  ) (cwV 0 hts gL_law_X13_thrown rfl rfl rfl (by decide +kernel) ⟨Nat.le_of_ble_eq_true rfl, Nat.le_of_ble_eq_true rfl⟩) ⟨zB_blind, va_recv hK hP (ci := 15) (q0 := 0) rfl rfl, (zPre hPc hDc hKc hS hFc hZ hN)⟩ rfl rfl hl.1 rfl (lv_room (Nat.le_of_ble_eq_true rfl)) dL_law_697 ⟨Nat.le_of_ble_eq_true rfl, Nat.le_of_ble_eq_true rfl⟩) hS (fun q _ h => hFc q h) hFc (fun r u t H1 locs ht hvm hw hB hz1 hk1 hS => ?_)
      subst hw
      obtain ⟨hP1, hK1, hD1⟩ := hB
      rw [ht] at hP1
      have hK1 := va_K.moved hvm.symm hK1
      obtain ⟨hP, hD⟩ := va_join (wr := []) (w1 := []) hP hD [0] [] rfl rfl (by decide) (by decide) hk1 hFc hP1 hD1
      have hK := (hK.sub (tys' := []) [] rfl).app hK1
      generalize H1 = H at hP hS ⊢
      have hP : va_P (dC, dI) vwCl [] H := hP
      have hD : va_D (fun q : Nat => s.heap.size ≤ q) [] := hD
      have hK : va_K (dC, dI) vwCl [] s := hK
      refine W.widen (k := 132) (n := 6698) (Nat.le_of_ble_eq_true rfl) (Nat.le_of_ble_eq_true rfl) ?_
      refine lv_iload hx hb dL_law_700 (lv_at hl 1 rfl) ?_
      refine lv_icmp_eq (tgt := 707) hx hb dL_law_702 (by decide) (fun _ => ?_) (fun h9 => absurd (show (1 : Int32) = (1 : Int32) by decide +kernel) h9)
      refine lv_iload hx hb dL_law_707 (lv_at hl 1 rfl) ?_
      refine lv_if_ne (tgt := 724) hx hb dL_law_709 (by decide) (fun _ => ?_) (fun h9 => absurd h9 (show ¬ (1 : Int32) = (0 : Int32) by decide +kernel))
      refine lv_goto (tgt := 2311) hx hb dL_law_724 (by decide) ?_
      exact law_exit C0 hS (Nat.le_of_ble_eq_true rfl) (Nat.le_of_ble_eq_true rfl) ls (lv_sub hl [2, 3, 4, 5, 6] rfl)
    · skip
      have hc0 : (xs 2) = (0 : Int32) := hb0
      have hc1 : ¬ (xs 1) < (0 : Int32) := hb1
      have hc2 : (0 : Int32) ≤ (xs 1) := zd_4 hb1
      have hc3 : ((-1) : Int32) < (xs 1) := zd_3 hb1
      refine lv_aload_n hx hb dL_law_631 rfl (lv_at hl 3 rfl) ?_
      refine lv_aload_n hx hb dL_law_632 rfl (lv_at hl 4 rfl) ?_
      refine lv_iload hx hb dL_law_633 (lv_at hl 0 rfl) ?_
      refine lv_iconst (v := 1) hx hb dL_law_635 (by decide +kernel) ?_
      refine lv_iadd hx hb dL_law_636 ?_
      refine zt_i (v := 1) (by decide +kernel) ?_
      refine va_sld hx hb hX hbl hbA hS (i := 1) (zin (by decide +kernel)) dL_law_637 ?_
      refine zt_v (w := .int (xs 1)) rfl ?_
      refine lv_aload_n hx hb dL_law_638 rfl (lv_at hl 4 rfl) ?_
      refine lv_iload hx hb dL_law_639 (lv_at hl 0 rfl) ?_
      refine lv_iconst (v := 2) hx hb dL_law_641 (by decide +kernel) ?_
      refine lv_iadd hx hb dL_law_642 ?_
      refine zt_i (v := 2) (by decide +kernel) ?_
      refine va_sld hx hb hX hbl hbA hS (i := 2) (zin (by decide +kernel)) dL_law_643 ?_
      refine zt_v (w := .int (xs 2)) rfl ?_
      refine lv_if_eq (tgt := 651) hx hb dL_law_644 (by decide) (fun _ => ?_) (fun h9 => absurd hc0 h9)
      refine lv_iconst (v := 0) hx hb dL_law_651 (by decide +kernel) ?_
      refine lv_aload_n hx hb dL_law_652 rfl (lv_at hl 4 rfl) ?_
      refine lv_iload hx hb dL_law_653 (lv_at hl 0 rfl) ?_
      refine lv_iconst (v := 3) hx hb dL_law_655 (by decide +kernel) ?_
      refine lv_iadd hx hb dL_law_656 ?_
      refine zt_i (v := 3) (by decide +kernel) ?_
      refine va_sld hx hb hX hbl hbA hS (i := 3) (zin (by decide +kernel)) dL_law_657 ?_
      refine zt_v (w := .int (xs 3)) rfl ?_
      refine lv_aload_n hx hb dL_law_658 rfl (lv_at hl 1 rfl) ?_
      have hPc := hP.sub (ws' := [(q0, .inr (13, [.ref q1, .ref q3, .ref q5, .ref q7, .ref q9, .ref q11, .ref q13, .ref q15, .int 0, .ref q17, .ref q21, .ref q25, .ref q26, .ref q27])), (q3, .inr (11, [.ref q4, .int 0, .int 1]))]) [0, 3] rfl
      have hDc := hD.sub (ws' := [(q0, .inr (13, [.ref q1, .ref q3, .ref q5, .ref q7, .ref q9, .ref q11, .ref q13, .ref q15, .int 0, .ref q17, .ref q21, .ref q25, .ref q26, .ref q27])), (q3, .inr (11, [.ref q4, .int 0, .int 1]))]) [0, 3] (by decide) rfl
      have hKc := hK.sub (tys' := []) [] rfl
      have hFc := va_free (wc := [(q0, .inr (13, [.ref q1, .ref q3, .ref q5, .ref q7, .ref q9, .ref q11, .ref q13, .ref q15, .int 0, .ref q17, .ref q21, .ref q25, .ref q26, .ref q27])), (q3, .inr (11, [.ref q4, .int 0, .int 1]))]) hD hS hA [0, 3] rfl
      refine va_calli (vx_runSW (As := [.ref q0, .int (xs 1), .int 0, .int (xs 3), .ref q106]) (rest := []) ⟨hx, hb, hml, hown, hts⟩ (c_L_tellWord_2 l hfl dC dI q0 q106 q1 q3 q5 q7 q9 q11 q13 q15 q17 q21 q25 q26 q27 q4 H.size (xs 1) (xs 3) hc1 hc2) (vx_cwSW 5 hts gL_law_L_tellWord rfl rfl rfl (by decide +kernel) ⟨Nat.le_of_ble_eq_true rfl, Nat.le_of_ble_eq_true rfl⟩) ⟨zB_blind, (zPre hPc hDc hKc hS hFc hZ hN)⟩ rfl rfl hl.1 rfl (lv_room (Nat.le_of_ble_eq_true rfl)) dL_law_659 ⟨Nat.le_of_ble_eq_true rfl, Nat.le_of_ble_eq_true rfl⟩) hS (fun q _ h => hFc q h) hFc (fun r u t H1 locs ht hvm hw hB hz1 hk1 hS => ?_)
      subst hw
      obtain ⟨hP1, hK1, hD1⟩ := hB
      rw [ht] at hP1
      have hK1 := va_K.moved hvm.symm hK1
      obtain ⟨hP, hD⟩ := va_join (wr := [(q86, .inr (15, [.ref q87, .ref q88, .ref q89, .ref q90, .ref q91, .ref q92, .int 0, .int 1, .ref q93, .int 0, .ref q94, .null, .ref q95, .null, .ref q96, .ref q97, .ref q98, .ref q99, .ref q100, .int 0, .ref q101, .ref q102, .ref q103, .ref q104, .ref q105, .int 0, .int 0]))]) (w1 := []) hP hD [0, 3] [13] rfl rfl (by decide) (by decide) hk1 hFc hP1 hD1
      have hK := (hK.sub (tys' := []) [] rfl).app hK1
      generalize H1 = H at hP hS ⊢
      have hP : va_P (dC, dI) vwCl [(q86, .inr (15, [.ref q87, .ref q88, .ref q89, .ref q90, .ref q91, .ref q92, .int 0, .int 1, .ref q93, .int 0, .ref q94, .null, .ref q95, .null, .ref q96, .ref q97, .ref q98, .ref q99, .ref q100, .int 0, .ref q101, .ref q102, .ref q103, .ref q104, .ref q105, .int 0, .int 0]))] H := hP
      have hD : va_D (fun q : Nat => s.heap.size ≤ q) [(q86, .inr (15, [.ref q87, .ref q88, .ref q89, .ref q90, .ref q91, .ref q92, .int 0, .int 1, .ref q93, .int 0, .ref q94, .null, .ref q95, .null, .ref q96, .ref q97, .ref q98, .ref q99, .ref q100, .int 0, .ref q101, .ref q102, .ref q103, .ref q104, .ref q105, .int 0, .int 0]))] := hD
      have hK : va_K (dC, dI) vwCl [] s := hK
      refine W.widen (k := 132) (n := 6698) (Nat.le_of_ble_eq_true rfl) (Nat.le_of_ble_eq_true rfl) ?_
      refine lv_istore (lv' := [(5, .int 1), (4, .int 0), (3, .ref q106), (2, .ref q86), (1, .ref q0), (0, .ref b)]) hx hb dL_law_662 hl (by decide) rfl (fun ls hl => ?_)
      refine lv_aload_n hx hb dL_law_664 rfl (lv_at hl 3 rfl) ?_
      refine lv_aload_n hx hb dL_law_665 rfl (lv_at hl 5 rfl) ?_
      refine lv_iload hx hb dL_law_666 (lv_at hl 1 rfl) ?_
      refine lv_iconst (v := 1) hx hb dL_law_668 (by decide +kernel) ?_
      refine lv_iadd hx hb dL_law_669 ?_
      refine zt_i (v := 1) (by decide +kernel) ?_
      refine va_sld hx hb hX hbl hbA hS (i := 1) (zin (by decide +kernel)) dL_law_670 ?_
      refine zt_v (w := .int (xs 1)) rfl ?_
      refine lv_aload_n hx hb dL_law_671 rfl (lv_at hl 5 rfl) ?_
      refine lv_iload hx hb dL_law_672 (lv_at hl 1 rfl) ?_
      refine lv_iconst (v := 2) hx hb dL_law_674 (by decide +kernel) ?_
      refine lv_iadd hx hb dL_law_675 ?_
      refine zt_i (v := 2) (by decide +kernel) ?_
      refine va_sld hx hb hX hbl hbA hS (i := 2) (zin (by decide +kernel)) dL_law_676 ?_
      refine zt_v (w := .int (xs 2)) rfl ?_
      refine lv_if_eq (tgt := 684) hx hb dL_law_677 (by decide) (fun _ => ?_) (fun h9 => absurd hc0 h9)
      refine lv_iconst (v := 0) hx hb dL_law_684 (by decide +kernel) ?_
      refine lv_aload_n hx hb dL_law_685 rfl (lv_at hl 5 rfl) ?_
      refine lv_iload hx hb dL_law_686 (lv_at hl 1 rfl) ?_
      refine lv_iconst (v := 3) hx hb dL_law_688 (by decide +kernel) ?_
      refine lv_iadd hx hb dL_law_689 ?_
      refine zt_i (v := 3) (by decide +kernel) ?_
      refine va_sld hx hb hX hbl hbA hS (i := 3) (zin (by decide +kernel)) dL_law_690 ?_
      refine zt_v (w := .int (xs 3)) rfl ?_
      have hPc := hP.sub (ws' := [(q86, .inr (15, [.ref q87, .ref q88, .ref q89, .ref q90, .ref q91, .ref q92, .int 0, .int 1, .ref q93, .int 0, .ref q94, .null, .ref q95, .null, .ref q96, .ref q97, .ref q98, .ref q99, .ref q100, .int 0, .ref q101, .ref q102, .ref q103, .ref q104, .ref q105, .int 0, .int 0]))]) [0] rfl
      have hDc := hD.sub (ws' := [(q86, .inr (15, [.ref q87, .ref q88, .ref q89, .ref q90, .ref q91, .ref q92, .int 0, .int 1, .ref q93, .int 0, .ref q94, .null, .ref q95, .null, .ref q96, .ref q97, .ref q98, .ref q99, .ref q100, .int 0, .ref q101, .ref q102, .ref q103, .ref q104, .ref q105, .int 0, .int 0]))]) [0] (by decide) rfl
      have hKc := hK.sub (tys' := []) [] rfl
      have hFc := va_free (wc := [(q86, .inr (15, [.ref q87, .ref q88, .ref q89, .ref q90, .ref q91, .ref q92, .int 0, .int 1, .ref q93, .int 0, .ref q94, .null, .ref q95, .null, .ref q96, .ref q97, .ref q98, .ref q99, .ref q100, .int 0, .ref q101, .ref q102, .ref q103, .ref q104, .ref q105, .int 0, .int 0]))]) hD hS hA [0] rfl
      refine va_calli (va_runV (As := [.int (xs 1), .int 0, .int (xs 3)]) (rest := []) ⟨hx, hb, hml, hown, hts⟩ (c_X13_tellWord_2 l dC dI q86 q87 q88 q89 q90 q91 q92 q93 q94 q95 q96 q97 q98 q99 q100 q101 q102 q103 q104 q105 H.size (xs 1) (xs 3) hc1 hc3) (cwV 3 hts gL_law_X13_tellWord rfl rfl rfl (by decide +kernel) ⟨Nat.le_of_ble_eq_true rfl, Nat.le_of_ble_eq_true rfl⟩) ⟨zB_blind, va_recv hK hP (ci := 15) (q0 := 0) rfl rfl, (zPre hPc hDc hKc hS hFc hZ hN)⟩ rfl rfl hl.1 rfl (lv_room (Nat.le_of_ble_eq_true rfl)) dL_law_691 ⟨Nat.le_of_ble_eq_true rfl, Nat.le_of_ble_eq_true rfl⟩) hS (fun q _ h => hFc q h) hFc (fun r u t H1 locs ht hvm hw hB hz1 hk1 hS => ?_)
      subst hw
      obtain ⟨hP1, hK1, hD1⟩ := hB
      rw [ht] at hP1
      have hK1 := va_K.moved hvm.symm hK1
      obtain ⟨hP, hD⟩ := va_join (wr := []) (w1 := [(q86, .inr (15, [.ref q87, .ref q88, .ref q89, .ref q90, .ref q91, .ref q92, .int 0, .int 1, .ref q93, .int 0, .ref q94, .null, .ref q95, .null, .ref q96, .ref q97, .ref q98, .ref q99, .ref q100, .int 1, .ref q101, .ref q102, .ref q103, .ref q104, .ref q105, .int 0, .int 0]))]) hP hD [0] [] rfl rfl (by decide) (by decide) hk1 hFc hP1 hD1
      have hK := (hK.sub (tys' := []) [] rfl).app hK1
      generalize H1 = H at hP hS ⊢
      have hP : va_P (dC, dI) vwCl [(q86, .inr (15, [.ref q87, .ref q88, .ref q89, .ref q90, .ref q91, .ref q92, .int 0, .int 1, .ref q93, .int 0, .ref q94, .null, .ref q95, .null, .ref q96, .ref q97, .ref q98, .ref q99, .ref q100, .int 1, .ref q101, .ref q102, .ref q103, .ref q104, .ref q105, .int 0, .int 0]))] H := hP
      have hD : va_D (fun q : Nat => s.heap.size ≤ q) [(q86, .inr (15, [.ref q87, .ref q88, .ref q89, .ref q90, .ref q91, .ref q92, .int 0, .int 1, .ref q93, .int 0, .ref q94, .null, .ref q95, .null, .ref q96, .ref q97, .ref q98, .ref q99, .ref q100, .int 1, .ref q101, .ref q102, .ref q103, .ref q104, .ref q105, .int 0, .int 0]))] := hD
      have hK : va_K (dC, dI) vwCl [] s := hK
      refine W.widen (k := 132) (n := 6698) (Nat.le_of_ble_eq_true rfl) (Nat.le_of_ble_eq_true rfl) ?_
      refine lv_istore (lv' := [(6, .int 0), (5, .int 1), (4, .int 0), (3, .ref q106), (2, .ref q86), (1, .ref q0), (0, .ref b)]) hx hb dL_law_694 hl (by decide) rfl (fun ls hl => ?_)
      refine lv_aload_n hx hb dL_law_696 rfl (lv_at hl 4 rfl) ?_
      have hPc := hP.sub (ws' := [(q86, .inr (15, [.ref q87, .ref q88, .ref q89, .ref q90, .ref q91, .ref q92, .int 0, .int 1, .ref q93, .int 0, .ref q94, .null, .ref q95, .null, .ref q96, .ref q97, .ref q98, .ref q99, .ref q100, .int 1, .ref q101, .ref q102, .ref q103, .ref q104, .ref q105, .int 0, .int 0]))]) [0] rfl
      have hDc := hD.sub (ws' := [(q86, .inr (15, [.ref q87, .ref q88, .ref q89, .ref q90, .ref q91, .ref q92, .int 0, .int 1, .ref q93, .int 0, .ref q94, .null, .ref q95, .null, .ref q96, .ref q97, .ref q98, .ref q99, .ref q100, .int 1, .ref q101, .ref q102, .ref q103, .ref q104, .ref q105, .int 0, .int 0]))]) [0] (by decide) rfl
      have hKc := hK.sub (tys' := []) [] rfl
      have hFc := va_free (wc := [(q86, .inr (15, [.ref q87, .ref q88, .ref q89, .ref q90, .ref q91, .ref q92, .int 0, .int 1, .ref q93, .int 0, .ref q94, .null, .ref q95, .null, .ref q96, .ref q97, .ref q98, .ref q99, .ref q100, .int 1, .ref q101, .ref q102, .ref q103, .ref q104, .ref q105, .int 0, .int 0]))]) hD hS hA [0] rfl
      refine va_calli (va_runV (As := []) (rest := []) ⟨hx, hb, hml, hown, hts⟩ (c_X13_thrown l dC dI q86 q87 q88 q89 q90 q91 q92 q93 q94 q95 q96 q97 q98 q99 q100 q101 q102 q103 q104 q105 H.size  ) (cwV 0 hts gL_law_X13_thrown rfl rfl rfl (by decide +kernel) ⟨Nat.le_of_ble_eq_true rfl, Nat.le_of_ble_eq_true rfl⟩) ⟨zB_blind, va_recv hK hP (ci := 15) (q0 := 0) rfl rfl, (zPre hPc hDc hKc hS hFc hZ hN)⟩ rfl rfl hl.1 rfl (lv_room (Nat.le_of_ble_eq_true rfl)) dL_law_697 ⟨Nat.le_of_ble_eq_true rfl, Nat.le_of_ble_eq_true rfl⟩) hS (fun q _ h => hFc q h) hFc (fun r u t H1 locs ht hvm hw hB hz1 hk1 hS => ?_)
      subst hw
      obtain ⟨hP1, hK1, hD1⟩ := hB
      rw [ht] at hP1
      have hK1 := va_K.moved hvm.symm hK1
      obtain ⟨hP, hD⟩ := va_join (wr := []) (w1 := []) hP hD [0] [] rfl rfl (by decide) (by decide) hk1 hFc hP1 hD1
      have hK := (hK.sub (tys' := []) [] rfl).app hK1
      generalize H1 = H at hP hS ⊢
      have hP : va_P (dC, dI) vwCl [] H := hP
      have hD : va_D (fun q : Nat => s.heap.size ≤ q) [] := hD
      have hK : va_K (dC, dI) vwCl [] s := hK
      refine W.widen (k := 132) (n := 6698) (Nat.le_of_ble_eq_true rfl) (Nat.le_of_ble_eq_true rfl) ?_
      refine lv_iload hx hb dL_law_700 (lv_at hl 1 rfl) ?_
      refine lv_icmp_eq (tgt := 707) hx hb dL_law_702 (by decide) (fun _ => ?_) (fun h9 => absurd (show (1 : Int32) = (1 : Int32) by decide +kernel) h9)
      refine lv_iload hx hb dL_law_707 (lv_at hl 1 rfl) ?_
      refine lv_if_ne (tgt := 724) hx hb dL_law_709 (by decide) (fun _ => ?_) (fun h9 => absurd h9 (show ¬ (1 : Int32) = (0 : Int32) by decide +kernel))
      refine lv_goto (tgt := 2311) hx hb dL_law_724 (by decide) ?_
      exact law_exit C0 hS (Nat.le_of_ble_eq_true rfl) (Nat.le_of_ble_eq_true rfl) ls (lv_sub hl [2, 3, 4, 5, 6] rfl)
  · skip
    by_cases hb1 : (xs 1) < (0 : Int32)
    · skip
      have hc0 : ¬ (xs 2) = (0 : Int32) := hb0
      have hc1 : (xs 1) < (0 : Int32) := hb1
      refine lv_aload_n hx hb dL_law_631 rfl (lv_at hl 3 rfl) ?_
      refine lv_aload_n hx hb dL_law_632 rfl (lv_at hl 4 rfl) ?_
      refine lv_iload hx hb dL_law_633 (lv_at hl 0 rfl) ?_
      refine lv_iconst (v := 1) hx hb dL_law_635 (by decide +kernel) ?_
      refine lv_iadd hx hb dL_law_636 ?_
      refine zt_i (v := 1) (by decide +kernel) ?_
      refine va_sld hx hb hX hbl hbA hS (i := 1) (zin (by decide +kernel)) dL_law_637 ?_
      refine zt_v (w := .int (xs 1)) rfl ?_
      refine lv_aload_n hx hb dL_law_638 rfl (lv_at hl 4 rfl) ?_
      refine lv_iload hx hb dL_law_639 (lv_at hl 0 rfl) ?_
      refine lv_iconst (v := 2) hx hb dL_law_641 (by decide +kernel) ?_
      refine lv_iadd hx hb dL_law_642 ?_
      refine zt_i (v := 2) (by decide +kernel) ?_
      refine va_sld hx hb hX hbl hbA hS (i := 2) (zin (by decide +kernel)) dL_law_643 ?_
      refine zt_v (w := .int (xs 2)) rfl ?_
      refine lv_if_eq (tgt := 651) hx hb dL_law_644 (by decide) (fun h9 => absurd h9 hc0) (fun _ => ?_)
      refine lv_iconst (v := 1) hx hb dL_law_647 (by decide +kernel) ?_
      refine lv_goto (tgt := 652) hx hb dL_law_648 (by decide) ?_
      refine lv_aload_n hx hb dL_law_652 rfl (lv_at hl 4 rfl) ?_
      refine lv_iload hx hb dL_law_653 (lv_at hl 0 rfl) ?_
      refine lv_iconst (v := 3) hx hb dL_law_655 (by decide +kernel) ?_
      refine lv_iadd hx hb dL_law_656 ?_
      refine zt_i (v := 3) (by decide +kernel) ?_
      refine va_sld hx hb hX hbl hbA hS (i := 3) (zin (by decide +kernel)) dL_law_657 ?_
      refine zt_v (w := .int (xs 3)) rfl ?_
      refine lv_aload_n hx hb dL_law_658 rfl (lv_at hl 1 rfl) ?_
      have hPc := hP.sub (ws' := [(q0, .inr (13, [.ref q1, .ref q3, .ref q5, .ref q7, .ref q9, .ref q11, .ref q13, .ref q15, .int 0, .ref q17, .ref q21, .ref q25, .ref q26, .ref q27])), (q3, .inr (11, [.ref q4, .int 0, .int 1]))]) [0, 3] rfl
      have hDc := hD.sub (ws' := [(q0, .inr (13, [.ref q1, .ref q3, .ref q5, .ref q7, .ref q9, .ref q11, .ref q13, .ref q15, .int 0, .ref q17, .ref q21, .ref q25, .ref q26, .ref q27])), (q3, .inr (11, [.ref q4, .int 0, .int 1]))]) [0, 3] (by decide) rfl
      have hKc := hK.sub (tys' := []) [] rfl
      have hFc := va_free (wc := [(q0, .inr (13, [.ref q1, .ref q3, .ref q5, .ref q7, .ref q9, .ref q11, .ref q13, .ref q15, .int 0, .ref q17, .ref q21, .ref q25, .ref q26, .ref q27])), (q3, .inr (11, [.ref q4, .int 0, .int 1]))]) hD hS hA [0, 3] rfl
      refine va_calli (vx_runSW (As := [.ref q0, .int (xs 1), .int 1, .int (xs 3), .ref q106]) (rest := []) ⟨hx, hb, hml, hown, hts⟩ (c_L_tellWord_3 l hfl dC dI q0 q106 q1 q3 q5 q7 q9 q11 q13 q15 q17 q21 q25 q26 q27 q4 H.size (xs 1) (xs 3) hc1) (vx_cwSW 5 hts gL_law_L_tellWord rfl rfl rfl (by decide +kernel) ⟨Nat.le_of_ble_eq_true rfl, Nat.le_of_ble_eq_true rfl⟩) ⟨zB_blind, (zPre hPc hDc hKc hS hFc hZ hN)⟩ rfl rfl hl.1 rfl (lv_room (Nat.le_of_ble_eq_true rfl)) dL_law_659 ⟨Nat.le_of_ble_eq_true rfl, Nat.le_of_ble_eq_true rfl⟩) hS (fun q _ h => hFc q h) hFc (fun r u t H1 locs ht hvm hw hB hz1 hk1 hS => ?_)
      subst hw
      obtain ⟨hP1, hK1, hD1⟩ := hB
      rw [ht] at hP1
      have hK1 := va_K.moved hvm.symm hK1
      obtain ⟨hP, hD⟩ := va_join (wr := [(q86, .inr (15, [.ref q87, .ref q88, .ref q89, .ref q90, .ref q91, .ref q92, .int 0, .int 1, .ref q93, .int 0, .ref q94, .null, .ref q95, .null, .ref q96, .ref q97, .ref q98, .ref q99, .ref q100, .int 0, .ref q101, .ref q102, .ref q103, .ref q104, .ref q105, .int 0, .int 0]))]) (w1 := []) hP hD [0, 3] [13] rfl rfl (by decide) (by decide) hk1 hFc hP1 hD1
      have hK := (hK.sub (tys' := []) [] rfl).app hK1
      generalize H1 = H at hP hS ⊢
      have hP : va_P (dC, dI) vwCl [(q86, .inr (15, [.ref q87, .ref q88, .ref q89, .ref q90, .ref q91, .ref q92, .int 0, .int 1, .ref q93, .int 0, .ref q94, .null, .ref q95, .null, .ref q96, .ref q97, .ref q98, .ref q99, .ref q100, .int 0, .ref q101, .ref q102, .ref q103, .ref q104, .ref q105, .int 0, .int 0]))] H := hP
      have hD : va_D (fun q : Nat => s.heap.size ≤ q) [(q86, .inr (15, [.ref q87, .ref q88, .ref q89, .ref q90, .ref q91, .ref q92, .int 0, .int 1, .ref q93, .int 0, .ref q94, .null, .ref q95, .null, .ref q96, .ref q97, .ref q98, .ref q99, .ref q100, .int 0, .ref q101, .ref q102, .ref q103, .ref q104, .ref q105, .int 0, .int 0]))] := hD
      have hK : va_K (dC, dI) vwCl [] s := hK
      refine W.widen (k := 132) (n := 6698) (Nat.le_of_ble_eq_true rfl) (Nat.le_of_ble_eq_true rfl) ?_
      refine lv_istore (lv' := [(5, .int 1), (4, .int 0), (3, .ref q106), (2, .ref q86), (1, .ref q0), (0, .ref b)]) hx hb dL_law_662 hl (by decide) rfl (fun ls hl => ?_)
      refine lv_aload_n hx hb dL_law_664 rfl (lv_at hl 3 rfl) ?_
      refine lv_aload_n hx hb dL_law_665 rfl (lv_at hl 5 rfl) ?_
      refine lv_iload hx hb dL_law_666 (lv_at hl 1 rfl) ?_
      refine lv_iconst (v := 1) hx hb dL_law_668 (by decide +kernel) ?_
      refine lv_iadd hx hb dL_law_669 ?_
      refine zt_i (v := 1) (by decide +kernel) ?_
      refine va_sld hx hb hX hbl hbA hS (i := 1) (zin (by decide +kernel)) dL_law_670 ?_
      refine zt_v (w := .int (xs 1)) rfl ?_
      refine lv_aload_n hx hb dL_law_671 rfl (lv_at hl 5 rfl) ?_
      refine lv_iload hx hb dL_law_672 (lv_at hl 1 rfl) ?_
      refine lv_iconst (v := 2) hx hb dL_law_674 (by decide +kernel) ?_
      refine lv_iadd hx hb dL_law_675 ?_
      refine zt_i (v := 2) (by decide +kernel) ?_
      refine va_sld hx hb hX hbl hbA hS (i := 2) (zin (by decide +kernel)) dL_law_676 ?_
      refine zt_v (w := .int (xs 2)) rfl ?_
      refine lv_if_eq (tgt := 684) hx hb dL_law_677 (by decide) (fun h9 => absurd h9 hc0) (fun _ => ?_)
      refine lv_iconst (v := 1) hx hb dL_law_680 (by decide +kernel) ?_
      refine lv_goto (tgt := 685) hx hb dL_law_681 (by decide) ?_
      refine lv_aload_n hx hb dL_law_685 rfl (lv_at hl 5 rfl) ?_
      refine lv_iload hx hb dL_law_686 (lv_at hl 1 rfl) ?_
      refine lv_iconst (v := 3) hx hb dL_law_688 (by decide +kernel) ?_
      refine lv_iadd hx hb dL_law_689 ?_
      refine zt_i (v := 3) (by decide +kernel) ?_
      refine va_sld hx hb hX hbl hbA hS (i := 3) (zin (by decide +kernel)) dL_law_690 ?_
      refine zt_v (w := .int (xs 3)) rfl ?_
      have hPc := hP.sub (ws' := [(q86, .inr (15, [.ref q87, .ref q88, .ref q89, .ref q90, .ref q91, .ref q92, .int 0, .int 1, .ref q93, .int 0, .ref q94, .null, .ref q95, .null, .ref q96, .ref q97, .ref q98, .ref q99, .ref q100, .int 0, .ref q101, .ref q102, .ref q103, .ref q104, .ref q105, .int 0, .int 0]))]) [0] rfl
      have hDc := hD.sub (ws' := [(q86, .inr (15, [.ref q87, .ref q88, .ref q89, .ref q90, .ref q91, .ref q92, .int 0, .int 1, .ref q93, .int 0, .ref q94, .null, .ref q95, .null, .ref q96, .ref q97, .ref q98, .ref q99, .ref q100, .int 0, .ref q101, .ref q102, .ref q103, .ref q104, .ref q105, .int 0, .int 0]))]) [0] (by decide) rfl
      have hKc := hK.sub (tys' := []) [] rfl
      have hFc := va_free (wc := [(q86, .inr (15, [.ref q87, .ref q88, .ref q89, .ref q90, .ref q91, .ref q92, .int 0, .int 1, .ref q93, .int 0, .ref q94, .null, .ref q95, .null, .ref q96, .ref q97, .ref q98, .ref q99, .ref q100, .int 0, .ref q101, .ref q102, .ref q103, .ref q104, .ref q105, .int 0, .int 0]))]) hD hS hA [0] rfl
      refine va_calli (va_runV (As := [.int (xs 1), .int 1, .int (xs 3)]) (rest := []) ⟨hx, hb, hml, hown, hts⟩ (c_X13_tellWord_3 l dC dI q86 q87 q88 q89 q90 q91 q92 q93 q94 q95 q96 q97 q98 q99 q100 q101 q102 q103 q104 q105 H.size (xs 1) (xs 3) hc1) (cwV 3 hts gL_law_X13_tellWord rfl rfl rfl (by decide +kernel) ⟨Nat.le_of_ble_eq_true rfl, Nat.le_of_ble_eq_true rfl⟩) ⟨zB_blind, va_recv hK hP (ci := 15) (q0 := 0) rfl rfl, (zPre hPc hDc hKc hS hFc hZ hN)⟩ rfl rfl hl.1 rfl (lv_room (Nat.le_of_ble_eq_true rfl)) dL_law_691 ⟨Nat.le_of_ble_eq_true rfl, Nat.le_of_ble_eq_true rfl⟩) hS (fun q _ h => hFc q h) hFc (fun r u t H1 locs ht hvm hw hB hz1 hk1 hS => ?_)
      subst hw
      obtain ⟨hP1, hK1, hD1⟩ := hB
      rw [ht] at hP1
      have hK1 := va_K.moved hvm.symm hK1
      obtain ⟨hP, hD⟩ := va_join (wr := []) (w1 := [(q86, .inr (15, [.ref q87, .ref q88, .ref q89, .ref q90, .ref q91, .ref q92, .int 0, .int 1, .ref q93, .int 0, .ref q94, .null, .ref q95, .null, .ref q96, .ref q97, .ref q98, .ref q99, .ref q100, .int 1, .ref q101, .ref q102, .ref q103, .ref q104, .ref q105, .int 0, .int 0]))]) hP hD [0] [] rfl rfl (by decide) (by decide) hk1 hFc hP1 hD1
      have hK := (hK.sub (tys' := []) [] rfl).app hK1
      generalize H1 = H at hP hS ⊢
      have hP : va_P (dC, dI) vwCl [(q86, .inr (15, [.ref q87, .ref q88, .ref q89, .ref q90, .ref q91, .ref q92, .int 0, .int 1, .ref q93, .int 0, .ref q94, .null, .ref q95, .null, .ref q96, .ref q97, .ref q98, .ref q99, .ref q100, .int 1, .ref q101, .ref q102, .ref q103, .ref q104, .ref q105, .int 0, .int 0]))] H := hP
      have hD : va_D (fun q : Nat => s.heap.size ≤ q) [(q86, .inr (15, [.ref q87, .ref q88, .ref q89, .ref q90, .ref q91, .ref q92, .int 0, .int 1, .ref q93, .int 0, .ref q94, .null, .ref q95, .null, .ref q96, .ref q97, .ref q98, .ref q99, .ref q100, .int 1, .ref q101, .ref q102, .ref q103, .ref q104, .ref q105, .int 0, .int 0]))] := hD
      have hK : va_K (dC, dI) vwCl [] s := hK
      refine W.widen (k := 132) (n := 6698) (Nat.le_of_ble_eq_true rfl) (Nat.le_of_ble_eq_true rfl) ?_
      refine lv_istore (lv' := [(6, .int 0), (5, .int 1), (4, .int 0), (3, .ref q106), (2, .ref q86), (1, .ref q0), (0, .ref b)]) hx hb dL_law_694 hl (by decide) rfl (fun ls hl => ?_)
      refine lv_aload_n hx hb dL_law_696 rfl (lv_at hl 4 rfl) ?_
      have hPc := hP.sub (ws' := [(q86, .inr (15, [.ref q87, .ref q88, .ref q89, .ref q90, .ref q91, .ref q92, .int 0, .int 1, .ref q93, .int 0, .ref q94, .null, .ref q95, .null, .ref q96, .ref q97, .ref q98, .ref q99, .ref q100, .int 1, .ref q101, .ref q102, .ref q103, .ref q104, .ref q105, .int 0, .int 0]))]) [0] rfl
      have hDc := hD.sub (ws' := [(q86, .inr (15, [.ref q87, .ref q88, .ref q89, .ref q90, .ref q91, .ref q92, .int 0, .int 1, .ref q93, .int 0, .ref q94, .null, .ref q95, .null, .ref q96, .ref q97, .ref q98, .ref q99, .ref q100, .int 1, .ref q101, .ref q102, .ref q103, .ref q104, .ref q105, .int 0, .int 0]))]) [0] (by decide) rfl
      have hKc := hK.sub (tys' := []) [] rfl
      have hFc := va_free (wc := [(q86, .inr (15, [.ref q87, .ref q88, .ref q89, .ref q90, .ref q91, .ref q92, .int 0, .int 1, .ref q93, .int 0, .ref q94, .null, .ref q95, .null, .ref q96, .ref q97, .ref q98, .ref q99, .ref q100, .int 1, .ref q101, .ref q102, .ref q103, .ref q104, .ref q105, .int 0, .int 0]))]) hD hS hA [0] rfl
      refine va_calli (va_runV (As := []) (rest := []) ⟨hx, hb, hml, hown, hts⟩ (c_X13_thrown l dC dI q86 q87 q88 q89 q90 q91 q92 q93 q94 q95 q96 q97 q98 q99 q100 q101 q102 q103 q104 q105 H.size  ) (cwV 0 hts gL_law_X13_thrown rfl rfl rfl (by decide +kernel) ⟨Nat.le_of_ble_eq_true rfl, Nat.le_of_ble_eq_true rfl⟩) ⟨zB_blind, va_recv hK hP (ci := 15) (q0 := 0) rfl rfl, (zPre hPc hDc hKc hS hFc hZ hN)⟩ rfl rfl hl.1 rfl (lv_room (Nat.le_of_ble_eq_true rfl)) dL_law_697 ⟨Nat.le_of_ble_eq_true rfl, Nat.le_of_ble_eq_true rfl⟩) hS (fun q _ h => hFc q h) hFc (fun r u t H1 locs ht hvm hw hB hz1 hk1 hS => ?_)
      subst hw
      obtain ⟨hP1, hK1, hD1⟩ := hB
      rw [ht] at hP1
      have hK1 := va_K.moved hvm.symm hK1
      obtain ⟨hP, hD⟩ := va_join (wr := []) (w1 := []) hP hD [0] [] rfl rfl (by decide) (by decide) hk1 hFc hP1 hD1
      have hK := (hK.sub (tys' := []) [] rfl).app hK1
      generalize H1 = H at hP hS ⊢
      have hP : va_P (dC, dI) vwCl [] H := hP
      have hD : va_D (fun q : Nat => s.heap.size ≤ q) [] := hD
      have hK : va_K (dC, dI) vwCl [] s := hK
      refine W.widen (k := 132) (n := 6698) (Nat.le_of_ble_eq_true rfl) (Nat.le_of_ble_eq_true rfl) ?_
      refine lv_iload hx hb dL_law_700 (lv_at hl 1 rfl) ?_
      refine lv_icmp_eq (tgt := 707) hx hb dL_law_702 (by decide) (fun _ => ?_) (fun h9 => absurd (show (1 : Int32) = (1 : Int32) by decide +kernel) h9)
      refine lv_iload hx hb dL_law_707 (lv_at hl 1 rfl) ?_
      refine lv_if_ne (tgt := 724) hx hb dL_law_709 (by decide) (fun _ => ?_) (fun h9 => absurd h9 (show ¬ (1 : Int32) = (0 : Int32) by decide +kernel))
      refine lv_goto (tgt := 2311) hx hb dL_law_724 (by decide) ?_
      exact law_exit C0 hS (Nat.le_of_ble_eq_true rfl) (Nat.le_of_ble_eq_true rfl) ls (lv_sub hl [2, 3, 4, 5, 6] rfl)
    · skip
      have hc0 : ¬ (xs 2) = (0 : Int32) := hb0
      have hc1 : ¬ (xs 1) < (0 : Int32) := hb1
      have hc2 : (0 : Int32) ≤ (xs 1) := zd_4 hb1
      have hc3 : ((-1) : Int32) < (xs 1) := zd_3 hb1
      refine lv_aload_n hx hb dL_law_631 rfl (lv_at hl 3 rfl) ?_
      refine lv_aload_n hx hb dL_law_632 rfl (lv_at hl 4 rfl) ?_
      refine lv_iload hx hb dL_law_633 (lv_at hl 0 rfl) ?_
      refine lv_iconst (v := 1) hx hb dL_law_635 (by decide +kernel) ?_
      refine lv_iadd hx hb dL_law_636 ?_
      refine zt_i (v := 1) (by decide +kernel) ?_
      refine va_sld hx hb hX hbl hbA hS (i := 1) (zin (by decide +kernel)) dL_law_637 ?_
      refine zt_v (w := .int (xs 1)) rfl ?_
      refine lv_aload_n hx hb dL_law_638 rfl (lv_at hl 4 rfl) ?_
      refine lv_iload hx hb dL_law_639 (lv_at hl 0 rfl) ?_
      refine lv_iconst (v := 2) hx hb dL_law_641 (by decide +kernel) ?_
      refine lv_iadd hx hb dL_law_642 ?_
      refine zt_i (v := 2) (by decide +kernel) ?_
      refine va_sld hx hb hX hbl hbA hS (i := 2) (zin (by decide +kernel)) dL_law_643 ?_
      refine zt_v (w := .int (xs 2)) rfl ?_
      refine lv_if_eq (tgt := 651) hx hb dL_law_644 (by decide) (fun h9 => absurd h9 hc0) (fun _ => ?_)
      refine lv_iconst (v := 1) hx hb dL_law_647 (by decide +kernel) ?_
      refine lv_goto (tgt := 652) hx hb dL_law_648 (by decide) ?_
      refine lv_aload_n hx hb dL_law_652 rfl (lv_at hl 4 rfl) ?_
      refine lv_iload hx hb dL_law_653 (lv_at hl 0 rfl) ?_
      refine lv_iconst (v := 3) hx hb dL_law_655 (by decide +kernel) ?_
      refine lv_iadd hx hb dL_law_656 ?_
      refine zt_i (v := 3) (by decide +kernel) ?_
      refine va_sld hx hb hX hbl hbA hS (i := 3) (zin (by decide +kernel)) dL_law_657 ?_
      refine zt_v (w := .int (xs 3)) rfl ?_
      refine lv_aload_n hx hb dL_law_658 rfl (lv_at hl 1 rfl) ?_
      have hPc := hP.sub (ws' := [(q0, .inr (13, [.ref q1, .ref q3, .ref q5, .ref q7, .ref q9, .ref q11, .ref q13, .ref q15, .int 0, .ref q17, .ref q21, .ref q25, .ref q26, .ref q27])), (q3, .inr (11, [.ref q4, .int 0, .int 1]))]) [0, 3] rfl
      have hDc := hD.sub (ws' := [(q0, .inr (13, [.ref q1, .ref q3, .ref q5, .ref q7, .ref q9, .ref q11, .ref q13, .ref q15, .int 0, .ref q17, .ref q21, .ref q25, .ref q26, .ref q27])), (q3, .inr (11, [.ref q4, .int 0, .int 1]))]) [0, 3] (by decide) rfl
      have hKc := hK.sub (tys' := []) [] rfl
      have hFc := va_free (wc := [(q0, .inr (13, [.ref q1, .ref q3, .ref q5, .ref q7, .ref q9, .ref q11, .ref q13, .ref q15, .int 0, .ref q17, .ref q21, .ref q25, .ref q26, .ref q27])), (q3, .inr (11, [.ref q4, .int 0, .int 1]))]) hD hS hA [0, 3] rfl
      refine va_calli (vx_runSW (As := [.ref q0, .int (xs 1), .int 1, .int (xs 3), .ref q106]) (rest := []) ⟨hx, hb, hml, hown, hts⟩ (c_L_tellWord_4 l hfl dC dI q0 q106 q1 q3 q5 q7 q9 q11 q13 q15 q17 q21 q25 q26 q27 q4 H.size (xs 1) (xs 3) hc1 hc2) (vx_cwSW 5 hts gL_law_L_tellWord rfl rfl rfl (by decide +kernel) ⟨Nat.le_of_ble_eq_true rfl, Nat.le_of_ble_eq_true rfl⟩) ⟨zB_blind, (zPre hPc hDc hKc hS hFc hZ hN)⟩ rfl rfl hl.1 rfl (lv_room (Nat.le_of_ble_eq_true rfl)) dL_law_659 ⟨Nat.le_of_ble_eq_true rfl, Nat.le_of_ble_eq_true rfl⟩) hS (fun q _ h => hFc q h) hFc (fun r u t H1 locs ht hvm hw hB hz1 hk1 hS => ?_)
      subst hw
      obtain ⟨hP1, hK1, hD1⟩ := hB
      rw [ht] at hP1
      have hK1 := va_K.moved hvm.symm hK1
      obtain ⟨hP, hD⟩ := va_join (wr := [(q86, .inr (15, [.ref q87, .ref q88, .ref q89, .ref q90, .ref q91, .ref q92, .int 0, .int 1, .ref q93, .int 0, .ref q94, .null, .ref q95, .null, .ref q96, .ref q97, .ref q98, .ref q99, .ref q100, .int 0, .ref q101, .ref q102, .ref q103, .ref q104, .ref q105, .int 0, .int 0]))]) (w1 := []) hP hD [0, 3] [13] rfl rfl (by decide) (by decide) hk1 hFc hP1 hD1
      have hK := (hK.sub (tys' := []) [] rfl).app hK1
      generalize H1 = H at hP hS ⊢
      have hP : va_P (dC, dI) vwCl [(q86, .inr (15, [.ref q87, .ref q88, .ref q89, .ref q90, .ref q91, .ref q92, .int 0, .int 1, .ref q93, .int 0, .ref q94, .null, .ref q95, .null, .ref q96, .ref q97, .ref q98, .ref q99, .ref q100, .int 0, .ref q101, .ref q102, .ref q103, .ref q104, .ref q105, .int 0, .int 0]))] H := hP
      have hD : va_D (fun q : Nat => s.heap.size ≤ q) [(q86, .inr (15, [.ref q87, .ref q88, .ref q89, .ref q90, .ref q91, .ref q92, .int 0, .int 1, .ref q93, .int 0, .ref q94, .null, .ref q95, .null, .ref q96, .ref q97, .ref q98, .ref q99, .ref q100, .int 0, .ref q101, .ref q102, .ref q103, .ref q104, .ref q105, .int 0, .int 0]))] := hD
      have hK : va_K (dC, dI) vwCl [] s := hK
      refine W.widen (k := 132) (n := 6698) (Nat.le_of_ble_eq_true rfl) (Nat.le_of_ble_eq_true rfl) ?_
      refine lv_istore (lv' := [(5, .int 1), (4, .int 0), (3, .ref q106), (2, .ref q86), (1, .ref q0), (0, .ref b)]) hx hb dL_law_662 hl (by decide) rfl (fun ls hl => ?_)
      refine lv_aload_n hx hb dL_law_664 rfl (lv_at hl 3 rfl) ?_
      refine lv_aload_n hx hb dL_law_665 rfl (lv_at hl 5 rfl) ?_
      refine lv_iload hx hb dL_law_666 (lv_at hl 1 rfl) ?_
      refine lv_iconst (v := 1) hx hb dL_law_668 (by decide +kernel) ?_
      refine lv_iadd hx hb dL_law_669 ?_
      refine zt_i (v := 1) (by decide +kernel) ?_
      refine va_sld hx hb hX hbl hbA hS (i := 1) (zin (by decide +kernel)) dL_law_670 ?_
      refine zt_v (w := .int (xs 1)) rfl ?_
      refine lv_aload_n hx hb dL_law_671 rfl (lv_at hl 5 rfl) ?_
      refine lv_iload hx hb dL_law_672 (lv_at hl 1 rfl) ?_
      refine lv_iconst (v := 2) hx hb dL_law_674 (by decide +kernel) ?_
      refine lv_iadd hx hb dL_law_675 ?_
      refine zt_i (v := 2) (by decide +kernel) ?_
      refine va_sld hx hb hX hbl hbA hS (i := 2) (zin (by decide +kernel)) dL_law_676 ?_
      refine zt_v (w := .int (xs 2)) rfl ?_
      refine lv_if_eq (tgt := 684) hx hb dL_law_677 (by decide) (fun h9 => absurd h9 hc0) (fun _ => ?_)
      refine lv_iconst (v := 1) hx hb dL_law_680 (by decide +kernel) ?_
      refine lv_goto (tgt := 685) hx hb dL_law_681 (by decide) ?_
      refine lv_aload_n hx hb dL_law_685 rfl (lv_at hl 5 rfl) ?_
      refine lv_iload hx hb dL_law_686 (lv_at hl 1 rfl) ?_
      refine lv_iconst (v := 3) hx hb dL_law_688 (by decide +kernel) ?_
      refine lv_iadd hx hb dL_law_689 ?_
      refine zt_i (v := 3) (by decide +kernel) ?_
      refine va_sld hx hb hX hbl hbA hS (i := 3) (zin (by decide +kernel)) dL_law_690 ?_
      refine zt_v (w := .int (xs 3)) rfl ?_
      have hPc := hP.sub (ws' := [(q86, .inr (15, [.ref q87, .ref q88, .ref q89, .ref q90, .ref q91, .ref q92, .int 0, .int 1, .ref q93, .int 0, .ref q94, .null, .ref q95, .null, .ref q96, .ref q97, .ref q98, .ref q99, .ref q100, .int 0, .ref q101, .ref q102, .ref q103, .ref q104, .ref q105, .int 0, .int 0]))]) [0] rfl
      have hDc := hD.sub (ws' := [(q86, .inr (15, [.ref q87, .ref q88, .ref q89, .ref q90, .ref q91, .ref q92, .int 0, .int 1, .ref q93, .int 0, .ref q94, .null, .ref q95, .null, .ref q96, .ref q97, .ref q98, .ref q99, .ref q100, .int 0, .ref q101, .ref q102, .ref q103, .ref q104, .ref q105, .int 0, .int 0]))]) [0] (by decide) rfl
      have hKc := hK.sub (tys' := []) [] rfl
      have hFc := va_free (wc := [(q86, .inr (15, [.ref q87, .ref q88, .ref q89, .ref q90, .ref q91, .ref q92, .int 0, .int 1, .ref q93, .int 0, .ref q94, .null, .ref q95, .null, .ref q96, .ref q97, .ref q98, .ref q99, .ref q100, .int 0, .ref q101, .ref q102, .ref q103, .ref q104, .ref q105, .int 0, .int 0]))]) hD hS hA [0] rfl
      refine va_calli (va_runV (As := [.int (xs 1), .int 1, .int (xs 3)]) (rest := []) ⟨hx, hb, hml, hown, hts⟩ (c_X13_tellWord_4 l dC dI q86 q87 q88 q89 q90 q91 q92 q93 q94 q95 q96 q97 q98 q99 q100 q101 q102 q103 q104 q105 H.size (xs 1) (xs 3) hc1 hc3) (cwV 3 hts gL_law_X13_tellWord rfl rfl rfl (by decide +kernel) ⟨Nat.le_of_ble_eq_true rfl, Nat.le_of_ble_eq_true rfl⟩) ⟨zB_blind, va_recv hK hP (ci := 15) (q0 := 0) rfl rfl, (zPre hPc hDc hKc hS hFc hZ hN)⟩ rfl rfl hl.1 rfl (lv_room (Nat.le_of_ble_eq_true rfl)) dL_law_691 ⟨Nat.le_of_ble_eq_true rfl, Nat.le_of_ble_eq_true rfl⟩) hS (fun q _ h => hFc q h) hFc (fun r u t H1 locs ht hvm hw hB hz1 hk1 hS => ?_)
      subst hw
      obtain ⟨hP1, hK1, hD1⟩ := hB
      rw [ht] at hP1
      have hK1 := va_K.moved hvm.symm hK1
      obtain ⟨hP, hD⟩ := va_join (wr := []) (w1 := [(q86, .inr (15, [.ref q87, .ref q88, .ref q89, .ref q90, .ref q91, .ref q92, .int 0, .int 1, .ref q93, .int 0, .ref q94, .null, .ref q95, .null, .ref q96, .ref q97, .ref q98, .ref q99, .ref q100, .int 1, .ref q101, .ref q102, .ref q103, .ref q104, .ref q105, .int 0, .int 0]))]) hP hD [0] [] rfl rfl (by decide) (by decide) hk1 hFc hP1 hD1
      have hK := (hK.sub (tys' := []) [] rfl).app hK1
      generalize H1 = H at hP hS ⊢
      have hP : va_P (dC, dI) vwCl [(q86, .inr (15, [.ref q87, .ref q88, .ref q89, .ref q90, .ref q91, .ref q92, .int 0, .int 1, .ref q93, .int 0, .ref q94, .null, .ref q95, .null, .ref q96, .ref q97, .ref q98, .ref q99, .ref q100, .int 1, .ref q101, .ref q102, .ref q103, .ref q104, .ref q105, .int 0, .int 0]))] H := hP
      have hD : va_D (fun q : Nat => s.heap.size ≤ q) [(q86, .inr (15, [.ref q87, .ref q88, .ref q89, .ref q90, .ref q91, .ref q92, .int 0, .int 1, .ref q93, .int 0, .ref q94, .null, .ref q95, .null, .ref q96, .ref q97, .ref q98, .ref q99, .ref q100, .int 1, .ref q101, .ref q102, .ref q103, .ref q104, .ref q105, .int 0, .int 0]))] := hD
      have hK : va_K (dC, dI) vwCl [] s := hK
      refine W.widen (k := 132) (n := 6698) (Nat.le_of_ble_eq_true rfl) (Nat.le_of_ble_eq_true rfl) ?_
      refine lv_istore (lv' := [(6, .int 0), (5, .int 1), (4, .int 0), (3, .ref q106), (2, .ref q86), (1, .ref q0), (0, .ref b)]) hx hb dL_law_694 hl (by decide) rfl (fun ls hl => ?_)
      refine lv_aload_n hx hb dL_law_696 rfl (lv_at hl 4 rfl) ?_
      have hPc := hP.sub (ws' := [(q86, .inr (15, [.ref q87, .ref q88, .ref q89, .ref q90, .ref q91, .ref q92, .int 0, .int 1, .ref q93, .int 0, .ref q94, .null, .ref q95, .null, .ref q96, .ref q97, .ref q98, .ref q99, .ref q100, .int 1, .ref q101, .ref q102, .ref q103, .ref q104, .ref q105, .int 0, .int 0]))]) [0] rfl
      have hDc := hD.sub (ws' := [(q86, .inr (15, [.ref q87, .ref q88, .ref q89, .ref q90, .ref q91, .ref q92, .int 0, .int 1, .ref q93, .int 0, .ref q94, .null, .ref q95, .null, .ref q96, .ref q97, .ref q98, .ref q99, .ref q100, .int 1, .ref q101, .ref q102, .ref q103, .ref q104, .ref q105, .int 0, .int 0]))]) [0] (by decide) rfl
      have hKc := hK.sub (tys' := []) [] rfl
      have hFc := va_free (wc := [(q86, .inr (15, [.ref q87, .ref q88, .ref q89, .ref q90, .ref q91, .ref q92, .int 0, .int 1, .ref q93, .int 0, .ref q94, .null, .ref q95, .null, .ref q96, .ref q97, .ref q98, .ref q99, .ref q100, .int 1, .ref q101, .ref q102, .ref q103, .ref q104, .ref q105, .int 0, .int 0]))]) hD hS hA [0] rfl
      refine va_calli (va_runV (As := []) (rest := []) ⟨hx, hb, hml, hown, hts⟩ (c_X13_thrown l dC dI q86 q87 q88 q89 q90 q91 q92 q93 q94 q95 q96 q97 q98 q99 q100 q101 q102 q103 q104 q105 H.size  ) (cwV 0 hts gL_law_X13_thrown rfl rfl rfl (by decide +kernel) ⟨Nat.le_of_ble_eq_true rfl, Nat.le_of_ble_eq_true rfl⟩) ⟨zB_blind, va_recv hK hP (ci := 15) (q0 := 0) rfl rfl, (zPre hPc hDc hKc hS hFc hZ hN)⟩ rfl rfl hl.1 rfl (lv_room (Nat.le_of_ble_eq_true rfl)) dL_law_697 ⟨Nat.le_of_ble_eq_true rfl, Nat.le_of_ble_eq_true rfl⟩) hS (fun q _ h => hFc q h) hFc (fun r u t H1 locs ht hvm hw hB hz1 hk1 hS => ?_)
      subst hw
      obtain ⟨hP1, hK1, hD1⟩ := hB
      rw [ht] at hP1
      have hK1 := va_K.moved hvm.symm hK1
      obtain ⟨hP, hD⟩ := va_join (wr := []) (w1 := []) hP hD [0] [] rfl rfl (by decide) (by decide) hk1 hFc hP1 hD1
      have hK := (hK.sub (tys' := []) [] rfl).app hK1
      generalize H1 = H at hP hS ⊢
      have hP : va_P (dC, dI) vwCl [] H := hP
      have hD : va_D (fun q : Nat => s.heap.size ≤ q) [] := hD
      have hK : va_K (dC, dI) vwCl [] s := hK
      refine W.widen (k := 132) (n := 6698) (Nat.le_of_ble_eq_true rfl) (Nat.le_of_ble_eq_true rfl) ?_
      refine lv_iload hx hb dL_law_700 (lv_at hl 1 rfl) ?_
      refine lv_icmp_eq (tgt := 707) hx hb dL_law_702 (by decide) (fun _ => ?_) (fun h9 => absurd (show (1 : Int32) = (1 : Int32) by decide +kernel) h9)
      refine lv_iload hx hb dL_law_707 (lv_at hl 1 rfl) ?_
      refine lv_if_ne (tgt := 724) hx hb dL_law_709 (by decide) (fun _ => ?_) (fun h9 => absurd h9 (show ¬ (1 : Int32) = (0 : Int32) by decide +kernel))
      refine lv_goto (tgt := 2311) hx hb dL_law_724 (by decide) ?_
      exact law_exit C0 hS (Nat.le_of_ble_eq_true rfl) (Nat.le_of_ble_eq_true rfl) ls (lv_sub hl [2, 3, 4, 5, 6] rfl)
set_option maxHeartbeats 8000000 in
set_option maxRecDepth 100000 in
theorem law_case_10 {p : Program} {l : Launch} {e : Env} {s : State} {m : MethodId} {below : List Frame} {meth : Method} {c : Code} {b : Nat} {xs : Nat → Int32} (hfl : l.stackTraces = false) (C0 : lw_At p s m meth c b 4 xs) {dC : Nat → ClassId} {dI : Nat → Nat → Nat} {q0 q1 q3 q5 q7 q9 q11 q13 q15 q17 q21 q25 q26 q27 q2 q4 q6 q8 q10 q16 q18 q22 q23 q86 q87 q88 q89 q90 q91 q92 q93 q94 q95 q96 q97 q98 q99 q100 q101 q102 q103 q104 q105 q106 : Nat} {k2 k4 k87 k88 k89 k90 k91 k92 k93 k94 k96 k106 : ClassId} {H : Heap} {locs : List Loc} (hK : va_K (dC, dI) vwCl [(k2, .char), (k4, (.object "Seekwell$Text")), (k87, .boolean), (k88, .int), (k89, .int), (k90, .char), (k91, (.array .long)), (k92, (.array .long)), (k93, .int), (k94, .int), (k96, .boolean), (k106, .long)] s) (hP : va_P (dC, dI) vwCl [(q0, .inr (13, [.ref q1, .ref q3, .ref q5, .ref q7, .ref q9, .ref q11, .ref q13, .ref q15, .int 0, .ref q17, .ref q21, .ref q25, .ref q26, .ref q27])), (q1, .inr (7, [.ref q2, .int 0])), (q2, .inl (k2, 512, .inl (fun _ => 0))), (q3, .inr (11, [.ref q4, .int 0, .int 1])), (q4, .inl (k4, 24, .inr (.inr (.inr (.inr (fun _ => none)))))), (q5, .inr (11, [.ref q6, .int 0, .int 1])), (q7, .inr (10, [.ref q8, .int 0])), (q9, .inr (5, [.ref q10, .int 0, .int 0])), (q15, .inr (5, [.ref q16, .int 0, .int 0])), (q17, .inr (9, [.ref q18, .ref q18, .null])), (q21, .inr (9, [.ref q22, .ref q22, .null])), (q22, .inr (8, [.int 0, .int 0, .int 1, .int 0, .int 0, .int 0, .ref q23, .null, .null, .null, .null, .int 0, .int 0, .int 0, .int 0, .null, .null])), (q26, .inr (3, [.null, .null, .int 0, .int 0, .null])), (q86, .inr (15, [.ref q87, .ref q88, .ref q89, .ref q90, .ref q91, .ref q92, .int 0, .int 1, .ref q93, .int 0, .ref q94, .null, .ref q95, .null, .ref q96, .ref q97, .ref q98, .ref q99, .ref q100, .int 0, .ref q101, .ref q102, .ref q103, .ref q104, .ref q105, .int 0, .int 0])), (q87, .inl (k87, 24, .inl (fun _ => 0))), (q88, .inl (k88, 24, .inl (fun _ => 0))), (q89, .inl (k89, 24, .inl (fun _ => 0))), (q90, .inl (k90, 24, .inl (fun _ => 0))), (q91, .inl (k91, 24, .inr (.inr (.inr (.inr (fun _ => none)))))), (q92, .inl (k92, 24, .inr (.inr (.inr (.inr (fun _ => none)))))), (q93, .inl (k93, 4000, .inl (fun _ => 0))), (q94, .inl (k94, 0, .inl (fun _ => 0))), (q96, .inl (k96, 24, .inl (fun _ => 0))), (q106, .inl (k106, 1, .inr (.inl (fun _ => 0))))] H) (hD : va_D (fun q : Nat => s.heap.size ≤ q) [(q0, .inr (13, [.ref q1, .ref q3, .ref q5, .ref q7, .ref q9, .ref q11, .ref q13, .ref q15, .int 0, .ref q17, .ref q21, .ref q25, .ref q26, .ref q27])), (q1, .inr (7, [.ref q2, .int 0])), (q2, .inl (k2, 512, .inl (fun _ => 0))), (q3, .inr (11, [.ref q4, .int 0, .int 1])), (q4, .inl (k4, 24, .inr (.inr (.inr (.inr (fun _ => none)))))), (q5, .inr (11, [.ref q6, .int 0, .int 1])), (q7, .inr (10, [.ref q8, .int 0])), (q9, .inr (5, [.ref q10, .int 0, .int 0])), (q15, .inr (5, [.ref q16, .int 0, .int 0])), (q17, .inr (9, [.ref q18, .ref q18, .null])), (q21, .inr (9, [.ref q22, .ref q22, .null])), (q22, .inr (8, [.int 0, .int 0, .int 1, .int 0, .int 0, .int 0, .ref q23, .null, .null, .null, .null, .int 0, .int 0, .int 0, .int 0, .null, .null])), (q26, .inr (3, [.null, .null, .int 0, .int 0, .null])), (q86, .inr (15, [.ref q87, .ref q88, .ref q89, .ref q90, .ref q91, .ref q92, .int 0, .int 1, .ref q93, .int 0, .ref q94, .null, .ref q95, .null, .ref q96, .ref q97, .ref q98, .ref q99, .ref q100, .int 0, .ref q101, .ref q102, .ref q103, .ref q104, .ref q105, .int 0, .int 0])), (q87, .inl (k87, 24, .inl (fun _ => 0))), (q88, .inl (k88, 24, .inl (fun _ => 0))), (q89, .inl (k89, 24, .inl (fun _ => 0))), (q90, .inl (k90, 24, .inl (fun _ => 0))), (q91, .inl (k91, 24, .inr (.inr (.inr (.inr (fun _ => none)))))), (q92, .inl (k92, 24, .inr (.inr (.inr (.inr (fun _ => none)))))), (q93, .inl (k93, 4000, .inl (fun _ => 0))), (q94, .inl (k94, 0, .inl (fun _ => 0))), (q96, .inl (k96, 24, .inl (fun _ => 0))), (q106, .inl (k106, 1, .inr (.inl (fun _ => 0))))]) (hS : va_S (fun q : Nat => s.heap.size ≤ q) s.heap H locs) (hZ : zZ (fun q : Nat => s.heap.size ≤ q) s s.heap) (hN : zN s) (ls : Array Slot) (hl : lv_has ls 7 [(4, .int 0), (3, .ref q106), (2, .ref q86), (1, .ref q0), (0, .ref b)]) : W p l e room_1 s m #[Value.ref b] below meth c H locs 131 6692 (lw_Z below #[Value.ref b] s) (F0 m 727 ls []) := by
  obtain ⟨hx, hb, hr, hml, hown, hts, hX, hbl, hlocks, hgv⟩ := id C0
  have hbA : ¬ (fun q : Nat => s.heap.size ≤ q) b := Nat.not_le.mpr hbl
  have hA : ∀ q : Nat, s.heap.size ≤ q → (fun q : Nat => s.heap.size ≤ q) q := fun _ h => h
  by_cases hb0 : (xs 1) < (0 : Int32)
  · skip
    have hc0 : (xs 1) < (0 : Int32) := hb0
    refine lv_aload_n hx hb dL_law_727 rfl (lv_at hl 3 rfl) ?_
    refine lv_aload_n hx hb dL_law_728 rfl (lv_at hl 4 rfl) ?_
    refine lv_iload hx hb dL_law_729 (lv_at hl 0 rfl) ?_
    refine lv_iconst (v := 1) hx hb dL_law_731 (by decide +kernel) ?_
    refine lv_iadd hx hb dL_law_732 ?_
    refine zt_i (v := 1) (by decide +kernel) ?_
    refine va_sld hx hb hX hbl hbA hS (i := 1) (zin (by decide +kernel)) dL_law_733 ?_
    refine zt_v (w := .int (xs 1)) rfl ?_
    refine lv_aload_n hx hb dL_law_734 rfl (lv_at hl 1 rfl) ?_
    have hPc := hP.sub (ws' := [(q0, .inr (13, [.ref q1, .ref q3, .ref q5, .ref q7, .ref q9, .ref q11, .ref q13, .ref q15, .int 0, .ref q17, .ref q21, .ref q25, .ref q26, .ref q27])), (q3, .inr (11, [.ref q4, .int 0, .int 1]))]) [0, 3] rfl
    have hDc := hD.sub (ws' := [(q0, .inr (13, [.ref q1, .ref q3, .ref q5, .ref q7, .ref q9, .ref q11, .ref q13, .ref q15, .int 0, .ref q17, .ref q21, .ref q25, .ref q26, .ref q27])), (q3, .inr (11, [.ref q4, .int 0, .int 1]))]) [0, 3] (by decide) rfl
    have hKc := hK.sub (tys' := []) [] rfl
    have hFc := va_free (wc := [(q0, .inr (13, [.ref q1, .ref q3, .ref q5, .ref q7, .ref q9, .ref q11, .ref q13, .ref q15, .int 0, .ref q17, .ref q21, .ref q25, .ref q26, .ref q27])), (q3, .inr (11, [.ref q4, .int 0, .int 1]))]) hD hS hA [0, 3] rfl
    refine va_calli (vx_runSW (As := [.ref q0, .int (xs 1), .ref q106]) (rest := []) ⟨hx, hb, hml, hown, hts⟩ (c_L_value l hfl dC dI q0 q106 q1 q3 q5 q7 q9 q11 q13 q15 q17 q21 q25 q26 q27 q4 H.size (xs 1) hc0) (vx_cwSW 3 hts gL_law_L_value rfl rfl rfl (by decide +kernel) ⟨Nat.le_of_ble_eq_true rfl, Nat.le_of_ble_eq_true rfl⟩) ⟨zB_blind, (zPre hPc hDc hKc hS hFc hZ hN)⟩ rfl rfl hl.1 rfl (lv_room (Nat.le_of_ble_eq_true rfl)) dL_law_735 ⟨Nat.le_of_ble_eq_true rfl, Nat.le_of_ble_eq_true rfl⟩) hS (fun q _ h => hFc q h) hFc (fun r u t H1 locs ht hvm hw hB hz1 hk1 hS => ?_)
    subst hw
    obtain ⟨hP1, hK1, hD1⟩ := hB
    rw [ht] at hP1
    have hK1 := va_K.moved hvm.symm hK1
    obtain ⟨hP, hD⟩ := va_join (wr := [(q86, .inr (15, [.ref q87, .ref q88, .ref q89, .ref q90, .ref q91, .ref q92, .int 0, .int 1, .ref q93, .int 0, .ref q94, .null, .ref q95, .null, .ref q96, .ref q97, .ref q98, .ref q99, .ref q100, .int 0, .ref q101, .ref q102, .ref q103, .ref q104, .ref q105, .int 0, .int 0]))]) (w1 := []) hP hD [0, 3] [13] rfl rfl (by decide) (by decide) hk1 hFc hP1 hD1
    have hK := (hK.sub (tys' := []) [] rfl).app hK1
    generalize H1 = H at hP hS ⊢
    have hP : va_P (dC, dI) vwCl [(q86, .inr (15, [.ref q87, .ref q88, .ref q89, .ref q90, .ref q91, .ref q92, .int 0, .int 1, .ref q93, .int 0, .ref q94, .null, .ref q95, .null, .ref q96, .ref q97, .ref q98, .ref q99, .ref q100, .int 0, .ref q101, .ref q102, .ref q103, .ref q104, .ref q105, .int 0, .int 0]))] H := hP
    have hD : va_D (fun q : Nat => s.heap.size ≤ q) [(q86, .inr (15, [.ref q87, .ref q88, .ref q89, .ref q90, .ref q91, .ref q92, .int 0, .int 1, .ref q93, .int 0, .ref q94, .null, .ref q95, .null, .ref q96, .ref q97, .ref q98, .ref q99, .ref q100, .int 0, .ref q101, .ref q102, .ref q103, .ref q104, .ref q105, .int 0, .int 0]))] := hD
    have hK : va_K (dC, dI) vwCl [] s := hK
    refine W.widen (k := 132) (n := 6698) (Nat.le_of_ble_eq_true rfl) (Nat.le_of_ble_eq_true rfl) ?_
    refine lv_istore (lv' := [(5, .int 1), (4, .int 0), (3, .ref q106), (2, .ref q86), (1, .ref q0), (0, .ref b)]) hx hb dL_law_738 hl (by decide) rfl (fun ls hl => ?_)
    refine lv_aload_n hx hb dL_law_740 rfl (lv_at hl 3 rfl) ?_
    refine lv_aload_n hx hb dL_law_741 rfl (lv_at hl 5 rfl) ?_
    refine lv_iload hx hb dL_law_742 (lv_at hl 1 rfl) ?_
    refine lv_iconst (v := 1) hx hb dL_law_744 (by decide +kernel) ?_
    refine lv_iadd hx hb dL_law_745 ?_
    refine zt_i (v := 1) (by decide +kernel) ?_
    refine va_sld hx hb hX hbl hbA hS (i := 1) (zin (by decide +kernel)) dL_law_746 ?_
    refine zt_v (w := .int (xs 1)) rfl ?_
    have hPc := hP.sub (ws' := [(q86, .inr (15, [.ref q87, .ref q88, .ref q89, .ref q90, .ref q91, .ref q92, .int 0, .int 1, .ref q93, .int 0, .ref q94, .null, .ref q95, .null, .ref q96, .ref q97, .ref q98, .ref q99, .ref q100, .int 0, .ref q101, .ref q102, .ref q103, .ref q104, .ref q105, .int 0, .int 0]))]) [0] rfl
    have hDc := hD.sub (ws' := [(q86, .inr (15, [.ref q87, .ref q88, .ref q89, .ref q90, .ref q91, .ref q92, .int 0, .int 1, .ref q93, .int 0, .ref q94, .null, .ref q95, .null, .ref q96, .ref q97, .ref q98, .ref q99, .ref q100, .int 0, .ref q101, .ref q102, .ref q103, .ref q104, .ref q105, .int 0, .int 0]))]) [0] (by decide) rfl
    have hKc := hK.sub (tys' := []) [] rfl
    have hFc := va_free (wc := [(q86, .inr (15, [.ref q87, .ref q88, .ref q89, .ref q90, .ref q91, .ref q92, .int 0, .int 1, .ref q93, .int 0, .ref q94, .null, .ref q95, .null, .ref q96, .ref q97, .ref q98, .ref q99, .ref q100, .int 0, .ref q101, .ref q102, .ref q103, .ref q104, .ref q105, .int 0, .int 0]))]) hD hS hA [0] rfl
    refine va_calli (va_runV (As := [.int (xs 1)]) (rest := []) ⟨hx, hb, hml, hown, hts⟩ (c_X13_value l dC dI q86 q87 q88 q89 q90 q91 q92 q93 q94 q95 q96 q97 q98 q99 q100 q101 q102 q103 q104 q105 H.size (xs 1) hc0) (cwV 1 hts gL_law_X13_value rfl rfl rfl (by decide +kernel) ⟨Nat.le_of_ble_eq_true rfl, Nat.le_of_ble_eq_true rfl⟩) ⟨zB_blind, va_recv hK hP (ci := 15) (q0 := 0) rfl rfl, (zPre hPc hDc hKc hS hFc hZ hN)⟩ rfl rfl hl.1 rfl (lv_room (Nat.le_of_ble_eq_true rfl)) dL_law_747 ⟨Nat.le_of_ble_eq_true rfl, Nat.le_of_ble_eq_true rfl⟩) hS (fun q _ h => hFc q h) hFc (fun r u t H1 locs ht hvm hw hB hz1 hk1 hS => ?_)
    subst hw
    obtain ⟨hP1, hK1, hD1⟩ := hB
    rw [ht] at hP1
    have hK1 := va_K.moved hvm.symm hK1
    obtain ⟨hP, hD⟩ := va_join (wr := []) (w1 := [(q86, .inr (15, [.ref q87, .ref q88, .ref q89, .ref q90, .ref q91, .ref q92, .int 0, .int 1, .ref q93, .int 0, .ref q94, .null, .ref q95, .null, .ref q96, .ref q97, .ref q98, .ref q99, .ref q100, .int 1, .ref q101, .ref q102, .ref q103, .ref q104, .ref q105, .int 0, .int 0]))]) hP hD [0] [] rfl rfl (by decide) (by decide) hk1 hFc hP1 hD1
    have hK := (hK.sub (tys' := []) [] rfl).app hK1
    generalize H1 = H at hP hS ⊢
    have hP : va_P (dC, dI) vwCl [(q86, .inr (15, [.ref q87, .ref q88, .ref q89, .ref q90, .ref q91, .ref q92, .int 0, .int 1, .ref q93, .int 0, .ref q94, .null, .ref q95, .null, .ref q96, .ref q97, .ref q98, .ref q99, .ref q100, .int 1, .ref q101, .ref q102, .ref q103, .ref q104, .ref q105, .int 0, .int 0]))] H := hP
    have hD : va_D (fun q : Nat => s.heap.size ≤ q) [(q86, .inr (15, [.ref q87, .ref q88, .ref q89, .ref q90, .ref q91, .ref q92, .int 0, .int 1, .ref q93, .int 0, .ref q94, .null, .ref q95, .null, .ref q96, .ref q97, .ref q98, .ref q99, .ref q100, .int 1, .ref q101, .ref q102, .ref q103, .ref q104, .ref q105, .int 0, .int 0]))] := hD
    have hK : va_K (dC, dI) vwCl [] s := hK
    refine W.widen (k := 132) (n := 6698) (Nat.le_of_ble_eq_true rfl) (Nat.le_of_ble_eq_true rfl) ?_
    refine lv_istore (lv' := [(6, .int 0), (5, .int 1), (4, .int 0), (3, .ref q106), (2, .ref q86), (1, .ref q0), (0, .ref b)]) hx hb dL_law_750 hl (by decide) rfl (fun ls hl => ?_)
    refine lv_aload_n hx hb dL_law_752 rfl (lv_at hl 4 rfl) ?_
    have hPc := hP.sub (ws' := [(q86, .inr (15, [.ref q87, .ref q88, .ref q89, .ref q90, .ref q91, .ref q92, .int 0, .int 1, .ref q93, .int 0, .ref q94, .null, .ref q95, .null, .ref q96, .ref q97, .ref q98, .ref q99, .ref q100, .int 1, .ref q101, .ref q102, .ref q103, .ref q104, .ref q105, .int 0, .int 0]))]) [0] rfl
    have hDc := hD.sub (ws' := [(q86, .inr (15, [.ref q87, .ref q88, .ref q89, .ref q90, .ref q91, .ref q92, .int 0, .int 1, .ref q93, .int 0, .ref q94, .null, .ref q95, .null, .ref q96, .ref q97, .ref q98, .ref q99, .ref q100, .int 1, .ref q101, .ref q102, .ref q103, .ref q104, .ref q105, .int 0, .int 0]))]) [0] (by decide) rfl
    have hKc := hK.sub (tys' := []) [] rfl
    have hFc := va_free (wc := [(q86, .inr (15, [.ref q87, .ref q88, .ref q89, .ref q90, .ref q91, .ref q92, .int 0, .int 1, .ref q93, .int 0, .ref q94, .null, .ref q95, .null, .ref q96, .ref q97, .ref q98, .ref q99, .ref q100, .int 1, .ref q101, .ref q102, .ref q103, .ref q104, .ref q105, .int 0, .int 0]))]) hD hS hA [0] rfl
    refine va_calli (va_runV (As := []) (rest := []) ⟨hx, hb, hml, hown, hts⟩ (c_X13_thrown l dC dI q86 q87 q88 q89 q90 q91 q92 q93 q94 q95 q96 q97 q98 q99 q100 q101 q102 q103 q104 q105 H.size  ) (cwV 0 hts gL_law_X13_thrown rfl rfl rfl (by decide +kernel) ⟨Nat.le_of_ble_eq_true rfl, Nat.le_of_ble_eq_true rfl⟩) ⟨zB_blind, va_recv hK hP (ci := 15) (q0 := 0) rfl rfl, (zPre hPc hDc hKc hS hFc hZ hN)⟩ rfl rfl hl.1 rfl (lv_room (Nat.le_of_ble_eq_true rfl)) dL_law_753 ⟨Nat.le_of_ble_eq_true rfl, Nat.le_of_ble_eq_true rfl⟩) hS (fun q _ h => hFc q h) hFc (fun r u t H1 locs ht hvm hw hB hz1 hk1 hS => ?_)
    subst hw
    obtain ⟨hP1, hK1, hD1⟩ := hB
    rw [ht] at hP1
    have hK1 := va_K.moved hvm.symm hK1
    obtain ⟨hP, hD⟩ := va_join (wr := []) (w1 := []) hP hD [0] [] rfl rfl (by decide) (by decide) hk1 hFc hP1 hD1
    have hK := (hK.sub (tys' := []) [] rfl).app hK1
    generalize H1 = H at hP hS ⊢
    have hP : va_P (dC, dI) vwCl [] H := hP
    have hD : va_D (fun q : Nat => s.heap.size ≤ q) [] := hD
    have hK : va_K (dC, dI) vwCl [] s := hK
    refine W.widen (k := 132) (n := 6698) (Nat.le_of_ble_eq_true rfl) (Nat.le_of_ble_eq_true rfl) ?_
    refine lv_iload hx hb dL_law_756 (lv_at hl 1 rfl) ?_
    refine lv_icmp_eq (tgt := 763) hx hb dL_law_758 (by decide) (fun _ => ?_) (fun h9 => absurd (show (1 : Int32) = (1 : Int32) by decide +kernel) h9)
    refine lv_iload hx hb dL_law_763 (lv_at hl 1 rfl) ?_
    refine lv_if_ne (tgt := 780) hx hb dL_law_765 (by decide) (fun _ => ?_) (fun h9 => absurd h9 (show ¬ (1 : Int32) = (0 : Int32) by decide +kernel))
    refine lv_goto (tgt := 2311) hx hb dL_law_780 (by decide) ?_
    exact law_exit C0 hS (Nat.le_of_ble_eq_true rfl) (Nat.le_of_ble_eq_true rfl) ls (lv_sub hl [2, 3, 4, 5, 6] rfl)
  · skip
    have hc0 : ¬ (xs 1) < (0 : Int32) := hb0
    have hc1 : (0 : Int32) ≤ (xs 1) := zd_4 hb0
    have hc2 : ((-1) : Int32) < (xs 1) := zd_3 hb0
    refine lv_aload_n hx hb dL_law_727 rfl (lv_at hl 3 rfl) ?_
    refine lv_aload_n hx hb dL_law_728 rfl (lv_at hl 4 rfl) ?_
    refine lv_iload hx hb dL_law_729 (lv_at hl 0 rfl) ?_
    refine lv_iconst (v := 1) hx hb dL_law_731 (by decide +kernel) ?_
    refine lv_iadd hx hb dL_law_732 ?_
    refine zt_i (v := 1) (by decide +kernel) ?_
    refine va_sld hx hb hX hbl hbA hS (i := 1) (zin (by decide +kernel)) dL_law_733 ?_
    refine zt_v (w := .int (xs 1)) rfl ?_
    refine lv_aload_n hx hb dL_law_734 rfl (lv_at hl 1 rfl) ?_
    have hPc := hP.sub (ws' := [(q0, .inr (13, [.ref q1, .ref q3, .ref q5, .ref q7, .ref q9, .ref q11, .ref q13, .ref q15, .int 0, .ref q17, .ref q21, .ref q25, .ref q26, .ref q27])), (q3, .inr (11, [.ref q4, .int 0, .int 1]))]) [0, 3] rfl
    have hDc := hD.sub (ws' := [(q0, .inr (13, [.ref q1, .ref q3, .ref q5, .ref q7, .ref q9, .ref q11, .ref q13, .ref q15, .int 0, .ref q17, .ref q21, .ref q25, .ref q26, .ref q27])), (q3, .inr (11, [.ref q4, .int 0, .int 1]))]) [0, 3] (by decide) rfl
    have hKc := hK.sub (tys' := []) [] rfl
    have hFc := va_free (wc := [(q0, .inr (13, [.ref q1, .ref q3, .ref q5, .ref q7, .ref q9, .ref q11, .ref q13, .ref q15, .int 0, .ref q17, .ref q21, .ref q25, .ref q26, .ref q27])), (q3, .inr (11, [.ref q4, .int 0, .int 1]))]) hD hS hA [0, 3] rfl
    refine va_calli (vx_runSW (As := [.ref q0, .int (xs 1), .ref q106]) (rest := []) ⟨hx, hb, hml, hown, hts⟩ (c_L_value_2 l hfl dC dI q0 q106 q1 q3 q5 q7 q9 q11 q13 q15 q17 q21 q25 q26 q27 q4 H.size (xs 1) hc0 hc1) (vx_cwSW 3 hts gL_law_L_value rfl rfl rfl (by decide +kernel) ⟨Nat.le_of_ble_eq_true rfl, Nat.le_of_ble_eq_true rfl⟩) ⟨zB_blind, (zPre hPc hDc hKc hS hFc hZ hN)⟩ rfl rfl hl.1 rfl (lv_room (Nat.le_of_ble_eq_true rfl)) dL_law_735 ⟨Nat.le_of_ble_eq_true rfl, Nat.le_of_ble_eq_true rfl⟩) hS (fun q _ h => hFc q h) hFc (fun r u t H1 locs ht hvm hw hB hz1 hk1 hS => ?_)
    subst hw
    obtain ⟨hP1, hK1, hD1⟩ := hB
    rw [ht] at hP1
    have hK1 := va_K.moved hvm.symm hK1
    obtain ⟨hP, hD⟩ := va_join (wr := [(q86, .inr (15, [.ref q87, .ref q88, .ref q89, .ref q90, .ref q91, .ref q92, .int 0, .int 1, .ref q93, .int 0, .ref q94, .null, .ref q95, .null, .ref q96, .ref q97, .ref q98, .ref q99, .ref q100, .int 0, .ref q101, .ref q102, .ref q103, .ref q104, .ref q105, .int 0, .int 0]))]) (w1 := []) hP hD [0, 3] [13] rfl rfl (by decide) (by decide) hk1 hFc hP1 hD1
    have hK := (hK.sub (tys' := []) [] rfl).app hK1
    generalize H1 = H at hP hS ⊢
    have hP : va_P (dC, dI) vwCl [(q86, .inr (15, [.ref q87, .ref q88, .ref q89, .ref q90, .ref q91, .ref q92, .int 0, .int 1, .ref q93, .int 0, .ref q94, .null, .ref q95, .null, .ref q96, .ref q97, .ref q98, .ref q99, .ref q100, .int 0, .ref q101, .ref q102, .ref q103, .ref q104, .ref q105, .int 0, .int 0]))] H := hP
    have hD : va_D (fun q : Nat => s.heap.size ≤ q) [(q86, .inr (15, [.ref q87, .ref q88, .ref q89, .ref q90, .ref q91, .ref q92, .int 0, .int 1, .ref q93, .int 0, .ref q94, .null, .ref q95, .null, .ref q96, .ref q97, .ref q98, .ref q99, .ref q100, .int 0, .ref q101, .ref q102, .ref q103, .ref q104, .ref q105, .int 0, .int 0]))] := hD
    have hK : va_K (dC, dI) vwCl [] s := hK
    refine W.widen (k := 132) (n := 6698) (Nat.le_of_ble_eq_true rfl) (Nat.le_of_ble_eq_true rfl) ?_
    refine lv_istore (lv' := [(5, .int 1), (4, .int 0), (3, .ref q106), (2, .ref q86), (1, .ref q0), (0, .ref b)]) hx hb dL_law_738 hl (by decide) rfl (fun ls hl => ?_)
    refine lv_aload_n hx hb dL_law_740 rfl (lv_at hl 3 rfl) ?_
    refine lv_aload_n hx hb dL_law_741 rfl (lv_at hl 5 rfl) ?_
    refine lv_iload hx hb dL_law_742 (lv_at hl 1 rfl) ?_
    refine lv_iconst (v := 1) hx hb dL_law_744 (by decide +kernel) ?_
    refine lv_iadd hx hb dL_law_745 ?_
    refine zt_i (v := 1) (by decide +kernel) ?_
    refine va_sld hx hb hX hbl hbA hS (i := 1) (zin (by decide +kernel)) dL_law_746 ?_
    refine zt_v (w := .int (xs 1)) rfl ?_
    have hPc := hP.sub (ws' := [(q86, .inr (15, [.ref q87, .ref q88, .ref q89, .ref q90, .ref q91, .ref q92, .int 0, .int 1, .ref q93, .int 0, .ref q94, .null, .ref q95, .null, .ref q96, .ref q97, .ref q98, .ref q99, .ref q100, .int 0, .ref q101, .ref q102, .ref q103, .ref q104, .ref q105, .int 0, .int 0]))]) [0] rfl
    have hDc := hD.sub (ws' := [(q86, .inr (15, [.ref q87, .ref q88, .ref q89, .ref q90, .ref q91, .ref q92, .int 0, .int 1, .ref q93, .int 0, .ref q94, .null, .ref q95, .null, .ref q96, .ref q97, .ref q98, .ref q99, .ref q100, .int 0, .ref q101, .ref q102, .ref q103, .ref q104, .ref q105, .int 0, .int 0]))]) [0] (by decide) rfl
    have hKc := hK.sub (tys' := []) [] rfl
    have hFc := va_free (wc := [(q86, .inr (15, [.ref q87, .ref q88, .ref q89, .ref q90, .ref q91, .ref q92, .int 0, .int 1, .ref q93, .int 0, .ref q94, .null, .ref q95, .null, .ref q96, .ref q97, .ref q98, .ref q99, .ref q100, .int 0, .ref q101, .ref q102, .ref q103, .ref q104, .ref q105, .int 0, .int 0]))]) hD hS hA [0] rfl
    refine va_calli (va_runV (As := [.int (xs 1)]) (rest := []) ⟨hx, hb, hml, hown, hts⟩ (c_X13_value_2 l dC dI q86 q87 q88 q89 q90 q91 q92 q93 q94 q95 q96 q97 q98 q99 q100 q101 q102 q103 q104 q105 H.size (xs 1) hc0 hc2) (cwV 1 hts gL_law_X13_value rfl rfl rfl (by decide +kernel) ⟨Nat.le_of_ble_eq_true rfl, Nat.le_of_ble_eq_true rfl⟩) ⟨zB_blind, va_recv hK hP (ci := 15) (q0 := 0) rfl rfl, (zPre hPc hDc hKc hS hFc hZ hN)⟩ rfl rfl hl.1 rfl (lv_room (Nat.le_of_ble_eq_true rfl)) dL_law_747 ⟨Nat.le_of_ble_eq_true rfl, Nat.le_of_ble_eq_true rfl⟩) hS (fun q _ h => hFc q h) hFc (fun r u t H1 locs ht hvm hw hB hz1 hk1 hS => ?_)
    subst hw
    obtain ⟨hP1, hK1, hD1⟩ := hB
    rw [ht] at hP1
    have hK1 := va_K.moved hvm.symm hK1
    obtain ⟨hP, hD⟩ := va_join (wr := []) (w1 := [(q86, .inr (15, [.ref q87, .ref q88, .ref q89, .ref q90, .ref q91, .ref q92, .int 0, .int 1, .ref q93, .int 0, .ref q94, .null, .ref q95, .null, .ref q96, .ref q97, .ref q98, .ref q99, .ref q100, .int 1, .ref q101, .ref q102, .ref q103, .ref q104, .ref q105, .int 0, .int 0]))]) hP hD [0] [] rfl rfl (by decide) (by decide) hk1 hFc hP1 hD1
    have hK := (hK.sub (tys' := []) [] rfl).app hK1
    generalize H1 = H at hP hS ⊢
    have hP : va_P (dC, dI) vwCl [(q86, .inr (15, [.ref q87, .ref q88, .ref q89, .ref q90, .ref q91, .ref q92, .int 0, .int 1, .ref q93, .int 0, .ref q94, .null, .ref q95, .null, .ref q96, .ref q97, .ref q98, .ref q99, .ref q100, .int 1, .ref q101, .ref q102, .ref q103, .ref q104, .ref q105, .int 0, .int 0]))] H := hP
    have hD : va_D (fun q : Nat => s.heap.size ≤ q) [(q86, .inr (15, [.ref q87, .ref q88, .ref q89, .ref q90, .ref q91, .ref q92, .int 0, .int 1, .ref q93, .int 0, .ref q94, .null, .ref q95, .null, .ref q96, .ref q97, .ref q98, .ref q99, .ref q100, .int 1, .ref q101, .ref q102, .ref q103, .ref q104, .ref q105, .int 0, .int 0]))] := hD
    have hK : va_K (dC, dI) vwCl [] s := hK
    refine W.widen (k := 132) (n := 6698) (Nat.le_of_ble_eq_true rfl) (Nat.le_of_ble_eq_true rfl) ?_
    refine lv_istore (lv' := [(6, .int 0), (5, .int 1), (4, .int 0), (3, .ref q106), (2, .ref q86), (1, .ref q0), (0, .ref b)]) hx hb dL_law_750 hl (by decide) rfl (fun ls hl => ?_)
    refine lv_aload_n hx hb dL_law_752 rfl (lv_at hl 4 rfl) ?_
    have hPc := hP.sub (ws' := [(q86, .inr (15, [.ref q87, .ref q88, .ref q89, .ref q90, .ref q91, .ref q92, .int 0, .int 1, .ref q93, .int 0, .ref q94, .null, .ref q95, .null, .ref q96, .ref q97, .ref q98, .ref q99, .ref q100, .int 1, .ref q101, .ref q102, .ref q103, .ref q104, .ref q105, .int 0, .int 0]))]) [0] rfl
    have hDc := hD.sub (ws' := [(q86, .inr (15, [.ref q87, .ref q88, .ref q89, .ref q90, .ref q91, .ref q92, .int 0, .int 1, .ref q93, .int 0, .ref q94, .null, .ref q95, .null, .ref q96, .ref q97, .ref q98, .ref q99, .ref q100, .int 1, .ref q101, .ref q102, .ref q103, .ref q104, .ref q105, .int 0, .int 0]))]) [0] (by decide) rfl
    have hKc := hK.sub (tys' := []) [] rfl
    have hFc := va_free (wc := [(q86, .inr (15, [.ref q87, .ref q88, .ref q89, .ref q90, .ref q91, .ref q92, .int 0, .int 1, .ref q93, .int 0, .ref q94, .null, .ref q95, .null, .ref q96, .ref q97, .ref q98, .ref q99, .ref q100, .int 1, .ref q101, .ref q102, .ref q103, .ref q104, .ref q105, .int 0, .int 0]))]) hD hS hA [0] rfl
    refine va_calli (va_runV (As := []) (rest := []) ⟨hx, hb, hml, hown, hts⟩ (c_X13_thrown l dC dI q86 q87 q88 q89 q90 q91 q92 q93 q94 q95 q96 q97 q98 q99 q100 q101 q102 q103 q104 q105 H.size  ) (cwV 0 hts gL_law_X13_thrown rfl rfl rfl (by decide +kernel) ⟨Nat.le_of_ble_eq_true rfl, Nat.le_of_ble_eq_true rfl⟩) ⟨zB_blind, va_recv hK hP (ci := 15) (q0 := 0) rfl rfl, (zPre hPc hDc hKc hS hFc hZ hN)⟩ rfl rfl hl.1 rfl (lv_room (Nat.le_of_ble_eq_true rfl)) dL_law_753 ⟨Nat.le_of_ble_eq_true rfl, Nat.le_of_ble_eq_true rfl⟩) hS (fun q _ h => hFc q h) hFc (fun r u t H1 locs ht hvm hw hB hz1 hk1 hS => ?_)
    subst hw
    obtain ⟨hP1, hK1, hD1⟩ := hB
    rw [ht] at hP1
    have hK1 := va_K.moved hvm.symm hK1
    obtain ⟨hP, hD⟩ := va_join (wr := []) (w1 := []) hP hD [0] [] rfl rfl (by decide) (by decide) hk1 hFc hP1 hD1
    have hK := (hK.sub (tys' := []) [] rfl).app hK1
    generalize H1 = H at hP hS ⊢
    have hP : va_P (dC, dI) vwCl [] H := hP
    have hD : va_D (fun q : Nat => s.heap.size ≤ q) [] := hD
    have hK : va_K (dC, dI) vwCl [] s := hK
    refine W.widen (k := 132) (n := 6698) (Nat.le_of_ble_eq_true rfl) (Nat.le_of_ble_eq_true rfl) ?_
    refine lv_iload hx hb dL_law_756 (lv_at hl 1 rfl) ?_
    refine lv_icmp_eq (tgt := 763) hx hb dL_law_758 (by decide) (fun _ => ?_) (fun h9 => absurd (show (1 : Int32) = (1 : Int32) by decide +kernel) h9)
    refine lv_iload hx hb dL_law_763 (lv_at hl 1 rfl) ?_
    refine lv_if_ne (tgt := 780) hx hb dL_law_765 (by decide) (fun _ => ?_) (fun h9 => absurd h9 (show ¬ (1 : Int32) = (0 : Int32) by decide +kernel))
    refine lv_goto (tgt := 2311) hx hb dL_law_780 (by decide) ?_
    exact law_exit C0 hS (Nat.le_of_ble_eq_true rfl) (Nat.le_of_ble_eq_true rfl) ls (lv_sub hl [2, 3, 4, 5, 6] rfl)
set_option maxHeartbeats 8000000 in
set_option maxRecDepth 100000 in
theorem law_case_11 {p : Program} {l : Launch} {e : Env} {s : State} {m : MethodId} {below : List Frame} {meth : Method} {c : Code} {b : Nat} {xs : Nat → Int32} (hfl : l.stackTraces = false) (C0 : lw_At p s m meth c b 4 xs) {dC : Nat → ClassId} {dI : Nat → Nat → Nat} {q0 q1 q3 q5 q7 q9 q11 q13 q15 q17 q21 q25 q26 q27 q2 q4 q6 q8 q10 q16 q18 q22 q23 q86 q87 q88 q89 q90 q91 q92 q93 q94 q95 q96 q97 q98 q99 q100 q101 q102 q103 q104 q105 q106 : Nat} {k2 k4 k87 k88 k89 k90 k91 k92 k93 k94 k96 k106 : ClassId} {H : Heap} {locs : List Loc} (hK : va_K (dC, dI) vwCl [(k2, .char), (k4, (.object "Seekwell$Text")), (k87, .boolean), (k88, .int), (k89, .int), (k90, .char), (k91, (.array .long)), (k92, (.array .long)), (k93, .int), (k94, .int), (k96, .boolean), (k106, .long)] s) (hP : va_P (dC, dI) vwCl [(q0, .inr (13, [.ref q1, .ref q3, .ref q5, .ref q7, .ref q9, .ref q11, .ref q13, .ref q15, .int 0, .ref q17, .ref q21, .ref q25, .ref q26, .ref q27])), (q1, .inr (7, [.ref q2, .int 0])), (q2, .inl (k2, 512, .inl (fun _ => 0))), (q3, .inr (11, [.ref q4, .int 0, .int 1])), (q4, .inl (k4, 24, .inr (.inr (.inr (.inr (fun _ => none)))))), (q5, .inr (11, [.ref q6, .int 0, .int 1])), (q7, .inr (10, [.ref q8, .int 0])), (q9, .inr (5, [.ref q10, .int 0, .int 0])), (q15, .inr (5, [.ref q16, .int 0, .int 0])), (q17, .inr (9, [.ref q18, .ref q18, .null])), (q21, .inr (9, [.ref q22, .ref q22, .null])), (q22, .inr (8, [.int 0, .int 0, .int 1, .int 0, .int 0, .int 0, .ref q23, .null, .null, .null, .null, .int 0, .int 0, .int 0, .int 0, .null, .null])), (q26, .inr (3, [.null, .null, .int 0, .int 0, .null])), (q86, .inr (15, [.ref q87, .ref q88, .ref q89, .ref q90, .ref q91, .ref q92, .int 0, .int 1, .ref q93, .int 0, .ref q94, .null, .ref q95, .null, .ref q96, .ref q97, .ref q98, .ref q99, .ref q100, .int 0, .ref q101, .ref q102, .ref q103, .ref q104, .ref q105, .int 0, .int 0])), (q87, .inl (k87, 24, .inl (fun _ => 0))), (q88, .inl (k88, 24, .inl (fun _ => 0))), (q89, .inl (k89, 24, .inl (fun _ => 0))), (q90, .inl (k90, 24, .inl (fun _ => 0))), (q91, .inl (k91, 24, .inr (.inr (.inr (.inr (fun _ => none)))))), (q92, .inl (k92, 24, .inr (.inr (.inr (.inr (fun _ => none)))))), (q93, .inl (k93, 4000, .inl (fun _ => 0))), (q94, .inl (k94, 0, .inl (fun _ => 0))), (q96, .inl (k96, 24, .inl (fun _ => 0))), (q106, .inl (k106, 1, .inr (.inl (fun _ => 0))))] H) (hD : va_D (fun q : Nat => s.heap.size ≤ q) [(q0, .inr (13, [.ref q1, .ref q3, .ref q5, .ref q7, .ref q9, .ref q11, .ref q13, .ref q15, .int 0, .ref q17, .ref q21, .ref q25, .ref q26, .ref q27])), (q1, .inr (7, [.ref q2, .int 0])), (q2, .inl (k2, 512, .inl (fun _ => 0))), (q3, .inr (11, [.ref q4, .int 0, .int 1])), (q4, .inl (k4, 24, .inr (.inr (.inr (.inr (fun _ => none)))))), (q5, .inr (11, [.ref q6, .int 0, .int 1])), (q7, .inr (10, [.ref q8, .int 0])), (q9, .inr (5, [.ref q10, .int 0, .int 0])), (q15, .inr (5, [.ref q16, .int 0, .int 0])), (q17, .inr (9, [.ref q18, .ref q18, .null])), (q21, .inr (9, [.ref q22, .ref q22, .null])), (q22, .inr (8, [.int 0, .int 0, .int 1, .int 0, .int 0, .int 0, .ref q23, .null, .null, .null, .null, .int 0, .int 0, .int 0, .int 0, .null, .null])), (q26, .inr (3, [.null, .null, .int 0, .int 0, .null])), (q86, .inr (15, [.ref q87, .ref q88, .ref q89, .ref q90, .ref q91, .ref q92, .int 0, .int 1, .ref q93, .int 0, .ref q94, .null, .ref q95, .null, .ref q96, .ref q97, .ref q98, .ref q99, .ref q100, .int 0, .ref q101, .ref q102, .ref q103, .ref q104, .ref q105, .int 0, .int 0])), (q87, .inl (k87, 24, .inl (fun _ => 0))), (q88, .inl (k88, 24, .inl (fun _ => 0))), (q89, .inl (k89, 24, .inl (fun _ => 0))), (q90, .inl (k90, 24, .inl (fun _ => 0))), (q91, .inl (k91, 24, .inr (.inr (.inr (.inr (fun _ => none)))))), (q92, .inl (k92, 24, .inr (.inr (.inr (.inr (fun _ => none)))))), (q93, .inl (k93, 4000, .inl (fun _ => 0))), (q94, .inl (k94, 0, .inl (fun _ => 0))), (q96, .inl (k96, 24, .inl (fun _ => 0))), (q106, .inl (k106, 1, .inr (.inl (fun _ => 0))))]) (hS : va_S (fun q : Nat => s.heap.size ≤ q) s.heap H locs) (hZ : zZ (fun q : Nat => s.heap.size ≤ q) s s.heap) (hN : zN s) (ls : Array Slot) (hl : lv_has ls 7 [(4, .int 0), (3, .ref q106), (2, .ref q86), (1, .ref q0), (0, .ref b)]) : W p l e room_1 s m #[Value.ref b] below meth c H locs 131 6692 (lw_Z below #[Value.ref b] s) (F0 m 783 ls []) := by
  obtain ⟨hx, hb, hr, hml, hown, hts, hX, hbl, hlocks, hgv⟩ := id C0
  have hbA : ¬ (fun q : Nat => s.heap.size ≤ q) b := Nat.not_le.mpr hbl
  have hA : ∀ q : Nat, s.heap.size ≤ q → (fun q : Nat => s.heap.size ≤ q) q := fun _ h => h
  by_cases hb0 : (xs 1) < (0 : Int32)
  · skip
    have hc0 : (xs 1) < (0 : Int32) := hb0
    refine lv_aload_n hx hb dL_law_783 rfl (lv_at hl 3 rfl) ?_
    refine lv_aload_n hx hb dL_law_784 rfl (lv_at hl 4 rfl) ?_
    refine lv_iload hx hb dL_law_785 (lv_at hl 0 rfl) ?_
    refine lv_iconst (v := 1) hx hb dL_law_787 (by decide +kernel) ?_
    refine lv_iadd hx hb dL_law_788 ?_
    refine zt_i (v := 1) (by decide +kernel) ?_
    refine va_sld hx hb hX hbl hbA hS (i := 1) (zin (by decide +kernel)) dL_law_789 ?_
    refine zt_v (w := .int (xs 1)) rfl ?_
    refine lv_aload_n hx hb dL_law_790 rfl (lv_at hl 1 rfl) ?_
    have hPc := hP.sub (ws' := [(q0, .inr (13, [.ref q1, .ref q3, .ref q5, .ref q7, .ref q9, .ref q11, .ref q13, .ref q15, .int 0, .ref q17, .ref q21, .ref q25, .ref q26, .ref q27])), (q3, .inr (11, [.ref q4, .int 0, .int 1]))]) [0, 3] rfl
    have hDc := hD.sub (ws' := [(q0, .inr (13, [.ref q1, .ref q3, .ref q5, .ref q7, .ref q9, .ref q11, .ref q13, .ref q15, .int 0, .ref q17, .ref q21, .ref q25, .ref q26, .ref q27])), (q3, .inr (11, [.ref q4, .int 0, .int 1]))]) [0, 3] (by decide) rfl
    have hKc := hK.sub (tys' := []) [] rfl
    have hFc := va_free (wc := [(q0, .inr (13, [.ref q1, .ref q3, .ref q5, .ref q7, .ref q9, .ref q11, .ref q13, .ref q15, .int 0, .ref q17, .ref q21, .ref q25, .ref q26, .ref q27])), (q3, .inr (11, [.ref q4, .int 0, .int 1]))]) hD hS hA [0, 3] rfl
    refine va_calli (vx_runSW (As := [.ref q0, .int (xs 1), .ref q106]) (rest := []) ⟨hx, hb, hml, hown, hts⟩ (c_L_tag l hfl dC dI q0 q106 q1 q3 q5 q7 q9 q11 q13 q15 q17 q21 q25 q26 q27 q4 H.size (xs 1) hc0) (vx_cwSW 3 hts gL_law_L_tag rfl rfl rfl (by decide +kernel) ⟨Nat.le_of_ble_eq_true rfl, Nat.le_of_ble_eq_true rfl⟩) ⟨zB_blind, (zPre hPc hDc hKc hS hFc hZ hN)⟩ rfl rfl hl.1 rfl (lv_room (Nat.le_of_ble_eq_true rfl)) dL_law_791 ⟨Nat.le_of_ble_eq_true rfl, Nat.le_of_ble_eq_true rfl⟩) hS (fun q _ h => hFc q h) hFc (fun r u t H1 locs ht hvm hw hB hz1 hk1 hS => ?_)
    subst hw
    obtain ⟨hP1, hK1, hD1⟩ := hB
    rw [ht] at hP1
    have hK1 := va_K.moved hvm.symm hK1
    obtain ⟨hP, hD⟩ := va_join (wr := [(q86, .inr (15, [.ref q87, .ref q88, .ref q89, .ref q90, .ref q91, .ref q92, .int 0, .int 1, .ref q93, .int 0, .ref q94, .null, .ref q95, .null, .ref q96, .ref q97, .ref q98, .ref q99, .ref q100, .int 0, .ref q101, .ref q102, .ref q103, .ref q104, .ref q105, .int 0, .int 0]))]) (w1 := []) hP hD [0, 3] [13] rfl rfl (by decide) (by decide) hk1 hFc hP1 hD1
    have hK := (hK.sub (tys' := []) [] rfl).app hK1
    generalize H1 = H at hP hS ⊢
    have hP : va_P (dC, dI) vwCl [(q86, .inr (15, [.ref q87, .ref q88, .ref q89, .ref q90, .ref q91, .ref q92, .int 0, .int 1, .ref q93, .int 0, .ref q94, .null, .ref q95, .null, .ref q96, .ref q97, .ref q98, .ref q99, .ref q100, .int 0, .ref q101, .ref q102, .ref q103, .ref q104, .ref q105, .int 0, .int 0]))] H := hP
    have hD : va_D (fun q : Nat => s.heap.size ≤ q) [(q86, .inr (15, [.ref q87, .ref q88, .ref q89, .ref q90, .ref q91, .ref q92, .int 0, .int 1, .ref q93, .int 0, .ref q94, .null, .ref q95, .null, .ref q96, .ref q97, .ref q98, .ref q99, .ref q100, .int 0, .ref q101, .ref q102, .ref q103, .ref q104, .ref q105, .int 0, .int 0]))] := hD
    have hK : va_K (dC, dI) vwCl [] s := hK
    refine W.widen (k := 132) (n := 6698) (Nat.le_of_ble_eq_true rfl) (Nat.le_of_ble_eq_true rfl) ?_
    refine lv_istore (lv' := [(5, .int 1), (4, .int 0), (3, .ref q106), (2, .ref q86), (1, .ref q0), (0, .ref b)]) hx hb dL_law_794 hl (by decide) rfl (fun ls hl => ?_)
    refine lv_aload_n hx hb dL_law_796 rfl (lv_at hl 3 rfl) ?_
    refine lv_aload_n hx hb dL_law_797 rfl (lv_at hl 5 rfl) ?_
    refine lv_iload hx hb dL_law_798 (lv_at hl 1 rfl) ?_
    refine lv_iconst (v := 1) hx hb dL_law_800 (by decide +kernel) ?_
    refine lv_iadd hx hb dL_law_801 ?_
    refine zt_i (v := 1) (by decide +kernel) ?_
    refine va_sld hx hb hX hbl hbA hS (i := 1) (zin (by decide +kernel)) dL_law_802 ?_
    refine zt_v (w := .int (xs 1)) rfl ?_
    have hPc := hP.sub (ws' := [(q86, .inr (15, [.ref q87, .ref q88, .ref q89, .ref q90, .ref q91, .ref q92, .int 0, .int 1, .ref q93, .int 0, .ref q94, .null, .ref q95, .null, .ref q96, .ref q97, .ref q98, .ref q99, .ref q100, .int 0, .ref q101, .ref q102, .ref q103, .ref q104, .ref q105, .int 0, .int 0]))]) [0] rfl
    have hDc := hD.sub (ws' := [(q86, .inr (15, [.ref q87, .ref q88, .ref q89, .ref q90, .ref q91, .ref q92, .int 0, .int 1, .ref q93, .int 0, .ref q94, .null, .ref q95, .null, .ref q96, .ref q97, .ref q98, .ref q99, .ref q100, .int 0, .ref q101, .ref q102, .ref q103, .ref q104, .ref q105, .int 0, .int 0]))]) [0] (by decide) rfl
    have hKc := hK.sub (tys' := []) [] rfl
    have hFc := va_free (wc := [(q86, .inr (15, [.ref q87, .ref q88, .ref q89, .ref q90, .ref q91, .ref q92, .int 0, .int 1, .ref q93, .int 0, .ref q94, .null, .ref q95, .null, .ref q96, .ref q97, .ref q98, .ref q99, .ref q100, .int 0, .ref q101, .ref q102, .ref q103, .ref q104, .ref q105, .int 0, .int 0]))]) hD hS hA [0] rfl
    refine va_calli (va_runV (As := [.int (xs 1)]) (rest := []) ⟨hx, hb, hml, hown, hts⟩ (c_X13_tag l dC dI q86 q87 q88 q89 q90 q91 q92 q93 q94 q95 q96 q97 q98 q99 q100 q101 q102 q103 q104 q105 H.size (xs 1) hc0) (cwV 1 hts gL_law_X13_tag rfl rfl rfl (by decide +kernel) ⟨Nat.le_of_ble_eq_true rfl, Nat.le_of_ble_eq_true rfl⟩) ⟨zB_blind, va_recv hK hP (ci := 15) (q0 := 0) rfl rfl, (zPre hPc hDc hKc hS hFc hZ hN)⟩ rfl rfl hl.1 rfl (lv_room (Nat.le_of_ble_eq_true rfl)) dL_law_803 ⟨Nat.le_of_ble_eq_true rfl, Nat.le_of_ble_eq_true rfl⟩) hS (fun q _ h => hFc q h) hFc (fun r u t H1 locs ht hvm hw hB hz1 hk1 hS => ?_)
    subst hw
    obtain ⟨hP1, hK1, hD1⟩ := hB
    rw [ht] at hP1
    have hK1 := va_K.moved hvm.symm hK1
    obtain ⟨hP, hD⟩ := va_join (wr := []) (w1 := [(q86, .inr (15, [.ref q87, .ref q88, .ref q89, .ref q90, .ref q91, .ref q92, .int 0, .int 1, .ref q93, .int 0, .ref q94, .null, .ref q95, .null, .ref q96, .ref q97, .ref q98, .ref q99, .ref q100, .int 1, .ref q101, .ref q102, .ref q103, .ref q104, .ref q105, .int 0, .int 0]))]) hP hD [0] [] rfl rfl (by decide) (by decide) hk1 hFc hP1 hD1
    have hK := (hK.sub (tys' := []) [] rfl).app hK1
    generalize H1 = H at hP hS ⊢
    have hP : va_P (dC, dI) vwCl [(q86, .inr (15, [.ref q87, .ref q88, .ref q89, .ref q90, .ref q91, .ref q92, .int 0, .int 1, .ref q93, .int 0, .ref q94, .null, .ref q95, .null, .ref q96, .ref q97, .ref q98, .ref q99, .ref q100, .int 1, .ref q101, .ref q102, .ref q103, .ref q104, .ref q105, .int 0, .int 0]))] H := hP
    have hD : va_D (fun q : Nat => s.heap.size ≤ q) [(q86, .inr (15, [.ref q87, .ref q88, .ref q89, .ref q90, .ref q91, .ref q92, .int 0, .int 1, .ref q93, .int 0, .ref q94, .null, .ref q95, .null, .ref q96, .ref q97, .ref q98, .ref q99, .ref q100, .int 1, .ref q101, .ref q102, .ref q103, .ref q104, .ref q105, .int 0, .int 0]))] := hD
    have hK : va_K (dC, dI) vwCl [] s := hK
    refine W.widen (k := 132) (n := 6698) (Nat.le_of_ble_eq_true rfl) (Nat.le_of_ble_eq_true rfl) ?_
    refine lv_istore (lv' := [(6, .int 97), (5, .int 1), (4, .int 0), (3, .ref q106), (2, .ref q86), (1, .ref q0), (0, .ref b)]) hx hb dL_law_806 hl (by decide) rfl (fun ls hl => ?_)
    refine lv_aload_n hx hb dL_law_808 rfl (lv_at hl 4 rfl) ?_
    have hPc := hP.sub (ws' := [(q86, .inr (15, [.ref q87, .ref q88, .ref q89, .ref q90, .ref q91, .ref q92, .int 0, .int 1, .ref q93, .int 0, .ref q94, .null, .ref q95, .null, .ref q96, .ref q97, .ref q98, .ref q99, .ref q100, .int 1, .ref q101, .ref q102, .ref q103, .ref q104, .ref q105, .int 0, .int 0]))]) [0] rfl
    have hDc := hD.sub (ws' := [(q86, .inr (15, [.ref q87, .ref q88, .ref q89, .ref q90, .ref q91, .ref q92, .int 0, .int 1, .ref q93, .int 0, .ref q94, .null, .ref q95, .null, .ref q96, .ref q97, .ref q98, .ref q99, .ref q100, .int 1, .ref q101, .ref q102, .ref q103, .ref q104, .ref q105, .int 0, .int 0]))]) [0] (by decide) rfl
    have hKc := hK.sub (tys' := []) [] rfl
    have hFc := va_free (wc := [(q86, .inr (15, [.ref q87, .ref q88, .ref q89, .ref q90, .ref q91, .ref q92, .int 0, .int 1, .ref q93, .int 0, .ref q94, .null, .ref q95, .null, .ref q96, .ref q97, .ref q98, .ref q99, .ref q100, .int 1, .ref q101, .ref q102, .ref q103, .ref q104, .ref q105, .int 0, .int 0]))]) hD hS hA [0] rfl
    refine va_calli (va_runV (As := []) (rest := []) ⟨hx, hb, hml, hown, hts⟩ (c_X13_thrown l dC dI q86 q87 q88 q89 q90 q91 q92 q93 q94 q95 q96 q97 q98 q99 q100 q101 q102 q103 q104 q105 H.size  ) (cwV 0 hts gL_law_X13_thrown rfl rfl rfl (by decide +kernel) ⟨Nat.le_of_ble_eq_true rfl, Nat.le_of_ble_eq_true rfl⟩) ⟨zB_blind, va_recv hK hP (ci := 15) (q0 := 0) rfl rfl, (zPre hPc hDc hKc hS hFc hZ hN)⟩ rfl rfl hl.1 rfl (lv_room (Nat.le_of_ble_eq_true rfl)) dL_law_809 ⟨Nat.le_of_ble_eq_true rfl, Nat.le_of_ble_eq_true rfl⟩) hS (fun q _ h => hFc q h) hFc (fun r u t H1 locs ht hvm hw hB hz1 hk1 hS => ?_)
    subst hw
    obtain ⟨hP1, hK1, hD1⟩ := hB
    rw [ht] at hP1
    have hK1 := va_K.moved hvm.symm hK1
    obtain ⟨hP, hD⟩ := va_join (wr := []) (w1 := []) hP hD [0] [] rfl rfl (by decide) (by decide) hk1 hFc hP1 hD1
    have hK := (hK.sub (tys' := []) [] rfl).app hK1
    generalize H1 = H at hP hS ⊢
    have hP : va_P (dC, dI) vwCl [] H := hP
    have hD : va_D (fun q : Nat => s.heap.size ≤ q) [] := hD
    have hK : va_K (dC, dI) vwCl [] s := hK
    refine W.widen (k := 132) (n := 6698) (Nat.le_of_ble_eq_true rfl) (Nat.le_of_ble_eq_true rfl) ?_
    refine lv_iload hx hb dL_law_812 (lv_at hl 1 rfl) ?_
    refine lv_icmp_eq (tgt := 819) hx hb dL_law_814 (by decide) (fun _ => ?_) (fun h9 => absurd (show (1 : Int32) = (1 : Int32) by decide +kernel) h9)
    refine lv_iload hx hb dL_law_819 (lv_at hl 1 rfl) ?_
    refine lv_if_ne (tgt := 836) hx hb dL_law_821 (by decide) (fun _ => ?_) (fun h9 => absurd h9 (show ¬ (1 : Int32) = (0 : Int32) by decide +kernel))
    refine lv_goto (tgt := 2311) hx hb dL_law_836 (by decide) ?_
    exact law_exit C0 hS (Nat.le_of_ble_eq_true rfl) (Nat.le_of_ble_eq_true rfl) ls (lv_sub hl [2, 3, 4, 5, 6] rfl)
  · skip
    have hc0 : ¬ (xs 1) < (0 : Int32) := hb0
    have hc1 : (0 : Int32) ≤ (xs 1) := zd_4 hb0
    have hc2 : ((-1) : Int32) < (xs 1) := zd_3 hb0
    refine lv_aload_n hx hb dL_law_783 rfl (lv_at hl 3 rfl) ?_
    refine lv_aload_n hx hb dL_law_784 rfl (lv_at hl 4 rfl) ?_
    refine lv_iload hx hb dL_law_785 (lv_at hl 0 rfl) ?_
    refine lv_iconst (v := 1) hx hb dL_law_787 (by decide +kernel) ?_
    refine lv_iadd hx hb dL_law_788 ?_
    refine zt_i (v := 1) (by decide +kernel) ?_
    refine va_sld hx hb hX hbl hbA hS (i := 1) (zin (by decide +kernel)) dL_law_789 ?_
    refine zt_v (w := .int (xs 1)) rfl ?_
    refine lv_aload_n hx hb dL_law_790 rfl (lv_at hl 1 rfl) ?_
    have hPc := hP.sub (ws' := [(q0, .inr (13, [.ref q1, .ref q3, .ref q5, .ref q7, .ref q9, .ref q11, .ref q13, .ref q15, .int 0, .ref q17, .ref q21, .ref q25, .ref q26, .ref q27])), (q3, .inr (11, [.ref q4, .int 0, .int 1]))]) [0, 3] rfl
    have hDc := hD.sub (ws' := [(q0, .inr (13, [.ref q1, .ref q3, .ref q5, .ref q7, .ref q9, .ref q11, .ref q13, .ref q15, .int 0, .ref q17, .ref q21, .ref q25, .ref q26, .ref q27])), (q3, .inr (11, [.ref q4, .int 0, .int 1]))]) [0, 3] (by decide) rfl
    have hKc := hK.sub (tys' := []) [] rfl
    have hFc := va_free (wc := [(q0, .inr (13, [.ref q1, .ref q3, .ref q5, .ref q7, .ref q9, .ref q11, .ref q13, .ref q15, .int 0, .ref q17, .ref q21, .ref q25, .ref q26, .ref q27])), (q3, .inr (11, [.ref q4, .int 0, .int 1]))]) hD hS hA [0, 3] rfl
    refine va_calli (vx_runSW (As := [.ref q0, .int (xs 1), .ref q106]) (rest := []) ⟨hx, hb, hml, hown, hts⟩ (c_L_tag_2 l hfl dC dI q0 q106 q1 q3 q5 q7 q9 q11 q13 q15 q17 q21 q25 q26 q27 q4 H.size (xs 1) hc0 hc1) (vx_cwSW 3 hts gL_law_L_tag rfl rfl rfl (by decide +kernel) ⟨Nat.le_of_ble_eq_true rfl, Nat.le_of_ble_eq_true rfl⟩) ⟨zB_blind, (zPre hPc hDc hKc hS hFc hZ hN)⟩ rfl rfl hl.1 rfl (lv_room (Nat.le_of_ble_eq_true rfl)) dL_law_791 ⟨Nat.le_of_ble_eq_true rfl, Nat.le_of_ble_eq_true rfl⟩) hS (fun q _ h => hFc q h) hFc (fun r u t H1 locs ht hvm hw hB hz1 hk1 hS => ?_)
    subst hw
    obtain ⟨hP1, hK1, hD1⟩ := hB
    rw [ht] at hP1
    have hK1 := va_K.moved hvm.symm hK1
    obtain ⟨hP, hD⟩ := va_join (wr := [(q86, .inr (15, [.ref q87, .ref q88, .ref q89, .ref q90, .ref q91, .ref q92, .int 0, .int 1, .ref q93, .int 0, .ref q94, .null, .ref q95, .null, .ref q96, .ref q97, .ref q98, .ref q99, .ref q100, .int 0, .ref q101, .ref q102, .ref q103, .ref q104, .ref q105, .int 0, .int 0]))]) (w1 := []) hP hD [0, 3] [13] rfl rfl (by decide) (by decide) hk1 hFc hP1 hD1
    have hK := (hK.sub (tys' := []) [] rfl).app hK1
    generalize H1 = H at hP hS ⊢
    have hP : va_P (dC, dI) vwCl [(q86, .inr (15, [.ref q87, .ref q88, .ref q89, .ref q90, .ref q91, .ref q92, .int 0, .int 1, .ref q93, .int 0, .ref q94, .null, .ref q95, .null, .ref q96, .ref q97, .ref q98, .ref q99, .ref q100, .int 0, .ref q101, .ref q102, .ref q103, .ref q104, .ref q105, .int 0, .int 0]))] H := hP
    have hD : va_D (fun q : Nat => s.heap.size ≤ q) [(q86, .inr (15, [.ref q87, .ref q88, .ref q89, .ref q90, .ref q91, .ref q92, .int 0, .int 1, .ref q93, .int 0, .ref q94, .null, .ref q95, .null, .ref q96, .ref q97, .ref q98, .ref q99, .ref q100, .int 0, .ref q101, .ref q102, .ref q103, .ref q104, .ref q105, .int 0, .int 0]))] := hD
    have hK : va_K (dC, dI) vwCl [] s := hK
    refine W.widen (k := 132) (n := 6698) (Nat.le_of_ble_eq_true rfl) (Nat.le_of_ble_eq_true rfl) ?_
    refine lv_istore (lv' := [(5, .int 1), (4, .int 0), (3, .ref q106), (2, .ref q86), (1, .ref q0), (0, .ref b)]) hx hb dL_law_794 hl (by decide) rfl (fun ls hl => ?_)
    refine lv_aload_n hx hb dL_law_796 rfl (lv_at hl 3 rfl) ?_
    refine lv_aload_n hx hb dL_law_797 rfl (lv_at hl 5 rfl) ?_
    refine lv_iload hx hb dL_law_798 (lv_at hl 1 rfl) ?_
    refine lv_iconst (v := 1) hx hb dL_law_800 (by decide +kernel) ?_
    refine lv_iadd hx hb dL_law_801 ?_
    refine zt_i (v := 1) (by decide +kernel) ?_
    refine va_sld hx hb hX hbl hbA hS (i := 1) (zin (by decide +kernel)) dL_law_802 ?_
    refine zt_v (w := .int (xs 1)) rfl ?_
    have hPc := hP.sub (ws' := [(q86, .inr (15, [.ref q87, .ref q88, .ref q89, .ref q90, .ref q91, .ref q92, .int 0, .int 1, .ref q93, .int 0, .ref q94, .null, .ref q95, .null, .ref q96, .ref q97, .ref q98, .ref q99, .ref q100, .int 0, .ref q101, .ref q102, .ref q103, .ref q104, .ref q105, .int 0, .int 0]))]) [0] rfl
    have hDc := hD.sub (ws' := [(q86, .inr (15, [.ref q87, .ref q88, .ref q89, .ref q90, .ref q91, .ref q92, .int 0, .int 1, .ref q93, .int 0, .ref q94, .null, .ref q95, .null, .ref q96, .ref q97, .ref q98, .ref q99, .ref q100, .int 0, .ref q101, .ref q102, .ref q103, .ref q104, .ref q105, .int 0, .int 0]))]) [0] (by decide) rfl
    have hKc := hK.sub (tys' := []) [] rfl
    have hFc := va_free (wc := [(q86, .inr (15, [.ref q87, .ref q88, .ref q89, .ref q90, .ref q91, .ref q92, .int 0, .int 1, .ref q93, .int 0, .ref q94, .null, .ref q95, .null, .ref q96, .ref q97, .ref q98, .ref q99, .ref q100, .int 0, .ref q101, .ref q102, .ref q103, .ref q104, .ref q105, .int 0, .int 0]))]) hD hS hA [0] rfl
    refine va_calli (va_runV (As := [.int (xs 1)]) (rest := []) ⟨hx, hb, hml, hown, hts⟩ (c_X13_tag_2 l dC dI q86 q87 q88 q89 q90 q91 q92 q93 q94 q95 q96 q97 q98 q99 q100 q101 q102 q103 q104 q105 H.size (xs 1) hc0 hc2) (cwV 1 hts gL_law_X13_tag rfl rfl rfl (by decide +kernel) ⟨Nat.le_of_ble_eq_true rfl, Nat.le_of_ble_eq_true rfl⟩) ⟨zB_blind, va_recv hK hP (ci := 15) (q0 := 0) rfl rfl, (zPre hPc hDc hKc hS hFc hZ hN)⟩ rfl rfl hl.1 rfl (lv_room (Nat.le_of_ble_eq_true rfl)) dL_law_803 ⟨Nat.le_of_ble_eq_true rfl, Nat.le_of_ble_eq_true rfl⟩) hS (fun q _ h => hFc q h) hFc (fun r u t H1 locs ht hvm hw hB hz1 hk1 hS => ?_)
    subst hw
    obtain ⟨hP1, hK1, hD1⟩ := hB
    rw [ht] at hP1
    have hK1 := va_K.moved hvm.symm hK1
    obtain ⟨hP, hD⟩ := va_join (wr := []) (w1 := [(q86, .inr (15, [.ref q87, .ref q88, .ref q89, .ref q90, .ref q91, .ref q92, .int 0, .int 1, .ref q93, .int 0, .ref q94, .null, .ref q95, .null, .ref q96, .ref q97, .ref q98, .ref q99, .ref q100, .int 1, .ref q101, .ref q102, .ref q103, .ref q104, .ref q105, .int 0, .int 0]))]) hP hD [0] [] rfl rfl (by decide) (by decide) hk1 hFc hP1 hD1
    have hK := (hK.sub (tys' := []) [] rfl).app hK1
    generalize H1 = H at hP hS ⊢
    have hP : va_P (dC, dI) vwCl [(q86, .inr (15, [.ref q87, .ref q88, .ref q89, .ref q90, .ref q91, .ref q92, .int 0, .int 1, .ref q93, .int 0, .ref q94, .null, .ref q95, .null, .ref q96, .ref q97, .ref q98, .ref q99, .ref q100, .int 1, .ref q101, .ref q102, .ref q103, .ref q104, .ref q105, .int 0, .int 0]))] H := hP
    have hD : va_D (fun q : Nat => s.heap.size ≤ q) [(q86, .inr (15, [.ref q87, .ref q88, .ref q89, .ref q90, .ref q91, .ref q92, .int 0, .int 1, .ref q93, .int 0, .ref q94, .null, .ref q95, .null, .ref q96, .ref q97, .ref q98, .ref q99, .ref q100, .int 1, .ref q101, .ref q102, .ref q103, .ref q104, .ref q105, .int 0, .int 0]))] := hD
    have hK : va_K (dC, dI) vwCl [] s := hK
    refine W.widen (k := 132) (n := 6698) (Nat.le_of_ble_eq_true rfl) (Nat.le_of_ble_eq_true rfl) ?_
    refine lv_istore (lv' := [(6, .int 97), (5, .int 1), (4, .int 0), (3, .ref q106), (2, .ref q86), (1, .ref q0), (0, .ref b)]) hx hb dL_law_806 hl (by decide) rfl (fun ls hl => ?_)
    refine lv_aload_n hx hb dL_law_808 rfl (lv_at hl 4 rfl) ?_
    have hPc := hP.sub (ws' := [(q86, .inr (15, [.ref q87, .ref q88, .ref q89, .ref q90, .ref q91, .ref q92, .int 0, .int 1, .ref q93, .int 0, .ref q94, .null, .ref q95, .null, .ref q96, .ref q97, .ref q98, .ref q99, .ref q100, .int 1, .ref q101, .ref q102, .ref q103, .ref q104, .ref q105, .int 0, .int 0]))]) [0] rfl
    have hDc := hD.sub (ws' := [(q86, .inr (15, [.ref q87, .ref q88, .ref q89, .ref q90, .ref q91, .ref q92, .int 0, .int 1, .ref q93, .int 0, .ref q94, .null, .ref q95, .null, .ref q96, .ref q97, .ref q98, .ref q99, .ref q100, .int 1, .ref q101, .ref q102, .ref q103, .ref q104, .ref q105, .int 0, .int 0]))]) [0] (by decide) rfl
    have hKc := hK.sub (tys' := []) [] rfl
    have hFc := va_free (wc := [(q86, .inr (15, [.ref q87, .ref q88, .ref q89, .ref q90, .ref q91, .ref q92, .int 0, .int 1, .ref q93, .int 0, .ref q94, .null, .ref q95, .null, .ref q96, .ref q97, .ref q98, .ref q99, .ref q100, .int 1, .ref q101, .ref q102, .ref q103, .ref q104, .ref q105, .int 0, .int 0]))]) hD hS hA [0] rfl
    refine va_calli (va_runV (As := []) (rest := []) ⟨hx, hb, hml, hown, hts⟩ (c_X13_thrown l dC dI q86 q87 q88 q89 q90 q91 q92 q93 q94 q95 q96 q97 q98 q99 q100 q101 q102 q103 q104 q105 H.size  ) (cwV 0 hts gL_law_X13_thrown rfl rfl rfl (by decide +kernel) ⟨Nat.le_of_ble_eq_true rfl, Nat.le_of_ble_eq_true rfl⟩) ⟨zB_blind, va_recv hK hP (ci := 15) (q0 := 0) rfl rfl, (zPre hPc hDc hKc hS hFc hZ hN)⟩ rfl rfl hl.1 rfl (lv_room (Nat.le_of_ble_eq_true rfl)) dL_law_809 ⟨Nat.le_of_ble_eq_true rfl, Nat.le_of_ble_eq_true rfl⟩) hS (fun q _ h => hFc q h) hFc (fun r u t H1 locs ht hvm hw hB hz1 hk1 hS => ?_)
    subst hw
    obtain ⟨hP1, hK1, hD1⟩ := hB
    rw [ht] at hP1
    have hK1 := va_K.moved hvm.symm hK1
    obtain ⟨hP, hD⟩ := va_join (wr := []) (w1 := []) hP hD [0] [] rfl rfl (by decide) (by decide) hk1 hFc hP1 hD1
    have hK := (hK.sub (tys' := []) [] rfl).app hK1
    generalize H1 = H at hP hS ⊢
    have hP : va_P (dC, dI) vwCl [] H := hP
    have hD : va_D (fun q : Nat => s.heap.size ≤ q) [] := hD
    have hK : va_K (dC, dI) vwCl [] s := hK
    refine W.widen (k := 132) (n := 6698) (Nat.le_of_ble_eq_true rfl) (Nat.le_of_ble_eq_true rfl) ?_
    refine lv_iload hx hb dL_law_812 (lv_at hl 1 rfl) ?_
    refine lv_icmp_eq (tgt := 819) hx hb dL_law_814 (by decide) (fun _ => ?_) (fun h9 => absurd (show (1 : Int32) = (1 : Int32) by decide +kernel) h9)
    refine lv_iload hx hb dL_law_819 (lv_at hl 1 rfl) ?_
    refine lv_if_ne (tgt := 836) hx hb dL_law_821 (by decide) (fun _ => ?_) (fun h9 => absurd h9 (show ¬ (1 : Int32) = (0 : Int32) by decide +kernel))
    refine lv_goto (tgt := 2311) hx hb dL_law_836 (by decide) ?_
    exact law_exit C0 hS (Nat.le_of_ble_eq_true rfl) (Nat.le_of_ble_eq_true rfl) ls (lv_sub hl [2, 3, 4, 5, 6] rfl)
set_option maxHeartbeats 8000000 in
set_option maxRecDepth 100000 in
theorem law_case_12 {p : Program} {l : Launch} {e : Env} {s : State} {m : MethodId} {below : List Frame} {meth : Method} {c : Code} {b : Nat} {xs : Nat → Int32} (hfl : l.stackTraces = false) (C0 : lw_At p s m meth c b 4 xs) {dC : Nat → ClassId} {dI : Nat → Nat → Nat} {q0 q1 q3 q5 q7 q9 q11 q13 q15 q17 q21 q25 q26 q27 q2 q4 q6 q8 q10 q16 q18 q22 q23 q86 q87 q88 q89 q90 q91 q92 q93 q94 q95 q96 q97 q98 q99 q100 q101 q102 q103 q104 q105 q106 : Nat} {k2 k4 k87 k88 k89 k90 k91 k92 k93 k94 k96 k106 : ClassId} {H : Heap} {locs : List Loc} (hK : va_K (dC, dI) vwCl [(k2, .char), (k4, (.object "Seekwell$Text")), (k87, .boolean), (k88, .int), (k89, .int), (k90, .char), (k91, (.array .long)), (k92, (.array .long)), (k93, .int), (k94, .int), (k96, .boolean), (k106, .long)] s) (hP : va_P (dC, dI) vwCl [(q0, .inr (13, [.ref q1, .ref q3, .ref q5, .ref q7, .ref q9, .ref q11, .ref q13, .ref q15, .int 0, .ref q17, .ref q21, .ref q25, .ref q26, .ref q27])), (q1, .inr (7, [.ref q2, .int 0])), (q2, .inl (k2, 512, .inl (fun _ => 0))), (q3, .inr (11, [.ref q4, .int 0, .int 1])), (q4, .inl (k4, 24, .inr (.inr (.inr (.inr (fun _ => none)))))), (q5, .inr (11, [.ref q6, .int 0, .int 1])), (q7, .inr (10, [.ref q8, .int 0])), (q9, .inr (5, [.ref q10, .int 0, .int 0])), (q15, .inr (5, [.ref q16, .int 0, .int 0])), (q17, .inr (9, [.ref q18, .ref q18, .null])), (q21, .inr (9, [.ref q22, .ref q22, .null])), (q22, .inr (8, [.int 0, .int 0, .int 1, .int 0, .int 0, .int 0, .ref q23, .null, .null, .null, .null, .int 0, .int 0, .int 0, .int 0, .null, .null])), (q26, .inr (3, [.null, .null, .int 0, .int 0, .null])), (q86, .inr (15, [.ref q87, .ref q88, .ref q89, .ref q90, .ref q91, .ref q92, .int 0, .int 1, .ref q93, .int 0, .ref q94, .null, .ref q95, .null, .ref q96, .ref q97, .ref q98, .ref q99, .ref q100, .int 0, .ref q101, .ref q102, .ref q103, .ref q104, .ref q105, .int 0, .int 0])), (q87, .inl (k87, 24, .inl (fun _ => 0))), (q88, .inl (k88, 24, .inl (fun _ => 0))), (q89, .inl (k89, 24, .inl (fun _ => 0))), (q90, .inl (k90, 24, .inl (fun _ => 0))), (q91, .inl (k91, 24, .inr (.inr (.inr (.inr (fun _ => none)))))), (q92, .inl (k92, 24, .inr (.inr (.inr (.inr (fun _ => none)))))), (q93, .inl (k93, 4000, .inl (fun _ => 0))), (q94, .inl (k94, 0, .inl (fun _ => 0))), (q96, .inl (k96, 24, .inl (fun _ => 0))), (q106, .inl (k106, 1, .inr (.inl (fun _ => 0))))] H) (hD : va_D (fun q : Nat => s.heap.size ≤ q) [(q0, .inr (13, [.ref q1, .ref q3, .ref q5, .ref q7, .ref q9, .ref q11, .ref q13, .ref q15, .int 0, .ref q17, .ref q21, .ref q25, .ref q26, .ref q27])), (q1, .inr (7, [.ref q2, .int 0])), (q2, .inl (k2, 512, .inl (fun _ => 0))), (q3, .inr (11, [.ref q4, .int 0, .int 1])), (q4, .inl (k4, 24, .inr (.inr (.inr (.inr (fun _ => none)))))), (q5, .inr (11, [.ref q6, .int 0, .int 1])), (q7, .inr (10, [.ref q8, .int 0])), (q9, .inr (5, [.ref q10, .int 0, .int 0])), (q15, .inr (5, [.ref q16, .int 0, .int 0])), (q17, .inr (9, [.ref q18, .ref q18, .null])), (q21, .inr (9, [.ref q22, .ref q22, .null])), (q22, .inr (8, [.int 0, .int 0, .int 1, .int 0, .int 0, .int 0, .ref q23, .null, .null, .null, .null, .int 0, .int 0, .int 0, .int 0, .null, .null])), (q26, .inr (3, [.null, .null, .int 0, .int 0, .null])), (q86, .inr (15, [.ref q87, .ref q88, .ref q89, .ref q90, .ref q91, .ref q92, .int 0, .int 1, .ref q93, .int 0, .ref q94, .null, .ref q95, .null, .ref q96, .ref q97, .ref q98, .ref q99, .ref q100, .int 0, .ref q101, .ref q102, .ref q103, .ref q104, .ref q105, .int 0, .int 0])), (q87, .inl (k87, 24, .inl (fun _ => 0))), (q88, .inl (k88, 24, .inl (fun _ => 0))), (q89, .inl (k89, 24, .inl (fun _ => 0))), (q90, .inl (k90, 24, .inl (fun _ => 0))), (q91, .inl (k91, 24, .inr (.inr (.inr (.inr (fun _ => none)))))), (q92, .inl (k92, 24, .inr (.inr (.inr (.inr (fun _ => none)))))), (q93, .inl (k93, 4000, .inl (fun _ => 0))), (q94, .inl (k94, 0, .inl (fun _ => 0))), (q96, .inl (k96, 24, .inl (fun _ => 0))), (q106, .inl (k106, 1, .inr (.inl (fun _ => 0))))]) (hS : va_S (fun q : Nat => s.heap.size ≤ q) s.heap H locs) (hZ : zZ (fun q : Nat => s.heap.size ≤ q) s s.heap) (hN : zN s) (ls : Array Slot) (hl : lv_has ls 7 [(4, .int 0), (3, .ref q106), (2, .ref q86), (1, .ref q0), (0, .ref b)]) : W p l e room_1 s m #[Value.ref b] below meth c H locs 131 6692 (lw_Z below #[Value.ref b] s) (F0 m 839 ls []) := by
  obtain ⟨hx, hb, hr, hml, hown, hts, hX, hbl, hlocks, hgv⟩ := id C0
  have hbA : ¬ (fun q : Nat => s.heap.size ≤ q) b := Nat.not_le.mpr hbl
  have hA : ∀ q : Nat, s.heap.size ≤ q → (fun q : Nat => s.heap.size ≤ q) q := fun _ h => h
  refine lv_aload_n hx hb dL_law_839 rfl (lv_at hl 3 rfl) ?_
  have hPc := hP.sub (ws' := [(q0, .inr (13, [.ref q1, .ref q3, .ref q5, .ref q7, .ref q9, .ref q11, .ref q13, .ref q15, .int 0, .ref q17, .ref q21, .ref q25, .ref q26, .ref q27])), (q3, .inr (11, [.ref q4, .int 0, .int 1])), (q7, .inr (10, [.ref q8, .int 0]))]) [0, 3, 6] rfl
  have hDc := hD.sub (ws' := [(q0, .inr (13, [.ref q1, .ref q3, .ref q5, .ref q7, .ref q9, .ref q11, .ref q13, .ref q15, .int 0, .ref q17, .ref q21, .ref q25, .ref q26, .ref q27])), (q3, .inr (11, [.ref q4, .int 0, .int 1])), (q7, .inr (10, [.ref q8, .int 0]))]) [0, 3, 6] (by decide) rfl
  have hKc := hK.sub (tys' := []) [] rfl
  have hFc := va_free (wc := [(q0, .inr (13, [.ref q1, .ref q3, .ref q5, .ref q7, .ref q9, .ref q11, .ref q13, .ref q15, .int 0, .ref q17, .ref q21, .ref q25, .ref q26, .ref q27])), (q3, .inr (11, [.ref q4, .int 0, .int 1])), (q7, .inr (10, [.ref q8, .int 0]))]) hD hS hA [0, 3, 6] rfl
  refine va_calli (va_runV (As := []) (rest := []) ⟨hx, hb, hml, hown, hts⟩ (c_X11_words l dC dI q0 q1 q3 q5 q7 q9 q11 q13 q15 q17 q21 q25 q26 q27 q4 q8 H.size  ) (cwV 0 hts gL_law_X11_words rfl rfl rfl (by decide +kernel) ⟨Nat.le_of_ble_eq_true rfl, Nat.le_of_ble_eq_true rfl⟩) ⟨zB_blind, va_recv hK hP (ci := 13) (q0 := 0) rfl rfl, (zPre hPc hDc hKc hS hFc hZ hN)⟩ rfl rfl hl.1 rfl (lv_room (Nat.le_of_ble_eq_true rfl)) dL_law_840 ⟨Nat.le_of_ble_eq_true rfl, Nat.le_of_ble_eq_true rfl⟩) hS (fun q _ h => hFc q h) hFc (fun r u t H1 locs ht hvm hw hB hz1 hk1 hS => ?_)
  subst hw
  obtain ⟨hP1, hK1, hD1⟩ := hB
  rw [ht] at hP1
  have hK1 := va_K.moved hvm.symm hK1
  obtain ⟨hP, hD⟩ := va_join (wr := [(q86, .inr (15, [.ref q87, .ref q88, .ref q89, .ref q90, .ref q91, .ref q92, .int 0, .int 1, .ref q93, .int 0, .ref q94, .null, .ref q95, .null, .ref q96, .ref q97, .ref q98, .ref q99, .ref q100, .int 0, .ref q101, .ref q102, .ref q103, .ref q104, .ref q105, .int 0, .int 0]))]) (w1 := []) hP hD [0, 3, 6] [13] rfl rfl (by decide) (by decide) hk1 hFc hP1 hD1
  have hK := (hK.sub (tys' := []) [] rfl).app hK1
  generalize H1 = H at hP hS ⊢
  have hP : va_P (dC, dI) vwCl [(q86, .inr (15, [.ref q87, .ref q88, .ref q89, .ref q90, .ref q91, .ref q92, .int 0, .int 1, .ref q93, .int 0, .ref q94, .null, .ref q95, .null, .ref q96, .ref q97, .ref q98, .ref q99, .ref q100, .int 0, .ref q101, .ref q102, .ref q103, .ref q104, .ref q105, .int 0, .int 0]))] H := hP
  have hD : va_D (fun q : Nat => s.heap.size ≤ q) [(q86, .inr (15, [.ref q87, .ref q88, .ref q89, .ref q90, .ref q91, .ref q92, .int 0, .int 1, .ref q93, .int 0, .ref q94, .null, .ref q95, .null, .ref q96, .ref q97, .ref q98, .ref q99, .ref q100, .int 0, .ref q101, .ref q102, .ref q103, .ref q104, .ref q105, .int 0, .int 0]))] := hD
  have hK : va_K (dC, dI) vwCl [] s := hK
  refine W.widen (k := 131) (n := 6692) (Nat.le_of_ble_eq_true rfl) (Nat.le_of_ble_eq_true rfl) ?_
  refine lv_aload_n hx hb dL_law_843 rfl (lv_at hl 2 rfl) ?_
  have hPc := hP.sub (ws' := [(q86, .inr (15, [.ref q87, .ref q88, .ref q89, .ref q90, .ref q91, .ref q92, .int 0, .int 1, .ref q93, .int 0, .ref q94, .null, .ref q95, .null, .ref q96, .ref q97, .ref q98, .ref q99, .ref q100, .int 0, .ref q101, .ref q102, .ref q103, .ref q104, .ref q105, .int 0, .int 0]))]) [0] rfl
  have hDc := hD.sub (ws' := [(q86, .inr (15, [.ref q87, .ref q88, .ref q89, .ref q90, .ref q91, .ref q92, .int 0, .int 1, .ref q93, .int 0, .ref q94, .null, .ref q95, .null, .ref q96, .ref q97, .ref q98, .ref q99, .ref q100, .int 0, .ref q101, .ref q102, .ref q103, .ref q104, .ref q105, .int 0, .int 0]))]) [0] (by decide) rfl
  have hKc := hK.sub (tys' := []) [] rfl
  have hFc := va_free (wc := [(q86, .inr (15, [.ref q87, .ref q88, .ref q89, .ref q90, .ref q91, .ref q92, .int 0, .int 1, .ref q93, .int 0, .ref q94, .null, .ref q95, .null, .ref q96, .ref q97, .ref q98, .ref q99, .ref q100, .int 0, .ref q101, .ref q102, .ref q103, .ref q104, .ref q105, .int 0, .int 0]))]) hD hS hA [0] rfl
  refine va_calli (va_runV (As := []) (rest := [.int 0]) ⟨hx, hb, hml, hown, hts⟩ (c_X13_words l dC dI q86 q87 q88 q89 q90 q91 q92 q93 q94 q95 q96 q97 q98 q99 q100 q101 q102 q103 q104 q105 H.size  ) (cwV 0 hts gL_law_X13_words rfl rfl rfl (by decide +kernel) ⟨Nat.le_of_ble_eq_true rfl, Nat.le_of_ble_eq_true rfl⟩) ⟨zB_blind, va_recv hK hP (ci := 15) (q0 := 0) rfl rfl, (zPre hPc hDc hKc hS hFc hZ hN)⟩ rfl rfl hl.1 rfl (lv_room (Nat.le_of_ble_eq_true rfl)) dL_law_844 ⟨Nat.le_of_ble_eq_true rfl, Nat.le_of_ble_eq_true rfl⟩) hS (fun q _ h => hFc q h) hFc (fun r u t H1 locs ht hvm hw hB hz1 hk1 hS => ?_)
  subst hw
  obtain ⟨hP1, hK1, hD1⟩ := hB
  rw [ht] at hP1
  have hK1 := va_K.moved hvm.symm hK1
  obtain ⟨hP, hD⟩ := va_join (wr := []) (w1 := []) hP hD [0] [] rfl rfl (by decide) (by decide) hk1 hFc hP1 hD1
  have hK := (hK.sub (tys' := []) [] rfl).app hK1
  generalize H1 = H at hP hS ⊢
  have hP : va_P (dC, dI) vwCl [] H := hP
  have hD : va_D (fun q : Nat => s.heap.size ≤ q) [] := hD
  have hK : va_K (dC, dI) vwCl [] s := hK
  refine W.widen (k := 133) (n := 10532) (Nat.le_of_ble_eq_true rfl) (Nat.le_of_ble_eq_true rfl) ?_
  refine lv_icmp_eq (tgt := 2311) hx hb dL_law_847 (by decide) (fun _ => ?_) (fun h9 => absurd (show (0 : Int32) = (0 : Int32) by decide +kernel) h9)
  exact law_exit C0 hS (Nat.le_of_ble_eq_true rfl) (Nat.le_of_ble_eq_true rfl) ls (lv_sub hl [0, 1, 2, 3, 4] rfl)
set_option maxHeartbeats 8000000 in
set_option maxRecDepth 100000 in
theorem law_case_13 {p : Program} {l : Launch} {e : Env} {s : State} {m : MethodId} {below : List Frame} {meth : Method} {c : Code} {b : Nat} {xs : Nat → Int32} (hfl : l.stackTraces = false) (C0 : lw_At p s m meth c b 4 xs) {dC : Nat → ClassId} {dI : Nat → Nat → Nat} {q0 q1 q3 q5 q7 q9 q11 q13 q15 q17 q21 q25 q26 q27 q2 q4 q6 q8 q10 q16 q18 q22 q23 q86 q87 q88 q89 q90 q91 q92 q93 q94 q95 q96 q97 q98 q99 q100 q101 q102 q103 q104 q105 q106 : Nat} {k2 k4 k87 k88 k89 k90 k91 k92 k93 k94 k96 k106 : ClassId} {H : Heap} {locs : List Loc} (hK : va_K (dC, dI) vwCl [(k2, .char), (k4, (.object "Seekwell$Text")), (k87, .boolean), (k88, .int), (k89, .int), (k90, .char), (k91, (.array .long)), (k92, (.array .long)), (k93, .int), (k94, .int), (k96, .boolean), (k106, .long)] s) (hP : va_P (dC, dI) vwCl [(q0, .inr (13, [.ref q1, .ref q3, .ref q5, .ref q7, .ref q9, .ref q11, .ref q13, .ref q15, .int 0, .ref q17, .ref q21, .ref q25, .ref q26, .ref q27])), (q1, .inr (7, [.ref q2, .int 0])), (q2, .inl (k2, 512, .inl (fun _ => 0))), (q3, .inr (11, [.ref q4, .int 0, .int 1])), (q4, .inl (k4, 24, .inr (.inr (.inr (.inr (fun _ => none)))))), (q5, .inr (11, [.ref q6, .int 0, .int 1])), (q7, .inr (10, [.ref q8, .int 0])), (q9, .inr (5, [.ref q10, .int 0, .int 0])), (q15, .inr (5, [.ref q16, .int 0, .int 0])), (q17, .inr (9, [.ref q18, .ref q18, .null])), (q21, .inr (9, [.ref q22, .ref q22, .null])), (q22, .inr (8, [.int 0, .int 0, .int 1, .int 0, .int 0, .int 0, .ref q23, .null, .null, .null, .null, .int 0, .int 0, .int 0, .int 0, .null, .null])), (q26, .inr (3, [.null, .null, .int 0, .int 0, .null])), (q86, .inr (15, [.ref q87, .ref q88, .ref q89, .ref q90, .ref q91, .ref q92, .int 0, .int 1, .ref q93, .int 0, .ref q94, .null, .ref q95, .null, .ref q96, .ref q97, .ref q98, .ref q99, .ref q100, .int 0, .ref q101, .ref q102, .ref q103, .ref q104, .ref q105, .int 0, .int 0])), (q87, .inl (k87, 24, .inl (fun _ => 0))), (q88, .inl (k88, 24, .inl (fun _ => 0))), (q89, .inl (k89, 24, .inl (fun _ => 0))), (q90, .inl (k90, 24, .inl (fun _ => 0))), (q91, .inl (k91, 24, .inr (.inr (.inr (.inr (fun _ => none)))))), (q92, .inl (k92, 24, .inr (.inr (.inr (.inr (fun _ => none)))))), (q93, .inl (k93, 4000, .inl (fun _ => 0))), (q94, .inl (k94, 0, .inl (fun _ => 0))), (q96, .inl (k96, 24, .inl (fun _ => 0))), (q106, .inl (k106, 1, .inr (.inl (fun _ => 0))))] H) (hD : va_D (fun q : Nat => s.heap.size ≤ q) [(q0, .inr (13, [.ref q1, .ref q3, .ref q5, .ref q7, .ref q9, .ref q11, .ref q13, .ref q15, .int 0, .ref q17, .ref q21, .ref q25, .ref q26, .ref q27])), (q1, .inr (7, [.ref q2, .int 0])), (q2, .inl (k2, 512, .inl (fun _ => 0))), (q3, .inr (11, [.ref q4, .int 0, .int 1])), (q4, .inl (k4, 24, .inr (.inr (.inr (.inr (fun _ => none)))))), (q5, .inr (11, [.ref q6, .int 0, .int 1])), (q7, .inr (10, [.ref q8, .int 0])), (q9, .inr (5, [.ref q10, .int 0, .int 0])), (q15, .inr (5, [.ref q16, .int 0, .int 0])), (q17, .inr (9, [.ref q18, .ref q18, .null])), (q21, .inr (9, [.ref q22, .ref q22, .null])), (q22, .inr (8, [.int 0, .int 0, .int 1, .int 0, .int 0, .int 0, .ref q23, .null, .null, .null, .null, .int 0, .int 0, .int 0, .int 0, .null, .null])), (q26, .inr (3, [.null, .null, .int 0, .int 0, .null])), (q86, .inr (15, [.ref q87, .ref q88, .ref q89, .ref q90, .ref q91, .ref q92, .int 0, .int 1, .ref q93, .int 0, .ref q94, .null, .ref q95, .null, .ref q96, .ref q97, .ref q98, .ref q99, .ref q100, .int 0, .ref q101, .ref q102, .ref q103, .ref q104, .ref q105, .int 0, .int 0])), (q87, .inl (k87, 24, .inl (fun _ => 0))), (q88, .inl (k88, 24, .inl (fun _ => 0))), (q89, .inl (k89, 24, .inl (fun _ => 0))), (q90, .inl (k90, 24, .inl (fun _ => 0))), (q91, .inl (k91, 24, .inr (.inr (.inr (.inr (fun _ => none)))))), (q92, .inl (k92, 24, .inr (.inr (.inr (.inr (fun _ => none)))))), (q93, .inl (k93, 4000, .inl (fun _ => 0))), (q94, .inl (k94, 0, .inl (fun _ => 0))), (q96, .inl (k96, 24, .inl (fun _ => 0))), (q106, .inl (k106, 1, .inr (.inl (fun _ => 0))))]) (hS : va_S (fun q : Nat => s.heap.size ≤ q) s.heap H locs) (hZ : zZ (fun q : Nat => s.heap.size ≤ q) s s.heap) (hN : zN s) (ls : Array Slot) (hl : lv_has ls 7 [(4, .int 0), (3, .ref q106), (2, .ref q86), (1, .ref q0), (0, .ref b)]) : W p l e room_1 s m #[Value.ref b] below meth c H locs 131 6692 (lw_Z below #[Value.ref b] s) (F0 m 852 ls []) := by
  obtain ⟨hx, hb, hr, hml, hown, hts, hX, hbl, hlocks, hgv⟩ := id C0
  have hbA : ¬ (fun q : Nat => s.heap.size ≤ q) b := Nat.not_le.mpr hbl
  have hA : ∀ q : Nat, s.heap.size ≤ q → (fun q : Nat => s.heap.size ≤ q) q := fun _ h => h
  by_cases hb0 : (xs 1) < (0 : Int32)
  · skip
    have hc0 : (xs 1) < (0 : Int32) := hb0
    refine lv_aload_n hx hb dL_law_852 rfl (lv_at hl 3 rfl) ?_
    refine lv_aload_n hx hb dL_law_853 rfl (lv_at hl 4 rfl) ?_
    refine lv_iload hx hb dL_law_854 (lv_at hl 0 rfl) ?_
    refine lv_iconst (v := 1) hx hb dL_law_856 (by decide +kernel) ?_
    refine lv_iadd hx hb dL_law_857 ?_
    refine zt_i (v := 1) (by decide +kernel) ?_
    refine va_sld hx hb hX hbl hbA hS (i := 1) (zin (by decide +kernel)) dL_law_858 ?_
    refine zt_v (w := .int (xs 1)) rfl ?_
    refine lv_aload_n hx hb dL_law_859 rfl (lv_at hl 1 rfl) ?_
    have hPc := hP.sub (ws' := [(q0, .inr (13, [.ref q1, .ref q3, .ref q5, .ref q7, .ref q9, .ref q11, .ref q13, .ref q15, .int 0, .ref q17, .ref q21, .ref q25, .ref q26, .ref q27])), (q3, .inr (11, [.ref q4, .int 0, .int 1])), (q7, .inr (10, [.ref q8, .int 0]))]) [0, 3, 6] rfl
    have hDc := hD.sub (ws' := [(q0, .inr (13, [.ref q1, .ref q3, .ref q5, .ref q7, .ref q9, .ref q11, .ref q13, .ref q15, .int 0, .ref q17, .ref q21, .ref q25, .ref q26, .ref q27])), (q3, .inr (11, [.ref q4, .int 0, .int 1])), (q7, .inr (10, [.ref q8, .int 0]))]) [0, 3, 6] (by decide) rfl
    have hKc := hK.sub (tys' := []) [] rfl
    have hFc := va_free (wc := [(q0, .inr (13, [.ref q1, .ref q3, .ref q5, .ref q7, .ref q9, .ref q11, .ref q13, .ref q15, .int 0, .ref q17, .ref q21, .ref q25, .ref q26, .ref q27])), (q3, .inr (11, [.ref q4, .int 0, .int 1])), (q7, .inr (10, [.ref q8, .int 0]))]) hD hS hA [0, 3, 6] rfl
    refine va_calli (vx_runSW (As := [.ref q0, .int (xs 1), .ref q106]) (rest := []) ⟨hx, hb, hml, hown, hts⟩ (c_L_tellOf l hfl dC dI q0 q106 q1 q3 q5 q7 q9 q11 q13 q15 q17 q21 q25 q26 q27 q4 q8 H.size (xs 1) hc0) (vx_cwSW 3 hts gL_law_L_tellOf rfl rfl rfl (by decide +kernel) ⟨Nat.le_of_ble_eq_true rfl, Nat.le_of_ble_eq_true rfl⟩) ⟨zB_blind, (zPre hPc hDc hKc hS hFc hZ hN)⟩ rfl rfl hl.1 rfl (lv_room (Nat.le_of_ble_eq_true rfl)) dL_law_860 ⟨Nat.le_of_ble_eq_true rfl, Nat.le_of_ble_eq_true rfl⟩) hS (fun q _ h => hFc q h) hFc (fun r u t H1 locs ht hvm hw hB hz1 hk1 hS => ?_)
    subst hw
    obtain ⟨hP1, hK1, hD1⟩ := hB
    rw [ht] at hP1
    have hK1 := va_K.moved hvm.symm hK1
    obtain ⟨hP, hD⟩ := va_join (wr := [(q86, .inr (15, [.ref q87, .ref q88, .ref q89, .ref q90, .ref q91, .ref q92, .int 0, .int 1, .ref q93, .int 0, .ref q94, .null, .ref q95, .null, .ref q96, .ref q97, .ref q98, .ref q99, .ref q100, .int 0, .ref q101, .ref q102, .ref q103, .ref q104, .ref q105, .int 0, .int 0]))]) (w1 := []) hP hD [0, 3, 6] [13] rfl rfl (by decide) (by decide) hk1 hFc hP1 hD1
    have hK := (hK.sub (tys' := []) [] rfl).app hK1
    generalize H1 = H at hP hS ⊢
    have hP : va_P (dC, dI) vwCl [(q86, .inr (15, [.ref q87, .ref q88, .ref q89, .ref q90, .ref q91, .ref q92, .int 0, .int 1, .ref q93, .int 0, .ref q94, .null, .ref q95, .null, .ref q96, .ref q97, .ref q98, .ref q99, .ref q100, .int 0, .ref q101, .ref q102, .ref q103, .ref q104, .ref q105, .int 0, .int 0]))] H := hP
    have hD : va_D (fun q : Nat => s.heap.size ≤ q) [(q86, .inr (15, [.ref q87, .ref q88, .ref q89, .ref q90, .ref q91, .ref q92, .int 0, .int 1, .ref q93, .int 0, .ref q94, .null, .ref q95, .null, .ref q96, .ref q97, .ref q98, .ref q99, .ref q100, .int 0, .ref q101, .ref q102, .ref q103, .ref q104, .ref q105, .int 0, .int 0]))] := hD
    have hK : va_K (dC, dI) vwCl [] s := hK
    refine W.widen (k := 132) (n := 6698) (Nat.le_of_ble_eq_true rfl) (Nat.le_of_ble_eq_true rfl) ?_
    refine lv_istore (lv' := [(5, .int 1), (4, .int 0), (3, .ref q106), (2, .ref q86), (1, .ref q0), (0, .ref b)]) hx hb dL_law_863 hl (by decide) rfl (fun ls hl => ?_)
    refine lv_aload_n hx hb dL_law_865 rfl (lv_at hl 3 rfl) ?_
    refine lv_aload_n hx hb dL_law_866 rfl (lv_at hl 5 rfl) ?_
    refine lv_iload hx hb dL_law_867 (lv_at hl 1 rfl) ?_
    refine lv_iconst (v := 1) hx hb dL_law_869 (by decide +kernel) ?_
    refine lv_iadd hx hb dL_law_870 ?_
    refine zt_i (v := 1) (by decide +kernel) ?_
    refine va_sld hx hb hX hbl hbA hS (i := 1) (zin (by decide +kernel)) dL_law_871 ?_
    refine zt_v (w := .int (xs 1)) rfl ?_
    have hPc := hP.sub (ws' := [(q86, .inr (15, [.ref q87, .ref q88, .ref q89, .ref q90, .ref q91, .ref q92, .int 0, .int 1, .ref q93, .int 0, .ref q94, .null, .ref q95, .null, .ref q96, .ref q97, .ref q98, .ref q99, .ref q100, .int 0, .ref q101, .ref q102, .ref q103, .ref q104, .ref q105, .int 0, .int 0]))]) [0] rfl
    have hDc := hD.sub (ws' := [(q86, .inr (15, [.ref q87, .ref q88, .ref q89, .ref q90, .ref q91, .ref q92, .int 0, .int 1, .ref q93, .int 0, .ref q94, .null, .ref q95, .null, .ref q96, .ref q97, .ref q98, .ref q99, .ref q100, .int 0, .ref q101, .ref q102, .ref q103, .ref q104, .ref q105, .int 0, .int 0]))]) [0] (by decide) rfl
    have hKc := hK.sub (tys' := []) [] rfl
    have hFc := va_free (wc := [(q86, .inr (15, [.ref q87, .ref q88, .ref q89, .ref q90, .ref q91, .ref q92, .int 0, .int 1, .ref q93, .int 0, .ref q94, .null, .ref q95, .null, .ref q96, .ref q97, .ref q98, .ref q99, .ref q100, .int 0, .ref q101, .ref q102, .ref q103, .ref q104, .ref q105, .int 0, .int 0]))]) hD hS hA [0] rfl
    refine va_calli (va_runV (As := [.int (xs 1)]) (rest := []) ⟨hx, hb, hml, hown, hts⟩ (c_X13_tellOf l dC dI q86 q87 q88 q89 q90 q91 q92 q93 q94 q95 q96 q97 q98 q99 q100 q101 q102 q103 q104 q105 H.size (xs 1) hc0) (cwV 1 hts gL_law_X13_tellOf rfl rfl rfl (by decide +kernel) ⟨Nat.le_of_ble_eq_true rfl, Nat.le_of_ble_eq_true rfl⟩) ⟨zB_blind, va_recv hK hP (ci := 15) (q0 := 0) rfl rfl, (zPre hPc hDc hKc hS hFc hZ hN)⟩ rfl rfl hl.1 rfl (lv_room (Nat.le_of_ble_eq_true rfl)) dL_law_872 ⟨Nat.le_of_ble_eq_true rfl, Nat.le_of_ble_eq_true rfl⟩) hS (fun q _ h => hFc q h) hFc (fun r u t H1 locs ht hvm hw hB hz1 hk1 hS => ?_)
    subst hw
    obtain ⟨hP1, hK1, hD1⟩ := hB
    rw [ht] at hP1
    have hK1 := va_K.moved hvm.symm hK1
    obtain ⟨hP, hD⟩ := va_join (wr := []) (w1 := [(q86, .inr (15, [.ref q87, .ref q88, .ref q89, .ref q90, .ref q91, .ref q92, .int 0, .int 1, .ref q93, .int 0, .ref q94, .null, .ref q95, .null, .ref q96, .ref q97, .ref q98, .ref q99, .ref q100, .int 1, .ref q101, .ref q102, .ref q103, .ref q104, .ref q105, .int 0, .int 0]))]) hP hD [0] [] rfl rfl (by decide) (by decide) hk1 hFc hP1 hD1
    have hK := (hK.sub (tys' := []) [] rfl).app hK1
    generalize H1 = H at hP hS ⊢
    have hP : va_P (dC, dI) vwCl [(q86, .inr (15, [.ref q87, .ref q88, .ref q89, .ref q90, .ref q91, .ref q92, .int 0, .int 1, .ref q93, .int 0, .ref q94, .null, .ref q95, .null, .ref q96, .ref q97, .ref q98, .ref q99, .ref q100, .int 1, .ref q101, .ref q102, .ref q103, .ref q104, .ref q105, .int 0, .int 0]))] H := hP
    have hD : va_D (fun q : Nat => s.heap.size ≤ q) [(q86, .inr (15, [.ref q87, .ref q88, .ref q89, .ref q90, .ref q91, .ref q92, .int 0, .int 1, .ref q93, .int 0, .ref q94, .null, .ref q95, .null, .ref q96, .ref q97, .ref q98, .ref q99, .ref q100, .int 1, .ref q101, .ref q102, .ref q103, .ref q104, .ref q105, .int 0, .int 0]))] := hD
    have hK : va_K (dC, dI) vwCl [] s := hK
    refine W.widen (k := 134) (n := 10538) (Nat.le_of_ble_eq_true rfl) (Nat.le_of_ble_eq_true rfl) ?_
    refine lv_istore (lv' := [(6, .int 0), (5, .int 1), (4, .int 0), (3, .ref q106), (2, .ref q86), (1, .ref q0), (0, .ref b)]) hx hb dL_law_875 hl (by decide) rfl (fun ls hl => ?_)
    refine lv_aload_n hx hb dL_law_877 rfl (lv_at hl 4 rfl) ?_
    have hPc := hP.sub (ws' := [(q86, .inr (15, [.ref q87, .ref q88, .ref q89, .ref q90, .ref q91, .ref q92, .int 0, .int 1, .ref q93, .int 0, .ref q94, .null, .ref q95, .null, .ref q96, .ref q97, .ref q98, .ref q99, .ref q100, .int 1, .ref q101, .ref q102, .ref q103, .ref q104, .ref q105, .int 0, .int 0]))]) [0] rfl
    have hDc := hD.sub (ws' := [(q86, .inr (15, [.ref q87, .ref q88, .ref q89, .ref q90, .ref q91, .ref q92, .int 0, .int 1, .ref q93, .int 0, .ref q94, .null, .ref q95, .null, .ref q96, .ref q97, .ref q98, .ref q99, .ref q100, .int 1, .ref q101, .ref q102, .ref q103, .ref q104, .ref q105, .int 0, .int 0]))]) [0] (by decide) rfl
    have hKc := hK.sub (tys' := []) [] rfl
    have hFc := va_free (wc := [(q86, .inr (15, [.ref q87, .ref q88, .ref q89, .ref q90, .ref q91, .ref q92, .int 0, .int 1, .ref q93, .int 0, .ref q94, .null, .ref q95, .null, .ref q96, .ref q97, .ref q98, .ref q99, .ref q100, .int 1, .ref q101, .ref q102, .ref q103, .ref q104, .ref q105, .int 0, .int 0]))]) hD hS hA [0] rfl
    refine va_calli (va_runV (As := []) (rest := []) ⟨hx, hb, hml, hown, hts⟩ (c_X13_thrown l dC dI q86 q87 q88 q89 q90 q91 q92 q93 q94 q95 q96 q97 q98 q99 q100 q101 q102 q103 q104 q105 H.size  ) (cwV 0 hts gL_law_X13_thrown rfl rfl rfl (by decide +kernel) ⟨Nat.le_of_ble_eq_true rfl, Nat.le_of_ble_eq_true rfl⟩) ⟨zB_blind, va_recv hK hP (ci := 15) (q0 := 0) rfl rfl, (zPre hPc hDc hKc hS hFc hZ hN)⟩ rfl rfl hl.1 rfl (lv_room (Nat.le_of_ble_eq_true rfl)) dL_law_878 ⟨Nat.le_of_ble_eq_true rfl, Nat.le_of_ble_eq_true rfl⟩) hS (fun q _ h => hFc q h) hFc (fun r u t H1 locs ht hvm hw hB hz1 hk1 hS => ?_)
    subst hw
    obtain ⟨hP1, hK1, hD1⟩ := hB
    rw [ht] at hP1
    have hK1 := va_K.moved hvm.symm hK1
    obtain ⟨hP, hD⟩ := va_join (wr := []) (w1 := []) hP hD [0] [] rfl rfl (by decide) (by decide) hk1 hFc hP1 hD1
    have hK := (hK.sub (tys' := []) [] rfl).app hK1
    generalize H1 = H at hP hS ⊢
    have hP : va_P (dC, dI) vwCl [] H := hP
    have hD : va_D (fun q : Nat => s.heap.size ≤ q) [] := hD
    have hK : va_K (dC, dI) vwCl [] s := hK
    refine W.widen (k := 134) (n := 10538) (Nat.le_of_ble_eq_true rfl) (Nat.le_of_ble_eq_true rfl) ?_
    refine lv_iload hx hb dL_law_881 (lv_at hl 1 rfl) ?_
    refine lv_icmp_eq (tgt := 888) hx hb dL_law_883 (by decide) (fun _ => ?_) (fun h9 => absurd (show (1 : Int32) = (1 : Int32) by decide +kernel) h9)
    refine lv_iload hx hb dL_law_888 (lv_at hl 1 rfl) ?_
    refine lv_if_ne (tgt := 905) hx hb dL_law_890 (by decide) (fun _ => ?_) (fun h9 => absurd h9 (show ¬ (1 : Int32) = (0 : Int32) by decide +kernel))
    refine lv_goto (tgt := 2311) hx hb dL_law_905 (by decide) ?_
    exact law_exit C0 hS (Nat.le_of_ble_eq_true rfl) (Nat.le_of_ble_eq_true rfl) ls (lv_sub hl [2, 3, 4, 5, 6] rfl)
  · skip
    have hc0 : ¬ (xs 1) < (0 : Int32) := hb0
    have hc1 : ((-1) : Int32) < (xs 1) := zd_3 hb0
    refine lv_aload_n hx hb dL_law_852 rfl (lv_at hl 3 rfl) ?_
    refine lv_aload_n hx hb dL_law_853 rfl (lv_at hl 4 rfl) ?_
    refine lv_iload hx hb dL_law_854 (lv_at hl 0 rfl) ?_
    refine lv_iconst (v := 1) hx hb dL_law_856 (by decide +kernel) ?_
    refine lv_iadd hx hb dL_law_857 ?_
    refine zt_i (v := 1) (by decide +kernel) ?_
    refine va_sld hx hb hX hbl hbA hS (i := 1) (zin (by decide +kernel)) dL_law_858 ?_
    refine zt_v (w := .int (xs 1)) rfl ?_
    refine lv_aload_n hx hb dL_law_859 rfl (lv_at hl 1 rfl) ?_
    have hPc := hP.sub (ws' := [(q0, .inr (13, [.ref q1, .ref q3, .ref q5, .ref q7, .ref q9, .ref q11, .ref q13, .ref q15, .int 0, .ref q17, .ref q21, .ref q25, .ref q26, .ref q27])), (q3, .inr (11, [.ref q4, .int 0, .int 1])), (q7, .inr (10, [.ref q8, .int 0]))]) [0, 3, 6] rfl
    have hDc := hD.sub (ws' := [(q0, .inr (13, [.ref q1, .ref q3, .ref q5, .ref q7, .ref q9, .ref q11, .ref q13, .ref q15, .int 0, .ref q17, .ref q21, .ref q25, .ref q26, .ref q27])), (q3, .inr (11, [.ref q4, .int 0, .int 1])), (q7, .inr (10, [.ref q8, .int 0]))]) [0, 3, 6] (by decide) rfl
    have hKc := hK.sub (tys' := []) [] rfl
    have hFc := va_free (wc := [(q0, .inr (13, [.ref q1, .ref q3, .ref q5, .ref q7, .ref q9, .ref q11, .ref q13, .ref q15, .int 0, .ref q17, .ref q21, .ref q25, .ref q26, .ref q27])), (q3, .inr (11, [.ref q4, .int 0, .int 1])), (q7, .inr (10, [.ref q8, .int 0]))]) hD hS hA [0, 3, 6] rfl
    refine va_calli (vx_runSW (As := [.ref q0, .int (xs 1), .ref q106]) (rest := []) ⟨hx, hb, hml, hown, hts⟩ (c_L_tellOf_2 l hfl dC dI q0 q106 q1 q3 q5 q7 q9 q11 q13 q15 q17 q21 q25 q26 q27 q4 q8 H.size (xs 1) hc0) (vx_cwSW 3 hts gL_law_L_tellOf rfl rfl rfl (by decide +kernel) ⟨Nat.le_of_ble_eq_true rfl, Nat.le_of_ble_eq_true rfl⟩) ⟨zB_blind, (zPre hPc hDc hKc hS hFc hZ hN)⟩ rfl rfl hl.1 rfl (lv_room (Nat.le_of_ble_eq_true rfl)) dL_law_860 ⟨Nat.le_of_ble_eq_true rfl, Nat.le_of_ble_eq_true rfl⟩) hS (fun q _ h => hFc q h) hFc (fun r u t H1 locs ht hvm hw hB hz1 hk1 hS => ?_)
    subst hw
    obtain ⟨hP1, hK1, hD1⟩ := hB
    rw [ht] at hP1
    have hK1 := va_K.moved hvm.symm hK1
    obtain ⟨hP, hD⟩ := va_join (wr := [(q86, .inr (15, [.ref q87, .ref q88, .ref q89, .ref q90, .ref q91, .ref q92, .int 0, .int 1, .ref q93, .int 0, .ref q94, .null, .ref q95, .null, .ref q96, .ref q97, .ref q98, .ref q99, .ref q100, .int 0, .ref q101, .ref q102, .ref q103, .ref q104, .ref q105, .int 0, .int 0]))]) (w1 := []) hP hD [0, 3, 6] [13] rfl rfl (by decide) (by decide) hk1 hFc hP1 hD1
    have hK := (hK.sub (tys' := []) [] rfl).app hK1
    generalize H1 = H at hP hS ⊢
    have hP : va_P (dC, dI) vwCl [(q86, .inr (15, [.ref q87, .ref q88, .ref q89, .ref q90, .ref q91, .ref q92, .int 0, .int 1, .ref q93, .int 0, .ref q94, .null, .ref q95, .null, .ref q96, .ref q97, .ref q98, .ref q99, .ref q100, .int 0, .ref q101, .ref q102, .ref q103, .ref q104, .ref q105, .int 0, .int 0]))] H := hP
    have hD : va_D (fun q : Nat => s.heap.size ≤ q) [(q86, .inr (15, [.ref q87, .ref q88, .ref q89, .ref q90, .ref q91, .ref q92, .int 0, .int 1, .ref q93, .int 0, .ref q94, .null, .ref q95, .null, .ref q96, .ref q97, .ref q98, .ref q99, .ref q100, .int 0, .ref q101, .ref q102, .ref q103, .ref q104, .ref q105, .int 0, .int 0]))] := hD
    have hK : va_K (dC, dI) vwCl [] s := hK
    refine W.widen (k := 132) (n := 6698) (Nat.le_of_ble_eq_true rfl) (Nat.le_of_ble_eq_true rfl) ?_
    refine lv_istore (lv' := [(5, .int 1), (4, .int 0), (3, .ref q106), (2, .ref q86), (1, .ref q0), (0, .ref b)]) hx hb dL_law_863 hl (by decide) rfl (fun ls hl => ?_)
    refine lv_aload_n hx hb dL_law_865 rfl (lv_at hl 3 rfl) ?_
    refine lv_aload_n hx hb dL_law_866 rfl (lv_at hl 5 rfl) ?_
    refine lv_iload hx hb dL_law_867 (lv_at hl 1 rfl) ?_
    refine lv_iconst (v := 1) hx hb dL_law_869 (by decide +kernel) ?_
    refine lv_iadd hx hb dL_law_870 ?_
    refine zt_i (v := 1) (by decide +kernel) ?_
    refine va_sld hx hb hX hbl hbA hS (i := 1) (zin (by decide +kernel)) dL_law_871 ?_
    refine zt_v (w := .int (xs 1)) rfl ?_
    have hPc := hP.sub (ws' := [(q86, .inr (15, [.ref q87, .ref q88, .ref q89, .ref q90, .ref q91, .ref q92, .int 0, .int 1, .ref q93, .int 0, .ref q94, .null, .ref q95, .null, .ref q96, .ref q97, .ref q98, .ref q99, .ref q100, .int 0, .ref q101, .ref q102, .ref q103, .ref q104, .ref q105, .int 0, .int 0]))]) [0] rfl
    have hDc := hD.sub (ws' := [(q86, .inr (15, [.ref q87, .ref q88, .ref q89, .ref q90, .ref q91, .ref q92, .int 0, .int 1, .ref q93, .int 0, .ref q94, .null, .ref q95, .null, .ref q96, .ref q97, .ref q98, .ref q99, .ref q100, .int 0, .ref q101, .ref q102, .ref q103, .ref q104, .ref q105, .int 0, .int 0]))]) [0] (by decide) rfl
    have hKc := hK.sub (tys' := []) [] rfl
    have hFc := va_free (wc := [(q86, .inr (15, [.ref q87, .ref q88, .ref q89, .ref q90, .ref q91, .ref q92, .int 0, .int 1, .ref q93, .int 0, .ref q94, .null, .ref q95, .null, .ref q96, .ref q97, .ref q98, .ref q99, .ref q100, .int 0, .ref q101, .ref q102, .ref q103, .ref q104, .ref q105, .int 0, .int 0]))]) hD hS hA [0] rfl
    refine va_calli (va_runV (As := [.int (xs 1)]) (rest := []) ⟨hx, hb, hml, hown, hts⟩ (c_X13_tellOf_2 l dC dI q86 q87 q88 q89 q90 q91 q92 q93 q94 q95 q96 q97 q98 q99 q100 q101 q102 q103 q104 q105 H.size (xs 1) hc0 hc1) (cwV 1 hts gL_law_X13_tellOf rfl rfl rfl (by decide +kernel) ⟨Nat.le_of_ble_eq_true rfl, Nat.le_of_ble_eq_true rfl⟩) ⟨zB_blind, va_recv hK hP (ci := 15) (q0 := 0) rfl rfl, (zPre hPc hDc hKc hS hFc hZ hN)⟩ rfl rfl hl.1 rfl (lv_room (Nat.le_of_ble_eq_true rfl)) dL_law_872 ⟨Nat.le_of_ble_eq_true rfl, Nat.le_of_ble_eq_true rfl⟩) hS (fun q _ h => hFc q h) hFc (fun r u t H1 locs ht hvm hw hB hz1 hk1 hS => ?_)
    subst hw
    obtain ⟨hP1, hK1, hD1⟩ := hB
    rw [ht] at hP1
    have hK1 := va_K.moved hvm.symm hK1
    obtain ⟨hP, hD⟩ := va_join (wr := []) (w1 := [(q86, .inr (15, [.ref q87, .ref q88, .ref q89, .ref q90, .ref q91, .ref q92, .int 0, .int 1, .ref q93, .int 0, .ref q94, .null, .ref q95, .null, .ref q96, .ref q97, .ref q98, .ref q99, .ref q100, .int 1, .ref q101, .ref q102, .ref q103, .ref q104, .ref q105, .int 0, .int 0]))]) hP hD [0] [] rfl rfl (by decide) (by decide) hk1 hFc hP1 hD1
    have hK := (hK.sub (tys' := []) [] rfl).app hK1
    generalize H1 = H at hP hS ⊢
    have hP : va_P (dC, dI) vwCl [(q86, .inr (15, [.ref q87, .ref q88, .ref q89, .ref q90, .ref q91, .ref q92, .int 0, .int 1, .ref q93, .int 0, .ref q94, .null, .ref q95, .null, .ref q96, .ref q97, .ref q98, .ref q99, .ref q100, .int 1, .ref q101, .ref q102, .ref q103, .ref q104, .ref q105, .int 0, .int 0]))] H := hP
    have hD : va_D (fun q : Nat => s.heap.size ≤ q) [(q86, .inr (15, [.ref q87, .ref q88, .ref q89, .ref q90, .ref q91, .ref q92, .int 0, .int 1, .ref q93, .int 0, .ref q94, .null, .ref q95, .null, .ref q96, .ref q97, .ref q98, .ref q99, .ref q100, .int 1, .ref q101, .ref q102, .ref q103, .ref q104, .ref q105, .int 0, .int 0]))] := hD
    have hK : va_K (dC, dI) vwCl [] s := hK
    refine W.widen (k := 134) (n := 10538) (Nat.le_of_ble_eq_true rfl) (Nat.le_of_ble_eq_true rfl) ?_
    refine lv_istore (lv' := [(6, .int 0), (5, .int 1), (4, .int 0), (3, .ref q106), (2, .ref q86), (1, .ref q0), (0, .ref b)]) hx hb dL_law_875 hl (by decide) rfl (fun ls hl => ?_)
    refine lv_aload_n hx hb dL_law_877 rfl (lv_at hl 4 rfl) ?_
    have hPc := hP.sub (ws' := [(q86, .inr (15, [.ref q87, .ref q88, .ref q89, .ref q90, .ref q91, .ref q92, .int 0, .int 1, .ref q93, .int 0, .ref q94, .null, .ref q95, .null, .ref q96, .ref q97, .ref q98, .ref q99, .ref q100, .int 1, .ref q101, .ref q102, .ref q103, .ref q104, .ref q105, .int 0, .int 0]))]) [0] rfl
    have hDc := hD.sub (ws' := [(q86, .inr (15, [.ref q87, .ref q88, .ref q89, .ref q90, .ref q91, .ref q92, .int 0, .int 1, .ref q93, .int 0, .ref q94, .null, .ref q95, .null, .ref q96, .ref q97, .ref q98, .ref q99, .ref q100, .int 1, .ref q101, .ref q102, .ref q103, .ref q104, .ref q105, .int 0, .int 0]))]) [0] (by decide) rfl
    have hKc := hK.sub (tys' := []) [] rfl
    have hFc := va_free (wc := [(q86, .inr (15, [.ref q87, .ref q88, .ref q89, .ref q90, .ref q91, .ref q92, .int 0, .int 1, .ref q93, .int 0, .ref q94, .null, .ref q95, .null, .ref q96, .ref q97, .ref q98, .ref q99, .ref q100, .int 1, .ref q101, .ref q102, .ref q103, .ref q104, .ref q105, .int 0, .int 0]))]) hD hS hA [0] rfl
    refine va_calli (va_runV (As := []) (rest := []) ⟨hx, hb, hml, hown, hts⟩ (c_X13_thrown l dC dI q86 q87 q88 q89 q90 q91 q92 q93 q94 q95 q96 q97 q98 q99 q100 q101 q102 q103 q104 q105 H.size  ) (cwV 0 hts gL_law_X13_thrown rfl rfl rfl (by decide +kernel) ⟨Nat.le_of_ble_eq_true rfl, Nat.le_of_ble_eq_true rfl⟩) ⟨zB_blind, va_recv hK hP (ci := 15) (q0 := 0) rfl rfl, (zPre hPc hDc hKc hS hFc hZ hN)⟩ rfl rfl hl.1 rfl (lv_room (Nat.le_of_ble_eq_true rfl)) dL_law_878 ⟨Nat.le_of_ble_eq_true rfl, Nat.le_of_ble_eq_true rfl⟩) hS (fun q _ h => hFc q h) hFc (fun r u t H1 locs ht hvm hw hB hz1 hk1 hS => ?_)
    subst hw
    obtain ⟨hP1, hK1, hD1⟩ := hB
    rw [ht] at hP1
    have hK1 := va_K.moved hvm.symm hK1
    obtain ⟨hP, hD⟩ := va_join (wr := []) (w1 := []) hP hD [0] [] rfl rfl (by decide) (by decide) hk1 hFc hP1 hD1
    have hK := (hK.sub (tys' := []) [] rfl).app hK1
    generalize H1 = H at hP hS ⊢
    have hP : va_P (dC, dI) vwCl [] H := hP
    have hD : va_D (fun q : Nat => s.heap.size ≤ q) [] := hD
    have hK : va_K (dC, dI) vwCl [] s := hK
    refine W.widen (k := 134) (n := 10538) (Nat.le_of_ble_eq_true rfl) (Nat.le_of_ble_eq_true rfl) ?_
    refine lv_iload hx hb dL_law_881 (lv_at hl 1 rfl) ?_
    refine lv_icmp_eq (tgt := 888) hx hb dL_law_883 (by decide) (fun _ => ?_) (fun h9 => absurd (show (1 : Int32) = (1 : Int32) by decide +kernel) h9)
    refine lv_iload hx hb dL_law_888 (lv_at hl 1 rfl) ?_
    refine lv_if_ne (tgt := 905) hx hb dL_law_890 (by decide) (fun _ => ?_) (fun h9 => absurd h9 (show ¬ (1 : Int32) = (0 : Int32) by decide +kernel))
    refine lv_goto (tgt := 2311) hx hb dL_law_905 (by decide) ?_
    exact law_exit C0 hS (Nat.le_of_ble_eq_true rfl) (Nat.le_of_ble_eq_true rfl) ls (lv_sub hl [2, 3, 4, 5, 6] rfl)
set_option maxHeartbeats 8000000 in
set_option maxRecDepth 100000 in
theorem law_case_14 {p : Program} {l : Launch} {e : Env} {s : State} {m : MethodId} {below : List Frame} {meth : Method} {c : Code} {b : Nat} {xs : Nat → Int32} (hfl : l.stackTraces = false) (C0 : lw_At p s m meth c b 4 xs) {dC : Nat → ClassId} {dI : Nat → Nat → Nat} {q0 q1 q3 q5 q7 q9 q11 q13 q15 q17 q21 q25 q26 q27 q2 q4 q6 q8 q10 q16 q18 q22 q23 q86 q87 q88 q89 q90 q91 q92 q93 q94 q95 q96 q97 q98 q99 q100 q101 q102 q103 q104 q105 q106 : Nat} {k2 k4 k87 k88 k89 k90 k91 k92 k93 k94 k96 k106 : ClassId} {H : Heap} {locs : List Loc} (hK : va_K (dC, dI) vwCl [(k2, .char), (k4, (.object "Seekwell$Text")), (k87, .boolean), (k88, .int), (k89, .int), (k90, .char), (k91, (.array .long)), (k92, (.array .long)), (k93, .int), (k94, .int), (k96, .boolean), (k106, .long)] s) (hP : va_P (dC, dI) vwCl [(q0, .inr (13, [.ref q1, .ref q3, .ref q5, .ref q7, .ref q9, .ref q11, .ref q13, .ref q15, .int 0, .ref q17, .ref q21, .ref q25, .ref q26, .ref q27])), (q1, .inr (7, [.ref q2, .int 0])), (q2, .inl (k2, 512, .inl (fun _ => 0))), (q3, .inr (11, [.ref q4, .int 0, .int 1])), (q4, .inl (k4, 24, .inr (.inr (.inr (.inr (fun _ => none)))))), (q5, .inr (11, [.ref q6, .int 0, .int 1])), (q7, .inr (10, [.ref q8, .int 0])), (q9, .inr (5, [.ref q10, .int 0, .int 0])), (q15, .inr (5, [.ref q16, .int 0, .int 0])), (q17, .inr (9, [.ref q18, .ref q18, .null])), (q21, .inr (9, [.ref q22, .ref q22, .null])), (q22, .inr (8, [.int 0, .int 0, .int 1, .int 0, .int 0, .int 0, .ref q23, .null, .null, .null, .null, .int 0, .int 0, .int 0, .int 0, .null, .null])), (q26, .inr (3, [.null, .null, .int 0, .int 0, .null])), (q86, .inr (15, [.ref q87, .ref q88, .ref q89, .ref q90, .ref q91, .ref q92, .int 0, .int 1, .ref q93, .int 0, .ref q94, .null, .ref q95, .null, .ref q96, .ref q97, .ref q98, .ref q99, .ref q100, .int 0, .ref q101, .ref q102, .ref q103, .ref q104, .ref q105, .int 0, .int 0])), (q87, .inl (k87, 24, .inl (fun _ => 0))), (q88, .inl (k88, 24, .inl (fun _ => 0))), (q89, .inl (k89, 24, .inl (fun _ => 0))), (q90, .inl (k90, 24, .inl (fun _ => 0))), (q91, .inl (k91, 24, .inr (.inr (.inr (.inr (fun _ => none)))))), (q92, .inl (k92, 24, .inr (.inr (.inr (.inr (fun _ => none)))))), (q93, .inl (k93, 4000, .inl (fun _ => 0))), (q94, .inl (k94, 0, .inl (fun _ => 0))), (q96, .inl (k96, 24, .inl (fun _ => 0))), (q106, .inl (k106, 1, .inr (.inl (fun _ => 0))))] H) (hD : va_D (fun q : Nat => s.heap.size ≤ q) [(q0, .inr (13, [.ref q1, .ref q3, .ref q5, .ref q7, .ref q9, .ref q11, .ref q13, .ref q15, .int 0, .ref q17, .ref q21, .ref q25, .ref q26, .ref q27])), (q1, .inr (7, [.ref q2, .int 0])), (q2, .inl (k2, 512, .inl (fun _ => 0))), (q3, .inr (11, [.ref q4, .int 0, .int 1])), (q4, .inl (k4, 24, .inr (.inr (.inr (.inr (fun _ => none)))))), (q5, .inr (11, [.ref q6, .int 0, .int 1])), (q7, .inr (10, [.ref q8, .int 0])), (q9, .inr (5, [.ref q10, .int 0, .int 0])), (q15, .inr (5, [.ref q16, .int 0, .int 0])), (q17, .inr (9, [.ref q18, .ref q18, .null])), (q21, .inr (9, [.ref q22, .ref q22, .null])), (q22, .inr (8, [.int 0, .int 0, .int 1, .int 0, .int 0, .int 0, .ref q23, .null, .null, .null, .null, .int 0, .int 0, .int 0, .int 0, .null, .null])), (q26, .inr (3, [.null, .null, .int 0, .int 0, .null])), (q86, .inr (15, [.ref q87, .ref q88, .ref q89, .ref q90, .ref q91, .ref q92, .int 0, .int 1, .ref q93, .int 0, .ref q94, .null, .ref q95, .null, .ref q96, .ref q97, .ref q98, .ref q99, .ref q100, .int 0, .ref q101, .ref q102, .ref q103, .ref q104, .ref q105, .int 0, .int 0])), (q87, .inl (k87, 24, .inl (fun _ => 0))), (q88, .inl (k88, 24, .inl (fun _ => 0))), (q89, .inl (k89, 24, .inl (fun _ => 0))), (q90, .inl (k90, 24, .inl (fun _ => 0))), (q91, .inl (k91, 24, .inr (.inr (.inr (.inr (fun _ => none)))))), (q92, .inl (k92, 24, .inr (.inr (.inr (.inr (fun _ => none)))))), (q93, .inl (k93, 4000, .inl (fun _ => 0))), (q94, .inl (k94, 0, .inl (fun _ => 0))), (q96, .inl (k96, 24, .inl (fun _ => 0))), (q106, .inl (k106, 1, .inr (.inl (fun _ => 0))))]) (hS : va_S (fun q : Nat => s.heap.size ≤ q) s.heap H locs) (hZ : zZ (fun q : Nat => s.heap.size ≤ q) s s.heap) (hN : zN s) (ls : Array Slot) (hl : lv_has ls 7 [(4, .int 0), (3, .ref q106), (2, .ref q86), (1, .ref q0), (0, .ref b)]) : W p l e room_1 s m #[Value.ref b] below meth c H locs 131 6692 (lw_Z below #[Value.ref b] s) (F0 m 908 ls []) := by
  obtain ⟨hx, hb, hr, hml, hown, hts, hX, hbl, hlocks, hgv⟩ := id C0
  have hbA : ¬ (fun q : Nat => s.heap.size ≤ q) b := Nat.not_le.mpr hbl
  have hA : ∀ q : Nat, s.heap.size ≤ q → (fun q : Nat => s.heap.size ≤ q) q := fun _ h => h
  refine lv_aload_n hx hb dL_law_908 rfl (lv_at hl 3 rfl) ?_
  refine lv_aload_n hx hb dL_law_909 rfl (lv_at hl 1 rfl) ?_
  have hPc := hP.sub (ws' := [(q0, .inr (13, [.ref q1, .ref q3, .ref q5, .ref q7, .ref q9, .ref q11, .ref q13, .ref q15, .int 0, .ref q17, .ref q21, .ref q25, .ref q26, .ref q27])), (q1, .inr (7, [.ref q2, .int 0]))]) [0, 1] rfl
  have hDc := hD.sub (ws' := [(q0, .inr (13, [.ref q1, .ref q3, .ref q5, .ref q7, .ref q9, .ref q11, .ref q13, .ref q15, .int 0, .ref q17, .ref q21, .ref q25, .ref q26, .ref q27])), (q1, .inr (7, [.ref q2, .int 0]))]) [0, 1] (by decide) rfl
  have hKc := hK.sub (tys' := []) [] rfl
  have hFc := va_free (wc := [(q0, .inr (13, [.ref q1, .ref q3, .ref q5, .ref q7, .ref q9, .ref q11, .ref q13, .ref q15, .int 0, .ref q17, .ref q21, .ref q25, .ref q26, .ref q27])), (q1, .inr (7, [.ref q2, .int 0]))]) hD hS hA [0, 1] rfl
  refine va_calli (vx_runSW (As := [.ref q0, .ref q106]) (rest := []) ⟨hx, hb, hml, hown, hts⟩ (c_L_having l hfl dC dI q0 q106 q1 q3 q5 q7 q9 q11 q13 q15 q17 q21 q25 q26 q27 q2 H.size  ) (vx_cwSW 2 hts gL_law_L_having rfl rfl rfl (by decide +kernel) ⟨Nat.le_of_ble_eq_true rfl, Nat.le_of_ble_eq_true rfl⟩) ⟨zB_blind, (zPre hPc hDc hKc hS hFc hZ hN)⟩ rfl rfl hl.1 rfl (lv_room (Nat.le_of_ble_eq_true rfl)) dL_law_910 ⟨Nat.le_of_ble_eq_true rfl, Nat.le_of_ble_eq_true rfl⟩) hS (fun q _ h => hFc q h) hFc (fun r u t H1 locs ht hvm hw hB hz1 hk1 hS => ?_)
  subst hw
  obtain ⟨hP1, hK1, hD1⟩ := hB
  rw [ht] at hP1
  have hK1 := va_K.moved hvm.symm hK1
  obtain ⟨hP, hD⟩ := va_join (wr := [(q86, .inr (15, [.ref q87, .ref q88, .ref q89, .ref q90, .ref q91, .ref q92, .int 0, .int 1, .ref q93, .int 0, .ref q94, .null, .ref q95, .null, .ref q96, .ref q97, .ref q98, .ref q99, .ref q100, .int 0, .ref q101, .ref q102, .ref q103, .ref q104, .ref q105, .int 0, .int 0]))]) (w1 := []) hP hD [0, 1] [13] rfl rfl (by decide) (by decide) hk1 hFc hP1 hD1
  have hK := (hK.sub (tys' := []) [] rfl).app hK1
  generalize H1 = H at hP hS ⊢
  have hP : va_P (dC, dI) vwCl [(q86, .inr (15, [.ref q87, .ref q88, .ref q89, .ref q90, .ref q91, .ref q92, .int 0, .int 1, .ref q93, .int 0, .ref q94, .null, .ref q95, .null, .ref q96, .ref q97, .ref q98, .ref q99, .ref q100, .int 0, .ref q101, .ref q102, .ref q103, .ref q104, .ref q105, .int 0, .int 0]))] H := hP
  have hD : va_D (fun q : Nat => s.heap.size ≤ q) [(q86, .inr (15, [.ref q87, .ref q88, .ref q89, .ref q90, .ref q91, .ref q92, .int 0, .int 1, .ref q93, .int 0, .ref q94, .null, .ref q95, .null, .ref q96, .ref q97, .ref q98, .ref q99, .ref q100, .int 0, .ref q101, .ref q102, .ref q103, .ref q104, .ref q105, .int 0, .int 0]))] := hD
  have hK : va_K (dC, dI) vwCl [] s := hK
  refine W.widen (k := 132) (n := 6698) (Nat.le_of_ble_eq_true rfl) (Nat.le_of_ble_eq_true rfl) ?_
  refine lv_istore (lv' := [(5, .int 1), (4, .int 0), (3, .ref q106), (2, .ref q86), (1, .ref q0), (0, .ref b)]) hx hb dL_law_913 hl (by decide) rfl (fun ls hl => ?_)
  refine lv_aload_n hx hb dL_law_915 rfl (lv_at hl 3 rfl) ?_
  have hPc := hP.sub (ws' := [(q86, .inr (15, [.ref q87, .ref q88, .ref q89, .ref q90, .ref q91, .ref q92, .int 0, .int 1, .ref q93, .int 0, .ref q94, .null, .ref q95, .null, .ref q96, .ref q97, .ref q98, .ref q99, .ref q100, .int 0, .ref q101, .ref q102, .ref q103, .ref q104, .ref q105, .int 0, .int 0]))]) [0] rfl
  have hDc := hD.sub (ws' := [(q86, .inr (15, [.ref q87, .ref q88, .ref q89, .ref q90, .ref q91, .ref q92, .int 0, .int 1, .ref q93, .int 0, .ref q94, .null, .ref q95, .null, .ref q96, .ref q97, .ref q98, .ref q99, .ref q100, .int 0, .ref q101, .ref q102, .ref q103, .ref q104, .ref q105, .int 0, .int 0]))]) [0] (by decide) rfl
  have hKc := hK.sub (tys' := []) [] rfl
  have hFc := va_free (wc := [(q86, .inr (15, [.ref q87, .ref q88, .ref q89, .ref q90, .ref q91, .ref q92, .int 0, .int 1, .ref q93, .int 0, .ref q94, .null, .ref q95, .null, .ref q96, .ref q97, .ref q98, .ref q99, .ref q100, .int 0, .ref q101, .ref q102, .ref q103, .ref q104, .ref q105, .int 0, .int 0]))]) hD hS hA [0] rfl
  refine va_calli (va_runV (As := []) (rest := []) ⟨hx, hb, hml, hown, hts⟩ (c_X13_having l dC dI q86 q87 q88 q89 q90 q91 q92 q93 q94 q95 q96 q97 q98 q99 q100 q101 q102 q103 q104 q105 H.size  ) (cwV 0 hts gL_law_X13_having rfl rfl rfl (by decide +kernel) ⟨Nat.le_of_ble_eq_true rfl, Nat.le_of_ble_eq_true rfl⟩) ⟨zB_blind, va_recv hK hP (ci := 15) (q0 := 0) rfl rfl, (zPre hPc hDc hKc hS hFc hZ hN)⟩ rfl rfl hl.1 rfl (lv_room (Nat.le_of_ble_eq_true rfl)) dL_law_916 ⟨Nat.le_of_ble_eq_true rfl, Nat.le_of_ble_eq_true rfl⟩) hS (fun q _ h => hFc q h) hFc (fun r u t H1 locs ht hvm hw hB hz1 hk1 hS => ?_)
  subst hw
  obtain ⟨hP1, hK1, hD1⟩ := hB
  rw [ht] at hP1
  have hK1 := va_K.moved hvm.symm hK1
  obtain ⟨hP, hD⟩ := va_join (wr := []) (w1 := [(q86, .inr (15, [.ref q87, .ref q88, .ref q89, .ref q90, .ref q91, .ref q92, .int 0, .int 1, .ref q93, .int 0, .ref q94, .null, .ref q95, .null, .ref q96, .ref q97, .ref q98, .ref q99, .ref q100, .int 1, .ref q101, .ref q102, .ref q103, .ref q104, .ref q105, .int 0, .int 0]))]) hP hD [0] [] rfl rfl (by decide) (by decide) hk1 hFc hP1 hD1
  have hK := (hK.sub (tys' := []) [] rfl).app hK1
  generalize H1 = H at hP hS ⊢
  have hP : va_P (dC, dI) vwCl [(q86, .inr (15, [.ref q87, .ref q88, .ref q89, .ref q90, .ref q91, .ref q92, .int 0, .int 1, .ref q93, .int 0, .ref q94, .null, .ref q95, .null, .ref q96, .ref q97, .ref q98, .ref q99, .ref q100, .int 1, .ref q101, .ref q102, .ref q103, .ref q104, .ref q105, .int 0, .int 0]))] H := hP
  have hD : va_D (fun q : Nat => s.heap.size ≤ q) [(q86, .inr (15, [.ref q87, .ref q88, .ref q89, .ref q90, .ref q91, .ref q92, .int 0, .int 1, .ref q93, .int 0, .ref q94, .null, .ref q95, .null, .ref q96, .ref q97, .ref q98, .ref q99, .ref q100, .int 1, .ref q101, .ref q102, .ref q103, .ref q104, .ref q105, .int 0, .int 0]))] := hD
  have hK : va_K (dC, dI) vwCl [] s := hK
  refine W.widen (k := 132) (n := 6698) (Nat.le_of_ble_eq_true rfl) (Nat.le_of_ble_eq_true rfl) ?_
  refine lv_istore (lv' := [(6, .int 0), (5, .int 1), (4, .int 0), (3, .ref q106), (2, .ref q86), (1, .ref q0), (0, .ref b)]) hx hb dL_law_919 hl (by decide) rfl (fun ls hl => ?_)
  refine lv_aload_n hx hb dL_law_921 rfl (lv_at hl 4 rfl) ?_
  have hPc := hP.sub (ws' := [(q86, .inr (15, [.ref q87, .ref q88, .ref q89, .ref q90, .ref q91, .ref q92, .int 0, .int 1, .ref q93, .int 0, .ref q94, .null, .ref q95, .null, .ref q96, .ref q97, .ref q98, .ref q99, .ref q100, .int 1, .ref q101, .ref q102, .ref q103, .ref q104, .ref q105, .int 0, .int 0]))]) [0] rfl
  have hDc := hD.sub (ws' := [(q86, .inr (15, [.ref q87, .ref q88, .ref q89, .ref q90, .ref q91, .ref q92, .int 0, .int 1, .ref q93, .int 0, .ref q94, .null, .ref q95, .null, .ref q96, .ref q97, .ref q98, .ref q99, .ref q100, .int 1, .ref q101, .ref q102, .ref q103, .ref q104, .ref q105, .int 0, .int 0]))]) [0] (by decide) rfl
  have hKc := hK.sub (tys' := []) [] rfl
  have hFc := va_free (wc := [(q86, .inr (15, [.ref q87, .ref q88, .ref q89, .ref q90, .ref q91, .ref q92, .int 0, .int 1, .ref q93, .int 0, .ref q94, .null, .ref q95, .null, .ref q96, .ref q97, .ref q98, .ref q99, .ref q100, .int 1, .ref q101, .ref q102, .ref q103, .ref q104, .ref q105, .int 0, .int 0]))]) hD hS hA [0] rfl
  refine va_calli (va_runV (As := []) (rest := []) ⟨hx, hb, hml, hown, hts⟩ (c_X13_thrown l dC dI q86 q87 q88 q89 q90 q91 q92 q93 q94 q95 q96 q97 q98 q99 q100 q101 q102 q103 q104 q105 H.size  ) (cwV 0 hts gL_law_X13_thrown rfl rfl rfl (by decide +kernel) ⟨Nat.le_of_ble_eq_true rfl, Nat.le_of_ble_eq_true rfl⟩) ⟨zB_blind, va_recv hK hP (ci := 15) (q0 := 0) rfl rfl, (zPre hPc hDc hKc hS hFc hZ hN)⟩ rfl rfl hl.1 rfl (lv_room (Nat.le_of_ble_eq_true rfl)) dL_law_922 ⟨Nat.le_of_ble_eq_true rfl, Nat.le_of_ble_eq_true rfl⟩) hS (fun q _ h => hFc q h) hFc (fun r u t H1 locs ht hvm hw hB hz1 hk1 hS => ?_)
  subst hw
  obtain ⟨hP1, hK1, hD1⟩ := hB
  rw [ht] at hP1
  have hK1 := va_K.moved hvm.symm hK1
  obtain ⟨hP, hD⟩ := va_join (wr := []) (w1 := []) hP hD [0] [] rfl rfl (by decide) (by decide) hk1 hFc hP1 hD1
  have hK := (hK.sub (tys' := []) [] rfl).app hK1
  generalize H1 = H at hP hS ⊢
  have hP : va_P (dC, dI) vwCl [] H := hP
  have hD : va_D (fun q : Nat => s.heap.size ≤ q) [] := hD
  have hK : va_K (dC, dI) vwCl [] s := hK
  refine W.widen (k := 132) (n := 6698) (Nat.le_of_ble_eq_true rfl) (Nat.le_of_ble_eq_true rfl) ?_
  refine lv_iload hx hb dL_law_925 (lv_at hl 1 rfl) ?_
  refine lv_icmp_eq (tgt := 932) hx hb dL_law_927 (by decide) (fun _ => ?_) (fun h9 => absurd (show (1 : Int32) = (1 : Int32) by decide +kernel) h9)
  refine lv_iload hx hb dL_law_932 (lv_at hl 1 rfl) ?_
  refine lv_if_ne (tgt := 949) hx hb dL_law_934 (by decide) (fun _ => ?_) (fun h9 => absurd h9 (show ¬ (1 : Int32) = (0 : Int32) by decide +kernel))
  refine lv_goto (tgt := 2311) hx hb dL_law_949 (by decide) ?_
  exact law_exit C0 hS (Nat.le_of_ble_eq_true rfl) (Nat.le_of_ble_eq_true rfl) ls (lv_sub hl [2, 3, 4, 5, 6] rfl)
set_option maxHeartbeats 8000000 in
set_option maxRecDepth 100000 in
theorem law_case_15 {p : Program} {l : Launch} {e : Env} {s : State} {m : MethodId} {below : List Frame} {meth : Method} {c : Code} {b : Nat} {xs : Nat → Int32} (hfl : l.stackTraces = false) (C0 : lw_At p s m meth c b 4 xs) {dC : Nat → ClassId} {dI : Nat → Nat → Nat} {q0 q1 q3 q5 q7 q9 q11 q13 q15 q17 q21 q25 q26 q27 q2 q4 q6 q8 q10 q16 q18 q22 q23 q86 q87 q88 q89 q90 q91 q92 q93 q94 q95 q96 q97 q98 q99 q100 q101 q102 q103 q104 q105 q106 : Nat} {k2 k4 k87 k88 k89 k90 k91 k92 k93 k94 k96 k106 : ClassId} {H : Heap} {locs : List Loc} (hK : va_K (dC, dI) vwCl [(k2, .char), (k4, (.object "Seekwell$Text")), (k87, .boolean), (k88, .int), (k89, .int), (k90, .char), (k91, (.array .long)), (k92, (.array .long)), (k93, .int), (k94, .int), (k96, .boolean), (k106, .long)] s) (hP : va_P (dC, dI) vwCl [(q0, .inr (13, [.ref q1, .ref q3, .ref q5, .ref q7, .ref q9, .ref q11, .ref q13, .ref q15, .int 0, .ref q17, .ref q21, .ref q25, .ref q26, .ref q27])), (q1, .inr (7, [.ref q2, .int 0])), (q2, .inl (k2, 512, .inl (fun _ => 0))), (q3, .inr (11, [.ref q4, .int 0, .int 1])), (q4, .inl (k4, 24, .inr (.inr (.inr (.inr (fun _ => none)))))), (q5, .inr (11, [.ref q6, .int 0, .int 1])), (q7, .inr (10, [.ref q8, .int 0])), (q9, .inr (5, [.ref q10, .int 0, .int 0])), (q15, .inr (5, [.ref q16, .int 0, .int 0])), (q17, .inr (9, [.ref q18, .ref q18, .null])), (q21, .inr (9, [.ref q22, .ref q22, .null])), (q22, .inr (8, [.int 0, .int 0, .int 1, .int 0, .int 0, .int 0, .ref q23, .null, .null, .null, .null, .int 0, .int 0, .int 0, .int 0, .null, .null])), (q26, .inr (3, [.null, .null, .int 0, .int 0, .null])), (q86, .inr (15, [.ref q87, .ref q88, .ref q89, .ref q90, .ref q91, .ref q92, .int 0, .int 1, .ref q93, .int 0, .ref q94, .null, .ref q95, .null, .ref q96, .ref q97, .ref q98, .ref q99, .ref q100, .int 0, .ref q101, .ref q102, .ref q103, .ref q104, .ref q105, .int 0, .int 0])), (q87, .inl (k87, 24, .inl (fun _ => 0))), (q88, .inl (k88, 24, .inl (fun _ => 0))), (q89, .inl (k89, 24, .inl (fun _ => 0))), (q90, .inl (k90, 24, .inl (fun _ => 0))), (q91, .inl (k91, 24, .inr (.inr (.inr (.inr (fun _ => none)))))), (q92, .inl (k92, 24, .inr (.inr (.inr (.inr (fun _ => none)))))), (q93, .inl (k93, 4000, .inl (fun _ => 0))), (q94, .inl (k94, 0, .inl (fun _ => 0))), (q96, .inl (k96, 24, .inl (fun _ => 0))), (q106, .inl (k106, 1, .inr (.inl (fun _ => 0))))] H) (hD : va_D (fun q : Nat => s.heap.size ≤ q) [(q0, .inr (13, [.ref q1, .ref q3, .ref q5, .ref q7, .ref q9, .ref q11, .ref q13, .ref q15, .int 0, .ref q17, .ref q21, .ref q25, .ref q26, .ref q27])), (q1, .inr (7, [.ref q2, .int 0])), (q2, .inl (k2, 512, .inl (fun _ => 0))), (q3, .inr (11, [.ref q4, .int 0, .int 1])), (q4, .inl (k4, 24, .inr (.inr (.inr (.inr (fun _ => none)))))), (q5, .inr (11, [.ref q6, .int 0, .int 1])), (q7, .inr (10, [.ref q8, .int 0])), (q9, .inr (5, [.ref q10, .int 0, .int 0])), (q15, .inr (5, [.ref q16, .int 0, .int 0])), (q17, .inr (9, [.ref q18, .ref q18, .null])), (q21, .inr (9, [.ref q22, .ref q22, .null])), (q22, .inr (8, [.int 0, .int 0, .int 1, .int 0, .int 0, .int 0, .ref q23, .null, .null, .null, .null, .int 0, .int 0, .int 0, .int 0, .null, .null])), (q26, .inr (3, [.null, .null, .int 0, .int 0, .null])), (q86, .inr (15, [.ref q87, .ref q88, .ref q89, .ref q90, .ref q91, .ref q92, .int 0, .int 1, .ref q93, .int 0, .ref q94, .null, .ref q95, .null, .ref q96, .ref q97, .ref q98, .ref q99, .ref q100, .int 0, .ref q101, .ref q102, .ref q103, .ref q104, .ref q105, .int 0, .int 0])), (q87, .inl (k87, 24, .inl (fun _ => 0))), (q88, .inl (k88, 24, .inl (fun _ => 0))), (q89, .inl (k89, 24, .inl (fun _ => 0))), (q90, .inl (k90, 24, .inl (fun _ => 0))), (q91, .inl (k91, 24, .inr (.inr (.inr (.inr (fun _ => none)))))), (q92, .inl (k92, 24, .inr (.inr (.inr (.inr (fun _ => none)))))), (q93, .inl (k93, 4000, .inl (fun _ => 0))), (q94, .inl (k94, 0, .inl (fun _ => 0))), (q96, .inl (k96, 24, .inl (fun _ => 0))), (q106, .inl (k106, 1, .inr (.inl (fun _ => 0))))]) (hS : va_S (fun q : Nat => s.heap.size ≤ q) s.heap H locs) (hZ : zZ (fun q : Nat => s.heap.size ≤ q) s s.heap) (hN : zN s) (ls : Array Slot) (hl : lv_has ls 7 [(4, .int 0), (3, .ref q106), (2, .ref q86), (1, .ref q0), (0, .ref b)]) : W p l e room_1 s m #[Value.ref b] below meth c H locs 131 6692 (lw_Z below #[Value.ref b] s) (F0 m 952 ls []) := by
  obtain ⟨hx, hb, hr, hml, hown, hts, hX, hbl, hlocks, hgv⟩ := id C0
  have hbA : ¬ (fun q : Nat => s.heap.size ≤ q) b := Nat.not_le.mpr hbl
  have hA : ∀ q : Nat, s.heap.size ≤ q → (fun q : Nat => s.heap.size ≤ q) q := fun _ h => h
  refine lv_aload_n hx hb dL_law_952 rfl (lv_at hl 3 rfl) ?_
  refine lv_aload_n hx hb dL_law_953 rfl (lv_at hl 1 rfl) ?_
  have hPc := hP.sub (ws' := [(q0, .inr (13, [.ref q1, .ref q3, .ref q5, .ref q7, .ref q9, .ref q11, .ref q13, .ref q15, .int 0, .ref q17, .ref q21, .ref q25, .ref q26, .ref q27])), (q1, .inr (7, [.ref q2, .int 0]))]) [0, 1] rfl
  have hDc := hD.sub (ws' := [(q0, .inr (13, [.ref q1, .ref q3, .ref q5, .ref q7, .ref q9, .ref q11, .ref q13, .ref q15, .int 0, .ref q17, .ref q21, .ref q25, .ref q26, .ref q27])), (q1, .inr (7, [.ref q2, .int 0]))]) [0, 1] (by decide) rfl
  have hKc := hK.sub (tys' := []) [] rfl
  have hFc := va_free (wc := [(q0, .inr (13, [.ref q1, .ref q3, .ref q5, .ref q7, .ref q9, .ref q11, .ref q13, .ref q15, .int 0, .ref q17, .ref q21, .ref q25, .ref q26, .ref q27])), (q1, .inr (7, [.ref q2, .int 0]))]) hD hS hA [0, 1] rfl
  refine va_calli (vx_runSW (As := [.ref q0, .ref q106]) (rest := []) ⟨hx, hb, hml, hown, hts⟩ (c_L_beginning l hfl dC dI q0 q106 q1 q3 q5 q7 q9 q11 q13 q15 q17 q21 q25 q26 q27 q2 H.size  ) (vx_cwSW 2 hts gL_law_L_beginning rfl rfl rfl (by decide +kernel) ⟨Nat.le_of_ble_eq_true rfl, Nat.le_of_ble_eq_true rfl⟩) ⟨zB_blind, (zPre hPc hDc hKc hS hFc hZ hN)⟩ rfl rfl hl.1 rfl (lv_room (Nat.le_of_ble_eq_true rfl)) dL_law_954 ⟨Nat.le_of_ble_eq_true rfl, Nat.le_of_ble_eq_true rfl⟩) hS (fun q _ h => hFc q h) hFc (fun r u t H1 locs ht hvm hw hB hz1 hk1 hS => ?_)
  subst hw
  obtain ⟨hP1, hK1, hD1⟩ := hB
  rw [ht] at hP1
  have hK1 := va_K.moved hvm.symm hK1
  obtain ⟨hP, hD⟩ := va_join (wr := [(q86, .inr (15, [.ref q87, .ref q88, .ref q89, .ref q90, .ref q91, .ref q92, .int 0, .int 1, .ref q93, .int 0, .ref q94, .null, .ref q95, .null, .ref q96, .ref q97, .ref q98, .ref q99, .ref q100, .int 0, .ref q101, .ref q102, .ref q103, .ref q104, .ref q105, .int 0, .int 0]))]) (w1 := []) hP hD [0, 1] [13] rfl rfl (by decide) (by decide) hk1 hFc hP1 hD1
  have hK := (hK.sub (tys' := []) [] rfl).app hK1
  generalize H1 = H at hP hS ⊢
  have hP : va_P (dC, dI) vwCl [(q86, .inr (15, [.ref q87, .ref q88, .ref q89, .ref q90, .ref q91, .ref q92, .int 0, .int 1, .ref q93, .int 0, .ref q94, .null, .ref q95, .null, .ref q96, .ref q97, .ref q98, .ref q99, .ref q100, .int 0, .ref q101, .ref q102, .ref q103, .ref q104, .ref q105, .int 0, .int 0]))] H := hP
  have hD : va_D (fun q : Nat => s.heap.size ≤ q) [(q86, .inr (15, [.ref q87, .ref q88, .ref q89, .ref q90, .ref q91, .ref q92, .int 0, .int 1, .ref q93, .int 0, .ref q94, .null, .ref q95, .null, .ref q96, .ref q97, .ref q98, .ref q99, .ref q100, .int 0, .ref q101, .ref q102, .ref q103, .ref q104, .ref q105, .int 0, .int 0]))] := hD
  have hK : va_K (dC, dI) vwCl [] s := hK
  refine W.widen (k := 132) (n := 6698) (Nat.le_of_ble_eq_true rfl) (Nat.le_of_ble_eq_true rfl) ?_
  refine lv_istore (lv' := [(5, .int 1), (4, .int 0), (3, .ref q106), (2, .ref q86), (1, .ref q0), (0, .ref b)]) hx hb dL_law_957 hl (by decide) rfl (fun ls hl => ?_)
  refine lv_aload_n hx hb dL_law_959 rfl (lv_at hl 3 rfl) ?_
  have hPc := hP.sub (ws' := [(q86, .inr (15, [.ref q87, .ref q88, .ref q89, .ref q90, .ref q91, .ref q92, .int 0, .int 1, .ref q93, .int 0, .ref q94, .null, .ref q95, .null, .ref q96, .ref q97, .ref q98, .ref q99, .ref q100, .int 0, .ref q101, .ref q102, .ref q103, .ref q104, .ref q105, .int 0, .int 0]))]) [0] rfl
  have hDc := hD.sub (ws' := [(q86, .inr (15, [.ref q87, .ref q88, .ref q89, .ref q90, .ref q91, .ref q92, .int 0, .int 1, .ref q93, .int 0, .ref q94, .null, .ref q95, .null, .ref q96, .ref q97, .ref q98, .ref q99, .ref q100, .int 0, .ref q101, .ref q102, .ref q103, .ref q104, .ref q105, .int 0, .int 0]))]) [0] (by decide) rfl
  have hKc := hK.sub (tys' := []) [] rfl
  have hFc := va_free (wc := [(q86, .inr (15, [.ref q87, .ref q88, .ref q89, .ref q90, .ref q91, .ref q92, .int 0, .int 1, .ref q93, .int 0, .ref q94, .null, .ref q95, .null, .ref q96, .ref q97, .ref q98, .ref q99, .ref q100, .int 0, .ref q101, .ref q102, .ref q103, .ref q104, .ref q105, .int 0, .int 0]))]) hD hS hA [0] rfl
  refine va_calli (va_runV (As := []) (rest := []) ⟨hx, hb, hml, hown, hts⟩ (c_X13_beginning l dC dI q86 q87 q88 q89 q90 q91 q92 q93 q94 q95 q96 q97 q98 q99 q100 q101 q102 q103 q104 q105 H.size  ) (cwV 0 hts gL_law_X13_beginning rfl rfl rfl (by decide +kernel) ⟨Nat.le_of_ble_eq_true rfl, Nat.le_of_ble_eq_true rfl⟩) ⟨zB_blind, va_recv hK hP (ci := 15) (q0 := 0) rfl rfl, (zPre hPc hDc hKc hS hFc hZ hN)⟩ rfl rfl hl.1 rfl (lv_room (Nat.le_of_ble_eq_true rfl)) dL_law_960 ⟨Nat.le_of_ble_eq_true rfl, Nat.le_of_ble_eq_true rfl⟩) hS (fun q _ h => hFc q h) hFc (fun r u t H1 locs ht hvm hw hB hz1 hk1 hS => ?_)
  subst hw
  obtain ⟨hP1, hK1, hD1⟩ := hB
  rw [ht] at hP1
  have hK1 := va_K.moved hvm.symm hK1
  obtain ⟨hP, hD⟩ := va_join (wr := []) (w1 := [(q86, .inr (15, [.ref q87, .ref q88, .ref q89, .ref q90, .ref q91, .ref q92, .int 0, .int 1, .ref q93, .int 0, .ref q94, .null, .ref q95, .null, .ref q96, .ref q97, .ref q98, .ref q99, .ref q100, .int 1, .ref q101, .ref q102, .ref q103, .ref q104, .ref q105, .int 0, .int 0]))]) hP hD [0] [] rfl rfl (by decide) (by decide) hk1 hFc hP1 hD1
  have hK := (hK.sub (tys' := []) [] rfl).app hK1
  generalize H1 = H at hP hS ⊢
  have hP : va_P (dC, dI) vwCl [(q86, .inr (15, [.ref q87, .ref q88, .ref q89, .ref q90, .ref q91, .ref q92, .int 0, .int 1, .ref q93, .int 0, .ref q94, .null, .ref q95, .null, .ref q96, .ref q97, .ref q98, .ref q99, .ref q100, .int 1, .ref q101, .ref q102, .ref q103, .ref q104, .ref q105, .int 0, .int 0]))] H := hP
  have hD : va_D (fun q : Nat => s.heap.size ≤ q) [(q86, .inr (15, [.ref q87, .ref q88, .ref q89, .ref q90, .ref q91, .ref q92, .int 0, .int 1, .ref q93, .int 0, .ref q94, .null, .ref q95, .null, .ref q96, .ref q97, .ref q98, .ref q99, .ref q100, .int 1, .ref q101, .ref q102, .ref q103, .ref q104, .ref q105, .int 0, .int 0]))] := hD
  have hK : va_K (dC, dI) vwCl [] s := hK
  refine W.widen (k := 132) (n := 6698) (Nat.le_of_ble_eq_true rfl) (Nat.le_of_ble_eq_true rfl) ?_
  refine lv_istore (lv' := [(6, .int 0), (5, .int 1), (4, .int 0), (3, .ref q106), (2, .ref q86), (1, .ref q0), (0, .ref b)]) hx hb dL_law_963 hl (by decide) rfl (fun ls hl => ?_)
  refine lv_aload_n hx hb dL_law_965 rfl (lv_at hl 4 rfl) ?_
  have hPc := hP.sub (ws' := [(q86, .inr (15, [.ref q87, .ref q88, .ref q89, .ref q90, .ref q91, .ref q92, .int 0, .int 1, .ref q93, .int 0, .ref q94, .null, .ref q95, .null, .ref q96, .ref q97, .ref q98, .ref q99, .ref q100, .int 1, .ref q101, .ref q102, .ref q103, .ref q104, .ref q105, .int 0, .int 0]))]) [0] rfl
  have hDc := hD.sub (ws' := [(q86, .inr (15, [.ref q87, .ref q88, .ref q89, .ref q90, .ref q91, .ref q92, .int 0, .int 1, .ref q93, .int 0, .ref q94, .null, .ref q95, .null, .ref q96, .ref q97, .ref q98, .ref q99, .ref q100, .int 1, .ref q101, .ref q102, .ref q103, .ref q104, .ref q105, .int 0, .int 0]))]) [0] (by decide) rfl
  have hKc := hK.sub (tys' := []) [] rfl
  have hFc := va_free (wc := [(q86, .inr (15, [.ref q87, .ref q88, .ref q89, .ref q90, .ref q91, .ref q92, .int 0, .int 1, .ref q93, .int 0, .ref q94, .null, .ref q95, .null, .ref q96, .ref q97, .ref q98, .ref q99, .ref q100, .int 1, .ref q101, .ref q102, .ref q103, .ref q104, .ref q105, .int 0, .int 0]))]) hD hS hA [0] rfl
  refine va_calli (va_runV (As := []) (rest := []) ⟨hx, hb, hml, hown, hts⟩ (c_X13_thrown l dC dI q86 q87 q88 q89 q90 q91 q92 q93 q94 q95 q96 q97 q98 q99 q100 q101 q102 q103 q104 q105 H.size  ) (cwV 0 hts gL_law_X13_thrown rfl rfl rfl (by decide +kernel) ⟨Nat.le_of_ble_eq_true rfl, Nat.le_of_ble_eq_true rfl⟩) ⟨zB_blind, va_recv hK hP (ci := 15) (q0 := 0) rfl rfl, (zPre hPc hDc hKc hS hFc hZ hN)⟩ rfl rfl hl.1 rfl (lv_room (Nat.le_of_ble_eq_true rfl)) dL_law_966 ⟨Nat.le_of_ble_eq_true rfl, Nat.le_of_ble_eq_true rfl⟩) hS (fun q _ h => hFc q h) hFc (fun r u t H1 locs ht hvm hw hB hz1 hk1 hS => ?_)
  subst hw
  obtain ⟨hP1, hK1, hD1⟩ := hB
  rw [ht] at hP1
  have hK1 := va_K.moved hvm.symm hK1
  obtain ⟨hP, hD⟩ := va_join (wr := []) (w1 := []) hP hD [0] [] rfl rfl (by decide) (by decide) hk1 hFc hP1 hD1
  have hK := (hK.sub (tys' := []) [] rfl).app hK1
  generalize H1 = H at hP hS ⊢
  have hP : va_P (dC, dI) vwCl [] H := hP
  have hD : va_D (fun q : Nat => s.heap.size ≤ q) [] := hD
  have hK : va_K (dC, dI) vwCl [] s := hK
  refine W.widen (k := 132) (n := 6698) (Nat.le_of_ble_eq_true rfl) (Nat.le_of_ble_eq_true rfl) ?_
  refine lv_iload hx hb dL_law_969 (lv_at hl 1 rfl) ?_
  refine lv_icmp_eq (tgt := 976) hx hb dL_law_971 (by decide) (fun _ => ?_) (fun h9 => absurd (show (1 : Int32) = (1 : Int32) by decide +kernel) h9)
  refine lv_iload hx hb dL_law_976 (lv_at hl 1 rfl) ?_
  refine lv_if_ne (tgt := 993) hx hb dL_law_978 (by decide) (fun _ => ?_) (fun h9 => absurd h9 (show ¬ (1 : Int32) = (0 : Int32) by decide +kernel))
  refine lv_goto (tgt := 2311) hx hb dL_law_993 (by decide) ?_
  exact law_exit C0 hS (Nat.le_of_ble_eq_true rfl) (Nat.le_of_ble_eq_true rfl) ls (lv_sub hl [2, 3, 4, 5, 6] rfl)
set_option maxHeartbeats 8000000 in
set_option maxRecDepth 100000 in
theorem law_case_16 {p : Program} {l : Launch} {e : Env} {s : State} {m : MethodId} {below : List Frame} {meth : Method} {c : Code} {b : Nat} {xs : Nat → Int32} (hfl : l.stackTraces = false) (C0 : lw_At p s m meth c b 4 xs) {dC : Nat → ClassId} {dI : Nat → Nat → Nat} {q0 q1 q3 q5 q7 q9 q11 q13 q15 q17 q21 q25 q26 q27 q2 q4 q6 q8 q10 q16 q18 q22 q23 q86 q87 q88 q89 q90 q91 q92 q93 q94 q95 q96 q97 q98 q99 q100 q101 q102 q103 q104 q105 q106 : Nat} {k2 k4 k87 k88 k89 k90 k91 k92 k93 k94 k96 k106 : ClassId} {H : Heap} {locs : List Loc} (hK : va_K (dC, dI) vwCl [(k2, .char), (k4, (.object "Seekwell$Text")), (k87, .boolean), (k88, .int), (k89, .int), (k90, .char), (k91, (.array .long)), (k92, (.array .long)), (k93, .int), (k94, .int), (k96, .boolean), (k106, .long)] s) (hP : va_P (dC, dI) vwCl [(q0, .inr (13, [.ref q1, .ref q3, .ref q5, .ref q7, .ref q9, .ref q11, .ref q13, .ref q15, .int 0, .ref q17, .ref q21, .ref q25, .ref q26, .ref q27])), (q1, .inr (7, [.ref q2, .int 0])), (q2, .inl (k2, 512, .inl (fun _ => 0))), (q3, .inr (11, [.ref q4, .int 0, .int 1])), (q4, .inl (k4, 24, .inr (.inr (.inr (.inr (fun _ => none)))))), (q5, .inr (11, [.ref q6, .int 0, .int 1])), (q7, .inr (10, [.ref q8, .int 0])), (q9, .inr (5, [.ref q10, .int 0, .int 0])), (q15, .inr (5, [.ref q16, .int 0, .int 0])), (q17, .inr (9, [.ref q18, .ref q18, .null])), (q21, .inr (9, [.ref q22, .ref q22, .null])), (q22, .inr (8, [.int 0, .int 0, .int 1, .int 0, .int 0, .int 0, .ref q23, .null, .null, .null, .null, .int 0, .int 0, .int 0, .int 0, .null, .null])), (q26, .inr (3, [.null, .null, .int 0, .int 0, .null])), (q86, .inr (15, [.ref q87, .ref q88, .ref q89, .ref q90, .ref q91, .ref q92, .int 0, .int 1, .ref q93, .int 0, .ref q94, .null, .ref q95, .null, .ref q96, .ref q97, .ref q98, .ref q99, .ref q100, .int 0, .ref q101, .ref q102, .ref q103, .ref q104, .ref q105, .int 0, .int 0])), (q87, .inl (k87, 24, .inl (fun _ => 0))), (q88, .inl (k88, 24, .inl (fun _ => 0))), (q89, .inl (k89, 24, .inl (fun _ => 0))), (q90, .inl (k90, 24, .inl (fun _ => 0))), (q91, .inl (k91, 24, .inr (.inr (.inr (.inr (fun _ => none)))))), (q92, .inl (k92, 24, .inr (.inr (.inr (.inr (fun _ => none)))))), (q93, .inl (k93, 4000, .inl (fun _ => 0))), (q94, .inl (k94, 0, .inl (fun _ => 0))), (q96, .inl (k96, 24, .inl (fun _ => 0))), (q106, .inl (k106, 1, .inr (.inl (fun _ => 0))))] H) (hD : va_D (fun q : Nat => s.heap.size ≤ q) [(q0, .inr (13, [.ref q1, .ref q3, .ref q5, .ref q7, .ref q9, .ref q11, .ref q13, .ref q15, .int 0, .ref q17, .ref q21, .ref q25, .ref q26, .ref q27])), (q1, .inr (7, [.ref q2, .int 0])), (q2, .inl (k2, 512, .inl (fun _ => 0))), (q3, .inr (11, [.ref q4, .int 0, .int 1])), (q4, .inl (k4, 24, .inr (.inr (.inr (.inr (fun _ => none)))))), (q5, .inr (11, [.ref q6, .int 0, .int 1])), (q7, .inr (10, [.ref q8, .int 0])), (q9, .inr (5, [.ref q10, .int 0, .int 0])), (q15, .inr (5, [.ref q16, .int 0, .int 0])), (q17, .inr (9, [.ref q18, .ref q18, .null])), (q21, .inr (9, [.ref q22, .ref q22, .null])), (q22, .inr (8, [.int 0, .int 0, .int 1, .int 0, .int 0, .int 0, .ref q23, .null, .null, .null, .null, .int 0, .int 0, .int 0, .int 0, .null, .null])), (q26, .inr (3, [.null, .null, .int 0, .int 0, .null])), (q86, .inr (15, [.ref q87, .ref q88, .ref q89, .ref q90, .ref q91, .ref q92, .int 0, .int 1, .ref q93, .int 0, .ref q94, .null, .ref q95, .null, .ref q96, .ref q97, .ref q98, .ref q99, .ref q100, .int 0, .ref q101, .ref q102, .ref q103, .ref q104, .ref q105, .int 0, .int 0])), (q87, .inl (k87, 24, .inl (fun _ => 0))), (q88, .inl (k88, 24, .inl (fun _ => 0))), (q89, .inl (k89, 24, .inl (fun _ => 0))), (q90, .inl (k90, 24, .inl (fun _ => 0))), (q91, .inl (k91, 24, .inr (.inr (.inr (.inr (fun _ => none)))))), (q92, .inl (k92, 24, .inr (.inr (.inr (.inr (fun _ => none)))))), (q93, .inl (k93, 4000, .inl (fun _ => 0))), (q94, .inl (k94, 0, .inl (fun _ => 0))), (q96, .inl (k96, 24, .inl (fun _ => 0))), (q106, .inl (k106, 1, .inr (.inl (fun _ => 0))))]) (hS : va_S (fun q : Nat => s.heap.size ≤ q) s.heap H locs) (hZ : zZ (fun q : Nat => s.heap.size ≤ q) s s.heap) (hN : zN s) (ls : Array Slot) (hl : lv_has ls 7 [(4, .int 0), (3, .ref q106), (2, .ref q86), (1, .ref q0), (0, .ref b)]) : W p l e room_1 s m #[Value.ref b] below meth c H locs 131 6692 (lw_Z below #[Value.ref b] s) (F0 m 996 ls []) := by
  obtain ⟨hx, hb, hr, hml, hown, hts, hX, hbl, hlocks, hgv⟩ := id C0
  have hbA : ¬ (fun q : Nat => s.heap.size ≤ q) b := Nat.not_le.mpr hbl
  have hA : ∀ q : Nat, s.heap.size ≤ q → (fun q : Nat => s.heap.size ≤ q) q := fun _ h => h
  refine lv_aload_n hx hb dL_law_996 rfl (lv_at hl 3 rfl) ?_
  refine lv_aload_n hx hb dL_law_997 rfl (lv_at hl 1 rfl) ?_
  have hPc := hP.sub (ws' := [(q0, .inr (13, [.ref q1, .ref q3, .ref q5, .ref q7, .ref q9, .ref q11, .ref q13, .ref q15, .int 0, .ref q17, .ref q21, .ref q25, .ref q26, .ref q27])), (q1, .inr (7, [.ref q2, .int 0]))]) [0, 1] rfl
  have hDc := hD.sub (ws' := [(q0, .inr (13, [.ref q1, .ref q3, .ref q5, .ref q7, .ref q9, .ref q11, .ref q13, .ref q15, .int 0, .ref q17, .ref q21, .ref q25, .ref q26, .ref q27])), (q1, .inr (7, [.ref q2, .int 0]))]) [0, 1] (by decide) rfl
  have hKc := hK.sub (tys' := []) [] rfl
  have hFc := va_free (wc := [(q0, .inr (13, [.ref q1, .ref q3, .ref q5, .ref q7, .ref q9, .ref q11, .ref q13, .ref q15, .int 0, .ref q17, .ref q21, .ref q25, .ref q26, .ref q27])), (q1, .inr (7, [.ref q2, .int 0]))]) hD hS hA [0, 1] rfl
  refine va_calli (vx_runSW (As := [.ref q0, .ref q106]) (rest := []) ⟨hx, hb, hml, hown, hts⟩ (c_L_slips l hfl dC dI q0 q106 q1 q3 q5 q7 q9 q11 q13 q15 q17 q21 q25 q26 q27 q2 H.size  ) (vx_cwSW 2 hts gL_law_L_slips rfl rfl rfl (by decide +kernel) ⟨Nat.le_of_ble_eq_true rfl, Nat.le_of_ble_eq_true rfl⟩) ⟨zB_blind, (zPre hPc hDc hKc hS hFc hZ hN)⟩ rfl rfl hl.1 rfl (lv_room (Nat.le_of_ble_eq_true rfl)) dL_law_998 ⟨Nat.le_of_ble_eq_true rfl, Nat.le_of_ble_eq_true rfl⟩) hS (fun q _ h => hFc q h) hFc (fun r u t H1 locs ht hvm hw hB hz1 hk1 hS => ?_)
  subst hw
  obtain ⟨hP1, hK1, hD1⟩ := hB
  rw [ht] at hP1
  have hK1 := va_K.moved hvm.symm hK1
  obtain ⟨hP, hD⟩ := va_join (wr := [(q86, .inr (15, [.ref q87, .ref q88, .ref q89, .ref q90, .ref q91, .ref q92, .int 0, .int 1, .ref q93, .int 0, .ref q94, .null, .ref q95, .null, .ref q96, .ref q97, .ref q98, .ref q99, .ref q100, .int 0, .ref q101, .ref q102, .ref q103, .ref q104, .ref q105, .int 0, .int 0]))]) (w1 := []) hP hD [0, 1] [13] rfl rfl (by decide) (by decide) hk1 hFc hP1 hD1
  have hK := (hK.sub (tys' := []) [] rfl).app hK1
  generalize H1 = H at hP hS ⊢
  have hP : va_P (dC, dI) vwCl [(q86, .inr (15, [.ref q87, .ref q88, .ref q89, .ref q90, .ref q91, .ref q92, .int 0, .int 1, .ref q93, .int 0, .ref q94, .null, .ref q95, .null, .ref q96, .ref q97, .ref q98, .ref q99, .ref q100, .int 0, .ref q101, .ref q102, .ref q103, .ref q104, .ref q105, .int 0, .int 0]))] H := hP
  have hD : va_D (fun q : Nat => s.heap.size ≤ q) [(q86, .inr (15, [.ref q87, .ref q88, .ref q89, .ref q90, .ref q91, .ref q92, .int 0, .int 1, .ref q93, .int 0, .ref q94, .null, .ref q95, .null, .ref q96, .ref q97, .ref q98, .ref q99, .ref q100, .int 0, .ref q101, .ref q102, .ref q103, .ref q104, .ref q105, .int 0, .int 0]))] := hD
  have hK : va_K (dC, dI) vwCl [] s := hK
  refine W.widen (k := 132) (n := 6698) (Nat.le_of_ble_eq_true rfl) (Nat.le_of_ble_eq_true rfl) ?_
  refine lv_istore (lv' := [(5, .int 1), (4, .int 0), (3, .ref q106), (2, .ref q86), (1, .ref q0), (0, .ref b)]) hx hb dL_law_1001 hl (by decide) rfl (fun ls hl => ?_)
  refine lv_aload_n hx hb dL_law_1003 rfl (lv_at hl 3 rfl) ?_
  have hPc := hP.sub (ws' := [(q86, .inr (15, [.ref q87, .ref q88, .ref q89, .ref q90, .ref q91, .ref q92, .int 0, .int 1, .ref q93, .int 0, .ref q94, .null, .ref q95, .null, .ref q96, .ref q97, .ref q98, .ref q99, .ref q100, .int 0, .ref q101, .ref q102, .ref q103, .ref q104, .ref q105, .int 0, .int 0]))]) [0] rfl
  have hDc := hD.sub (ws' := [(q86, .inr (15, [.ref q87, .ref q88, .ref q89, .ref q90, .ref q91, .ref q92, .int 0, .int 1, .ref q93, .int 0, .ref q94, .null, .ref q95, .null, .ref q96, .ref q97, .ref q98, .ref q99, .ref q100, .int 0, .ref q101, .ref q102, .ref q103, .ref q104, .ref q105, .int 0, .int 0]))]) [0] (by decide) rfl
  have hKc := hK.sub (tys' := []) [] rfl
  have hFc := va_free (wc := [(q86, .inr (15, [.ref q87, .ref q88, .ref q89, .ref q90, .ref q91, .ref q92, .int 0, .int 1, .ref q93, .int 0, .ref q94, .null, .ref q95, .null, .ref q96, .ref q97, .ref q98, .ref q99, .ref q100, .int 0, .ref q101, .ref q102, .ref q103, .ref q104, .ref q105, .int 0, .int 0]))]) hD hS hA [0] rfl
  refine va_calli (va_runV (As := []) (rest := []) ⟨hx, hb, hml, hown, hts⟩ (c_X13_slips l dC dI q86 q87 q88 q89 q90 q91 q92 q93 q94 q95 q96 q97 q98 q99 q100 q101 q102 q103 q104 q105 H.size  ) (cwV 0 hts gL_law_X13_slips rfl rfl rfl (by decide +kernel) ⟨Nat.le_of_ble_eq_true rfl, Nat.le_of_ble_eq_true rfl⟩) ⟨zB_blind, va_recv hK hP (ci := 15) (q0 := 0) rfl rfl, (zPre hPc hDc hKc hS hFc hZ hN)⟩ rfl rfl hl.1 rfl (lv_room (Nat.le_of_ble_eq_true rfl)) dL_law_1004 ⟨Nat.le_of_ble_eq_true rfl, Nat.le_of_ble_eq_true rfl⟩) hS (fun q _ h => hFc q h) hFc (fun r u t H1 locs ht hvm hw hB hz1 hk1 hS => ?_)
  subst hw
  obtain ⟨hP1, hK1, hD1⟩ := hB
  rw [ht] at hP1
  have hK1 := va_K.moved hvm.symm hK1
  obtain ⟨hP, hD⟩ := va_join (wr := []) (w1 := [(q86, .inr (15, [.ref q87, .ref q88, .ref q89, .ref q90, .ref q91, .ref q92, .int 0, .int 1, .ref q93, .int 0, .ref q94, .null, .ref q95, .null, .ref q96, .ref q97, .ref q98, .ref q99, .ref q100, .int 1, .ref q101, .ref q102, .ref q103, .ref q104, .ref q105, .int 0, .int 0]))]) hP hD [0] [] rfl rfl (by decide) (by decide) hk1 hFc hP1 hD1
  have hK := (hK.sub (tys' := []) [] rfl).app hK1
  generalize H1 = H at hP hS ⊢
  have hP : va_P (dC, dI) vwCl [(q86, .inr (15, [.ref q87, .ref q88, .ref q89, .ref q90, .ref q91, .ref q92, .int 0, .int 1, .ref q93, .int 0, .ref q94, .null, .ref q95, .null, .ref q96, .ref q97, .ref q98, .ref q99, .ref q100, .int 1, .ref q101, .ref q102, .ref q103, .ref q104, .ref q105, .int 0, .int 0]))] H := hP
  have hD : va_D (fun q : Nat => s.heap.size ≤ q) [(q86, .inr (15, [.ref q87, .ref q88, .ref q89, .ref q90, .ref q91, .ref q92, .int 0, .int 1, .ref q93, .int 0, .ref q94, .null, .ref q95, .null, .ref q96, .ref q97, .ref q98, .ref q99, .ref q100, .int 1, .ref q101, .ref q102, .ref q103, .ref q104, .ref q105, .int 0, .int 0]))] := hD
  have hK : va_K (dC, dI) vwCl [] s := hK
  refine W.widen (k := 132) (n := 6698) (Nat.le_of_ble_eq_true rfl) (Nat.le_of_ble_eq_true rfl) ?_
  refine lv_istore (lv' := [(6, .int 0), (5, .int 1), (4, .int 0), (3, .ref q106), (2, .ref q86), (1, .ref q0), (0, .ref b)]) hx hb dL_law_1007 hl (by decide) rfl (fun ls hl => ?_)
  refine lv_aload_n hx hb dL_law_1009 rfl (lv_at hl 4 rfl) ?_
  have hPc := hP.sub (ws' := [(q86, .inr (15, [.ref q87, .ref q88, .ref q89, .ref q90, .ref q91, .ref q92, .int 0, .int 1, .ref q93, .int 0, .ref q94, .null, .ref q95, .null, .ref q96, .ref q97, .ref q98, .ref q99, .ref q100, .int 1, .ref q101, .ref q102, .ref q103, .ref q104, .ref q105, .int 0, .int 0]))]) [0] rfl
  have hDc := hD.sub (ws' := [(q86, .inr (15, [.ref q87, .ref q88, .ref q89, .ref q90, .ref q91, .ref q92, .int 0, .int 1, .ref q93, .int 0, .ref q94, .null, .ref q95, .null, .ref q96, .ref q97, .ref q98, .ref q99, .ref q100, .int 1, .ref q101, .ref q102, .ref q103, .ref q104, .ref q105, .int 0, .int 0]))]) [0] (by decide) rfl
  have hKc := hK.sub (tys' := []) [] rfl
  have hFc := va_free (wc := [(q86, .inr (15, [.ref q87, .ref q88, .ref q89, .ref q90, .ref q91, .ref q92, .int 0, .int 1, .ref q93, .int 0, .ref q94, .null, .ref q95, .null, .ref q96, .ref q97, .ref q98, .ref q99, .ref q100, .int 1, .ref q101, .ref q102, .ref q103, .ref q104, .ref q105, .int 0, .int 0]))]) hD hS hA [0] rfl
  refine va_calli (va_runV (As := []) (rest := []) ⟨hx, hb, hml, hown, hts⟩ (c_X13_thrown l dC dI q86 q87 q88 q89 q90 q91 q92 q93 q94 q95 q96 q97 q98 q99 q100 q101 q102 q103 q104 q105 H.size  ) (cwV 0 hts gL_law_X13_thrown rfl rfl rfl (by decide +kernel) ⟨Nat.le_of_ble_eq_true rfl, Nat.le_of_ble_eq_true rfl⟩) ⟨zB_blind, va_recv hK hP (ci := 15) (q0 := 0) rfl rfl, (zPre hPc hDc hKc hS hFc hZ hN)⟩ rfl rfl hl.1 rfl (lv_room (Nat.le_of_ble_eq_true rfl)) dL_law_1010 ⟨Nat.le_of_ble_eq_true rfl, Nat.le_of_ble_eq_true rfl⟩) hS (fun q _ h => hFc q h) hFc (fun r u t H1 locs ht hvm hw hB hz1 hk1 hS => ?_)
  subst hw
  obtain ⟨hP1, hK1, hD1⟩ := hB
  rw [ht] at hP1
  have hK1 := va_K.moved hvm.symm hK1
  obtain ⟨hP, hD⟩ := va_join (wr := []) (w1 := []) hP hD [0] [] rfl rfl (by decide) (by decide) hk1 hFc hP1 hD1
  have hK := (hK.sub (tys' := []) [] rfl).app hK1
  generalize H1 = H at hP hS ⊢
  have hP : va_P (dC, dI) vwCl [] H := hP
  have hD : va_D (fun q : Nat => s.heap.size ≤ q) [] := hD
  have hK : va_K (dC, dI) vwCl [] s := hK
  refine W.widen (k := 132) (n := 6698) (Nat.le_of_ble_eq_true rfl) (Nat.le_of_ble_eq_true rfl) ?_
  refine lv_iload hx hb dL_law_1013 (lv_at hl 1 rfl) ?_
  refine lv_icmp_eq (tgt := 1020) hx hb dL_law_1015 (by decide) (fun _ => ?_) (fun h9 => absurd (show (1 : Int32) = (1 : Int32) by decide +kernel) h9)
  refine lv_iload hx hb dL_law_1020 (lv_at hl 1 rfl) ?_
  refine lv_if_ne (tgt := 1037) hx hb dL_law_1022 (by decide) (fun _ => ?_) (fun h9 => absurd h9 (show ¬ (1 : Int32) = (0 : Int32) by decide +kernel))
  refine lv_goto (tgt := 2311) hx hb dL_law_1037 (by decide) ?_
  exact law_exit C0 hS (Nat.le_of_ble_eq_true rfl) (Nat.le_of_ble_eq_true rfl) ls (lv_sub hl [2, 3, 4, 5, 6] rfl)
