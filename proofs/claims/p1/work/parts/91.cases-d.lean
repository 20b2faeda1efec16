/-! the law, call by call, written by program -/
set_option maxHeartbeats 8000000 in
set_option maxRecDepth 100000 in
theorem law_case_28 {p : Program} {l : Launch} {e : Env} {s : State} {m : MethodId} {below : List Frame} {meth : Method} {c : Code} {b : Nat} {xs : Nat → Int32} (hfl : l.stackTraces = false) (C0 : lw_At p s m meth c b 4 xs) {dC : Nat → ClassId} {dI : Nat → Nat → Nat} {q0 q1 q3 q5 q7 q9 q11 q13 q15 q17 q21 q25 q26 q27 q2 q4 q6 q8 q10 q16 q18 q22 q23 q86 q87 q88 q89 q90 q91 q92 q93 q94 q95 q96 q97 q98 q99 q100 q101 q102 q103 q104 q105 q106 : Nat} {k2 k4 k87 k88 k89 k90 k91 k92 k93 k94 k96 k106 : ClassId} {H : Heap} {locs : List Loc} (hK : va_K (dC, dI) vwCl [(k2, .char), (k4, (.object "Seekwell$Text")), (k87, .boolean), (k88, .int), (k89, .int), (k90, .char), (k91, (.array .long)), (k92, (.array .long)), (k93, .int), (k94, .int), (k96, .boolean), (k106, .long)] s) (hP : va_P (dC, dI) vwCl [(q0, .inr (13, [.ref q1, .ref q3, .ref q5, .ref q7, .ref q9, .ref q11, .ref q13, .ref q15, .int 0, .ref q17, .ref q21, .ref q25, .ref q26, .ref q27])), (q1, .inr (7, [.ref q2, .int 0])), (q2, .inl (k2, 512, .inl (fun _ => 0))), (q3, .inr (11, [.ref q4, .int 0, .int 1])), (q4, .inl (k4, 24, .inr (.inr (.inr (.inr (fun _ => none)))))), (q5, .inr (11, [.ref q6, .int 0, .int 1])), (q7, .inr (10, [.ref q8, .int 0])), (q9, .inr (5, [.ref q10, .int 0, .int 0])), (q15, .inr (5, [.ref q16, .int 0, .int 0])), (q17, .inr (9, [.ref q18, .ref q18, .null])), (q21, .inr (9, [.ref q22, .ref q22, .null])), (q22, .inr (8, [.int 0, .int 0, .int 1, .int 0, .int 0, .int 0, .ref q23, .null, .null, .null, .null, .int 0, .int 0, .int 0, .int 0, .null, .null])), (q26, .inr (3, [.null, .null, .int 0, .int 0, .null])), (q86, .inr (15, [.ref q87, .ref q88, .ref q89, .ref q90, .ref q91, .ref q92, .int 0, .int 1, .ref q93, .int 0, .ref q94, .null, .ref q95, .null, .ref q96, .ref q97, .ref q98, .ref q99, .ref q100, .int 0, .ref q101, .ref q102, .ref q103, .ref q104, .ref q105, .int 0, .int 0])), (q87, .inl (k87, 24, .inl (fun _ => 0))), (q88, .inl (k88, 24, .inl (fun _ => 0))), (q89, .inl (k89, 24, .inl (fun _ => 0))), (q90, .inl (k90, 24, .inl (fun _ => 0))), (q91, .inl (k91, 24, .inr (.inr (.inr (.inr (fun _ => none)))))), (q92, .inl (k92, 24, .inr (.inr (.inr (.inr (fun _ => none)))))), (q93, .inl (k93, 4000, .inl (fun _ => 0))), (q94, .inl (k94, 0, .inl (fun _ => 0))), (q96, .inl (k96, 24, .inl (fun _ => 0))), (q106, .inl (k106, 1, .inr (.inl (fun _ => 0))))] H) (hD : va_D (fun q : Nat => s.heap.size ≤ q) [(q0, .inr (13, [.ref q1, .ref q3, .ref q5, .ref q7, .ref q9, .ref q11, .ref q13, .ref q15, .int 0, .ref q17, .ref q21, .ref q25, .ref q26, .ref q27])), (q1, .inr (7, [.ref q2, .int 0])), (q2, .inl (k2, 512, .inl (fun _ => 0))), (q3, .inr (11, [.ref q4, .int 0, .int 1])), (q4, .inl (k4, 24, .inr (.inr (.inr (.inr (fun _ => none)))))), (q5, .inr (11, [.ref q6, .int 0, .int 1])), (q7, .inr (10, [.ref q8, .int 0])), (q9, .inr (5, [.ref q10, .int 0, .int 0])), (q15, .inr (5, [.ref q16, .int 0, .int 0])), (q17, .inr (9, [.ref q18, .ref q18, .null])), (q21, .inr (9, [.ref q22, .ref q22, .null])), (q22, .inr (8, [.int 0, .int 0, .int 1, .int 0, .int 0, .int 0, .ref q23, .null, .null, .null, .null, .int 0, .int 0, .int 0, .int 0, .null, .null])), (q26, .inr (3, [.null, .null, .int 0, .int 0, .null])), (q86, .inr (15, [.ref q87, .ref q88, .ref q89, .ref q90, .ref q91, .ref q92, .int 0, .int 1, .ref q93, .int 0, .ref q94, .null, .ref q95, .null, .ref q96, .ref q97, .ref q98, .ref q99, .ref q100, .int 0, .ref q101, .ref q102, .ref q103, .ref q104, .ref q105, .int 0, .int 0])), (q87, .inl (k87, 24, .inl (fun _ => 0))), (q88, .inl (k88, 24, .inl (fun _ => 0))), (q89, .inl (k89, 24, .inl (fun _ => 0))), (q90, .inl (k90, 24, .inl (fun _ => 0))), (q91, .inl (k91, 24, .inr (.inr (.inr (.inr (fun _ => none)))))), (q92, .inl (k92, 24, .inr (.inr (.inr (.inr (fun _ => none)))))), (q93, .inl (k93, 4000, .inl (fun _ => 0))), (q94, .inl (k94, 0, .inl (fun _ => 0))), (q96, .inl (k96, 24, .inl (fun _ => 0))), (q106, .inl (k106, 1, .inr (.inl (fun _ => 0))))]) (hS : va_S (fun q : Nat => s.heap.size ≤ q) s.heap H locs) (hZ : zZ (fun q : Nat => s.heap.size ≤ q) s s.heap) (hN : zN s) (ls : Array Slot) (hl : lv_has ls 7 [(4, .int 0), (3, .ref q106), (2, .ref q86), (1, .ref q0), (0, .ref b)]) : W p l e room_1 s m #[Value.ref b] below meth c H locs 131 6692 (lw_Z below #[Value.ref b] s) (F0 m 1529 ls []) := by
  obtain ⟨hx, hb, hr, hml, hown, hts, hX, hbl, hlocks, hgv⟩ := id C0
  have hbA : ¬ (fun q : Nat => s.heap.size ≤ q) b := Nat.not_le.mpr hbl
  have hA : ∀ q : Nat, s.heap.size ≤ q → (fun q : Nat => s.heap.size ≤ q) q := fun _ h => h
  refine lv_aload_n hx hb dL_law_1529 rfl (lv_at hl 3 rfl) ?_
  refine lv_aload_n hx hb dL_law_1530 rfl (lv_at hl 1 rfl) ?_
  have hPc := hP.sub (ws' := [(q0, .inr (13, [.ref q1, .ref q3, .ref q5, .ref q7, .ref q9, .ref q11, .ref q13, .ref q15, .int 0, .ref q17, .ref q21, .ref q25, .ref q26, .ref q27])), (q17, .inr (9, [.ref q18, .ref q18, .null]))]) [0, 9] rfl
  have hDc := hD.sub (ws' := [(q0, .inr (13, [.ref q1, .ref q3, .ref q5, .ref q7, .ref q9, .ref q11, .ref q13, .ref q15, .int 0, .ref q17, .ref q21, .ref q25, .ref q26, .ref q27])), (q17, .inr (9, [.ref q18, .ref q18, .null]))]) [0, 9] (by decide) rfl
  have hKc := hK.sub (tys' := []) [] rfl
  have hFc := va_free (wc := [(q0, .inr (13, [.ref q1, .ref q3, .ref q5, .ref q7, .ref q9, .ref q11, .ref q13, .ref q15, .int 0, .ref q17, .ref q21, .ref q25, .ref q26, .ref q27])), (q17, .inr (9, [.ref q18, .ref q18, .null]))]) hD hS hA [0, 9] rfl
  refine va_calli (vx_runSW (As := [.ref q0, .ref q106]) (rest := []) ⟨hx, hb, hml, hown, hts⟩ (c_L_hits l hfl dC dI q0 q106 q1 q3 q5 q7 q9 q11 q13 q15 q17 q21 q25 q26 q27 q18 H.size  ) (vx_cwSW 2 hts gL_law_L_hits rfl rfl rfl (by decide +kernel) ⟨Nat.le_of_ble_eq_true rfl, Nat.le_of_ble_eq_true rfl⟩) ⟨zB_blind, (zPre hPc hDc hKc hS hFc hZ hN)⟩ rfl rfl hl.1 rfl (lv_room (Nat.le_of_ble_eq_true rfl)) dL_law_1531 ⟨Nat.le_of_ble_eq_true rfl, Nat.le_of_ble_eq_true rfl⟩) hS (fun q _ h => hFc q h) hFc (fun r u t H1 locs ht hvm hw hB hz1 hk1 hS => ?_)
  subst hw
  obtain ⟨hP1, hK1, hD1⟩ := hB
  rw [ht] at hP1
  have hK1 := va_K.moved hvm.symm hK1
  obtain ⟨hP, hD⟩ := va_join (wr := [(q86, .inr (15, [.ref q87, .ref q88, .ref q89, .ref q90, .ref q91, .ref q92, .int 0, .int 1, .ref q93, .int 0, .ref q94, .null, .ref q95, .null, .ref q96, .ref q97, .ref q98, .ref q99, .ref q100, .int 0, .ref q101, .ref q102, .ref q103, .ref q104, .ref q105, .int 0, .int 0]))]) (w1 := []) hP hD [0, 9] [13] rfl rfl (by decide) (by decide) hk1 hFc hP1 hD1
  have hK := (hK.sub (tys' := []) [] rfl).app hK1
  generalize H1 = H at hP hS ⊢
  have hP : va_P (dC, dI) vwCl [(q86, .inr (15, [.ref q87, .ref q88, .ref q89, .ref q90, .ref q91, .ref q92, .int 0, .int 1, .ref q93, .int 0, .ref q94, .null, .ref q95, .null, .ref q96, .ref q97, .ref q98, .ref q99, .ref q100, .int 0, .ref q101, .ref q102, .ref q103, .ref q104, .ref q105, .int 0, .int 0]))] H := hP
  have hD : va_D (fun q : Nat => s.heap.size ≤ q) [(q86, .inr (15, [.ref q87, .ref q88, .ref q89, .ref q90, .ref q91, .ref q92, .int 0, .int 1, .ref q93, .int 0, .ref q94, .null, .ref q95, .null, .ref q96, .ref q97, .ref q98, .ref q99, .ref q100, .int 0, .ref q101, .ref q102, .ref q103, .ref q104, .ref q105, .int 0, .int 0]))] := hD
  have hK : va_K (dC, dI) vwCl [] s := hK
  refine W.widen (k := 132) (n := 6698) (Nat.le_of_ble_eq_true rfl) (Nat.le_of_ble_eq_true rfl) ?_
  refine lv_istore (lv' := [(5, .int 1), (4, .int 0), (3, .ref q106), (2, .ref q86), (1, .ref q0), (0, .ref b)]) hx hb dL_law_1534 hl (by decide) rfl (fun ls hl => ?_)
  refine lv_aload_n hx hb dL_law_1536 rfl (lv_at hl 3 rfl) ?_
  have hPc := hP.sub (ws' := [(q86, .inr (15, [.ref q87, .ref q88, .ref q89, .ref q90, .ref q91, .ref q92, .int 0, .int 1, .ref q93, .int 0, .ref q94, .null, .ref q95, .null, .ref q96, .ref q97, .ref q98, .ref q99, .ref q100, .int 0, .ref q101, .ref q102, .ref q103, .ref q104, .ref q105, .int 0, .int 0]))]) [0] rfl
  have hDc := hD.sub (ws' := [(q86, .inr (15, [.ref q87, .ref q88, .ref q89, .ref q90, .ref q91, .ref q92, .int 0, .int 1, .ref q93, .int 0, .ref q94, .null, .ref q95, .null, .ref q96, .ref q97, .ref q98, .ref q99, .ref q100, .int 0, .ref q101, .ref q102, .ref q103, .ref q104, .ref q105, .int 0, .int 0]))]) [0] (by decide) rfl
  have hKc := hK.sub (tys' := []) [] rfl
  have hFc := va_free (wc := [(q86, .inr (15, [.ref q87, .ref q88, .ref q89, .ref q90, .ref q91, .ref q92, .int 0, .int 1, .ref q93, .int 0, .ref q94, .null, .ref q95, .null, .ref q96, .ref q97, .ref q98, .ref q99, .ref q100, .int 0, .ref q101, .ref q102, .ref q103, .ref q104, .ref q105, .int 0, .int 0]))]) hD hS hA [0] rfl
  refine va_calli (va_runV (As := []) (rest := []) ⟨hx, hb, hml, hown, hts⟩ (c_X13_hits l dC dI q86 q87 q88 q89 q90 q91 q92 q93 q94 q95 q96 q97 q98 q99 q100 q101 q102 q103 q104 q105 H.size  ) (cwV 0 hts gL_law_X13_hits rfl rfl rfl (by decide +kernel) ⟨Nat.le_of_ble_eq_true rfl, Nat.le_of_ble_eq_true rfl⟩) ⟨zB_blind, va_recv hK hP (ci := 15) (q0 := 0) rfl rfl, (zPre hPc hDc hKc hS hFc hZ hN)⟩ rfl rfl hl.1 rfl (lv_room (Nat.le_of_ble_eq_true rfl)) dL_law_1537 ⟨Nat.le_of_ble_eq_true rfl, Nat.le_of_ble_eq_true rfl⟩) hS (fun q _ h => hFc q h) hFc (fun r u t H1 locs ht hvm hw hB hz1 hk1 hS => ?_)
  subst hw
  obtain ⟨hP1, hK1, hD1⟩ := hB
  rw [ht] at hP1
  have hK1 := va_K.moved hvm.symm hK1
  obtain ⟨hP, hD⟩ := va_join (wr := []) (w1 := [(q86, .inr (15, [.ref q87, .ref q88, .ref q89, .ref q90, .ref q91, .ref q92, .int 0, .int 1, .ref q93, .int 0, .ref q94, .null, .ref q95, .null, .ref q96, .ref q97, .ref q98, .ref q99, .ref q100, .int 1, .ref q101, .ref q102, .ref q103, .ref q104, .ref q105, .int 0, .int 0]))]) hP hD [0] [] rfl rfl (by decide) (by decide) hk1 hFc hP1 hD1
  have hK := (hK.sub (tys' := []) [] rfl).app hK1
  generalize H1 = H at hP hS ⊢
  have hP : va_P (dC, dI) vwCl [(q86, .inr (15, [.ref q87, .ref q88, .ref q89, .ref q90, .ref q91, .ref q92, .int 0, .int 1, .ref q93, .int 0, .ref q94, .null, .ref q95, .null, .ref q96, .ref q97, .ref q98, .ref q99, .ref q100, .int 1, .ref q101, .ref q102, .ref q103, .ref q104, .ref q105, .int 0, .int 0]))] H := hP
  have hD : va_D (fun q : Nat => s.heap.size ≤ q) [(q86, .inr (15, [.ref q87, .ref q88, .ref q89, .ref q90, .ref q91, .ref q92, .int 0, .int 1, .ref q93, .int 0, .ref q94, .null, .ref q95, .null, .ref q96, .ref q97, .ref q98, .ref q99, .ref q100, .int 1, .ref q101, .ref q102, .ref q103, .ref q104, .ref q105, .int 0, .int 0]))] := hD
  have hK : va_K (dC, dI) vwCl [] s := hK
  refine W.widen (k := 132) (n := 6698) (Nat.le_of_ble_eq_true rfl) (Nat.le_of_ble_eq_true rfl) ?_
  refine lv_istore (lv' := [(6, .int 0), (5, .int 1), (4, .int 0), (3, .ref q106), (2, .ref q86), (1, .ref q0), (0, .ref b)]) hx hb dL_law_1540 hl (by decide) rfl (fun ls hl => ?_)
  refine lv_aload_n hx hb dL_law_1542 rfl (lv_at hl 4 rfl) ?_
  have hPc := hP.sub (ws' := [(q86, .inr (15, [.ref q87, .ref q88, .ref q89, .ref q90, .ref q91, .ref q92, .int 0, .int 1, .ref q93, .int 0, .ref q94, .null, .ref q95, .null, .ref q96, .ref q97, .ref q98, .ref q99, .ref q100, .int 1, .ref q101, .ref q102, .ref q103, .ref q104, .ref q105, .int 0, .int 0]))]) [0] rfl
  have hDc := hD.sub (ws' := [(q86, .inr (15, [.ref q87, .ref q88, .ref q89, .ref q90, .ref q91, .ref q92, .int 0, .int 1, .ref q93, .int 0, .ref q94, .null, .ref q95, .null, .ref q96, .ref q97, .ref q98, .ref q99, .ref q100, .int 1, .ref q101, .ref q102, .ref q103, .ref q104, .ref q105, .int 0, .int 0]))]) [0] (by decide) rfl
  have hKc := hK.sub (tys' := []) [] rfl
  have hFc := va_free (wc := [(q86, .inr (15, [.ref q87, .ref q88, .ref q89, .ref q90, .ref q91, .ref q92, .int 0, .int 1, .ref q93, .int 0, .ref q94, .null, .ref q95, .null, .ref q96, .ref q97, .ref q98, .ref q99, .ref q100, .int 1, .ref q101, .ref q102, .ref q103, .ref q104, .ref q105, .int 0, .int 0]))]) hD hS hA [0] rfl
  refine va_calli (va_runV (As := []) (rest := []) ⟨hx, hb, hml, hown, hts⟩ (c_X13_thrown l dC dI q86 q87 q88 q89 q90 q91 q92 q93 q94 q95 q96 q97 q98 q99 q100 q101 q102 q103 q104 q105 H.size  ) (cwV 0 hts gL_law_X13_thrown rfl rfl rfl (by decide +kernel) ⟨Nat.le_of_ble_eq_true rfl, Nat.le_of_ble_eq_true rfl⟩) ⟨zB_blind, va_recv hK hP (ci := 15) (q0 := 0) rfl rfl, (zPre hPc hDc hKc hS hFc hZ hN)⟩ rfl rfl hl.1 rfl (lv_room (Nat.le_of_ble_eq_true rfl)) dL_law_1543 ⟨Nat.le_of_ble_eq_true rfl, Nat.le_of_ble_eq_true rfl⟩) hS (fun q _ h => hFc q h) hFc (fun r u t H1 locs ht hvm hw hB hz1 hk1 hS => ?_)
  subst hw
  obtain ⟨hP1, hK1, hD1⟩ := hB
  rw [ht] at hP1
  have hK1 := va_K.moved hvm.symm hK1
  obtain ⟨hP, hD⟩ := va_join (wr := []) (w1 := []) hP hD [0] [] rfl rfl (by decide) (by decide) hk1 hFc hP1 hD1
  have hK := (hK.sub (tys' := []) [] rfl).app hK1
  generalize H1 = H at hP hS ⊢
  have hP : va_P (dC, dI) vwCl [] H := hP
  have hD : va_D (fun q : Nat => s.heap.size ≤ q) [] := hD
  have hK : va_K (dC, dI) vwCl [] s := hK
  refine W.widen (k := 132) (n := 6698) (Nat.le_of_ble_eq_true rfl) (Nat.le_of_ble_eq_true rfl) ?_
  refine lv_iload hx hb dL_law_1546 (lv_at hl 1 rfl) ?_
  refine lv_icmp_eq (tgt := 1553) hx hb dL_law_1548 (by decide) (fun _ => ?_) (fun h9 => absurd (show (1 : Int32) = (1 : Int32) by decide +kernel) h9)
  refine lv_iload hx hb dL_law_1553 (lv_at hl 1 rfl) ?_
  refine lv_if_ne (tgt := 1570) hx hb dL_law_1555 (by decide) (fun _ => ?_) (fun h9 => absurd h9 (show ¬ (1 : Int32) = (0 : Int32) by decide +kernel))
  refine lv_goto (tgt := 2311) hx hb dL_law_1570 (by decide) ?_
  exact law_exit C0 hS (Nat.le_of_ble_eq_true rfl) (Nat.le_of_ble_eq_true rfl) ls (lv_sub hl [2, 3, 4, 5, 6] rfl)
set_option maxHeartbeats 8000000 in
set_option maxRecDepth 100000 in
theorem law_case_29 {p : Program} {l : Launch} {e : Env} {s : State} {m : MethodId} {below : List Frame} {meth : Method} {c : Code} {b : Nat} {xs : Nat → Int32} (hfl : l.stackTraces = false) (C0 : lw_At p s m meth c b 4 xs) {dC : Nat → ClassId} {dI : Nat → Nat → Nat} {q0 q1 q3 q5 q7 q9 q11 q13 q15 q17 q21 q25 q26 q27 q2 q4 q6 q8 q10 q16 q18 q22 q23 q86 q87 q88 q89 q90 q91 q92 q93 q94 q95 q96 q97 q98 q99 q100 q101 q102 q103 q104 q105 q106 : Nat} {k2 k4 k87 k88 k89 k90 k91 k92 k93 k94 k96 k106 : ClassId} {H : Heap} {locs : List Loc} (hK : va_K (dC, dI) vwCl [(k2, .char), (k4, (.object "Seekwell$Text")), (k87, .boolean), (k88, .int), (k89, .int), (k90, .char), (k91, (.array .long)), (k92, (.array .long)), (k93, .int), (k94, .int), (k96, .boolean), (k106, .long)] s) (hP : va_P (dC, dI) vwCl [(q0, .inr (13, [.ref q1, .ref q3, .ref q5, .ref q7, .ref q9, .ref q11, .ref q13, .ref q15, .int 0, .ref q17, .ref q21, .ref q25, .ref q26, .ref q27])), (q1, .inr (7, [.ref q2, .int 0])), (q2, .inl (k2, 512, .inl (fun _ => 0))), (q3, .inr (11, [.ref q4, .int 0, .int 1])), (q4, .inl (k4, 24, .inr (.inr (.inr (.inr (fun _ => none)))))), (q5, .inr (11, [.ref q6, .int 0, .int 1])), (q7, .inr (10, [.ref q8, .int 0])), (q9, .inr (5, [.ref q10, .int 0, .int 0])), (q15, .inr (5, [.ref q16, .int 0, .int 0])), (q17, .inr (9, [.ref q18, .ref q18, .null])), (q21, .inr (9, [.ref q22, .ref q22, .null])), (q22, .inr (8, [.int 0, .int 0, .int 1, .int 0, .int 0, .int 0, .ref q23, .null, .null, .null, .null, .int 0, .int 0, .int 0, .int 0, .null, .null])), (q26, .inr (3, [.null, .null, .int 0, .int 0, .null])), (q86, .inr (15, [.ref q87, .ref q88, .ref q89, .ref q90, .ref q91, .ref q92, .int 0, .int 1, .ref q93, .int 0, .ref q94, .null, .ref q95, .null, .ref q96, .ref q97, .ref q98, .ref q99, .ref q100, .int 0, .ref q101, .ref q102, .ref q103, .ref q104, .ref q105, .int 0, .int 0])), (q87, .inl (k87, 24, .inl (fun _ => 0))), (q88, .inl (k88, 24, .inl (fun _ => 0))), (q89, .inl (k89, 24, .inl (fun _ => 0))), (q90, .inl (k90, 24, .inl (fun _ => 0))), (q91, .inl (k91, 24, .inr (.inr (.inr (.inr (fun _ => none)))))), (q92, .inl (k92, 24, .inr (.inr (.inr (.inr (fun _ => none)))))), (q93, .inl (k93, 4000, .inl (fun _ => 0))), (q94, .inl (k94, 0, .inl (fun _ => 0))), (q96, .inl (k96, 24, .inl (fun _ => 0))), (q106, .inl (k106, 1, .inr (.inl (fun _ => 0))))] H) (hD : va_D (fun q : Nat => s.heap.size ≤ q) [(q0, .inr (13, [.ref q1, .ref q3, .ref q5, .ref q7, .ref q9, .ref q11, .ref q13, .ref q15, .int 0, .ref q17, .ref q21, .ref q25, .ref q26, .ref q27])), (q1, .inr (7, [.ref q2, .int 0])), (q2, .inl (k2, 512, .inl (fun _ => 0))), (q3, .inr (11, [.ref q4, .int 0, .int 1])), (q4, .inl (k4, 24, .inr (.inr (.inr (.inr (fun _ => none)))))), (q5, .inr (11, [.ref q6, .int 0, .int 1])), (q7, .inr (10, [.ref q8, .int 0])), (q9, .inr (5, [.ref q10, .int 0, .int 0])), (q15, .inr (5, [.ref q16, .int 0, .int 0])), (q17, .inr (9, [.ref q18, .ref q18, .null])), (q21, .inr (9, [.ref q22, .ref q22, .null])), (q22, .inr (8, [.int 0, .int 0, .int 1, .int 0, .int 0, .int 0, .ref q23, .null, .null, .null, .null, .int 0, .int 0, .int 0, .int 0, .null, .null])), (q26, .inr (3, [.null, .null, .int 0, .int 0, .null])), (q86, .inr (15, [.ref q87, .ref q88, .ref q89, .ref q90, .ref q91, .ref q92, .int 0, .int 1, .ref q93, .int 0, .ref q94, .null, .ref q95, .null, .ref q96, .ref q97, .ref q98, .ref q99, .ref q100, .int 0, .ref q101, .ref q102, .ref q103, .ref q104, .ref q105, .int 0, .int 0])), (q87, .inl (k87, 24, .inl (fun _ => 0))), (q88, .inl (k88, 24, .inl (fun _ => 0))), (q89, .inl (k89, 24, .inl (fun _ => 0))), (q90, .inl (k90, 24, .inl (fun _ => 0))), (q91, .inl (k91, 24, .inr (.inr (.inr (.inr (fun _ => none)))))), (q92, .inl (k92, 24, .inr (.inr (.inr (.inr (fun _ => none)))))), (q93, .inl (k93, 4000, .inl (fun _ => 0))), (q94, .inl (k94, 0, .inl (fun _ => 0))), (q96, .inl (k96, 24, .inl (fun _ => 0))), (q106, .inl (k106, 1, .inr (.inl (fun _ => 0))))]) (hS : va_S (fun q : Nat => s.heap.size ≤ q) s.heap H locs) (hZ : zZ (fun q : Nat => s.heap.size ≤ q) s s.heap) (hN : zN s) (ls : Array Slot) (hl : lv_has ls 7 [(4, .int 0), (3, .ref q106), (2, .ref q86), (1, .ref q0), (0, .ref b)]) : W p l e room_1 s m #[Value.ref b] below meth c H locs 131 6692 (lw_Z below #[Value.ref b] s) (F0 m 1573 ls []) := by
  obtain ⟨hx, hb, hr, hml, hown, hts, hX, hbl, hlocks, hgv⟩ := id C0
  have hbA : ¬ (fun q : Nat => s.heap.size ≤ q) b := Nat.not_le.mpr hbl
  have hA : ∀ q : Nat, s.heap.size ≤ q → (fun q : Nat => s.heap.size ≤ q) q := fun _ h => h
  refine lv_aload_n hx hb dL_law_1573 rfl (lv_at hl 3 rfl) ?_
  refine lv_aload_n hx hb dL_law_1574 rfl (lv_at hl 4 rfl) ?_
  refine lv_iload hx hb dL_law_1575 (lv_at hl 0 rfl) ?_
  refine lv_iconst (v := 1) hx hb dL_law_1577 (by decide +kernel) ?_
  refine lv_iadd hx hb dL_law_1578 ?_
  refine zt_i (v := 1) (by decide +kernel) ?_
  refine va_sld hx hb hX hbl hbA hS (i := 1) (zin (by decide +kernel)) dL_law_1579 ?_
  refine zt_v (w := .int (xs 1)) rfl ?_
  refine lv_aload_n hx hb dL_law_1580 rfl (lv_at hl 1 rfl) ?_
  have hPc := hP.sub (ws' := [(q0, .inr (13, [.ref q1, .ref q3, .ref q5, .ref q7, .ref q9, .ref q11, .ref q13, .ref q15, .int 0, .ref q17, .ref q21, .ref q25, .ref q26, .ref q27])), (q17, .inr (9, [.ref q18, .ref q18, .null]))]) [0, 9] rfl
  have hDc := hD.sub (ws' := [(q0, .inr (13, [.ref q1, .ref q3, .ref q5, .ref q7, .ref q9, .ref q11, .ref q13, .ref q15, .int 0, .ref q17, .ref q21, .ref q25, .ref q26, .ref q27])), (q17, .inr (9, [.ref q18, .ref q18, .null]))]) [0, 9] (by decide) rfl
  have hKc := hK.sub (tys' := []) [] rfl
  have hFc := va_free (wc := [(q0, .inr (13, [.ref q1, .ref q3, .ref q5, .ref q7, .ref q9, .ref q11, .ref q13, .ref q15, .int 0, .ref q17, .ref q21, .ref q25, .ref q26, .ref q27])), (q17, .inr (9, [.ref q18, .ref q18, .null]))]) hD hS hA [0, 9] rfl
  refine va_calli (vx_runSW (As := [.ref q0, .int (xs 1), .ref q106]) (rest := []) ⟨hx, hb, hml, hown, hts⟩ (c_L_hitAt l hfl dC dI q0 q106 q1 q3 q5 q7 q9 q11 q13 q15 q17 q21 q25 q26 q27 q18 H.size (xs 1) ) (vx_cwSW 3 hts gL_law_L_hitAt rfl rfl rfl (by decide +kernel) ⟨Nat.le_of_ble_eq_true rfl, Nat.le_of_ble_eq_true rfl⟩) ⟨zB_blind, (zPre hPc hDc hKc hS hFc hZ hN)⟩ rfl rfl hl.1 rfl (lv_room (Nat.le_of_ble_eq_true rfl)) dL_law_1581 ⟨Nat.le_of_ble_eq_true rfl, Nat.le_of_ble_eq_true rfl⟩) hS (fun q _ h => hFc q h) hFc (fun r u t H1 locs ht hvm hw hB hz1 hk1 hS => ?_)
  subst hw
  obtain ⟨hP1, hK1, hD1⟩ := hB
  rw [ht] at hP1
  have hK1 := va_K.moved hvm.symm hK1
  obtain ⟨hP, hD⟩ := va_join (wr := [(q86, .inr (15, [.ref q87, .ref q88, .ref q89, .ref q90, .ref q91, .ref q92, .int 0, .int 1, .ref q93, .int 0, .ref q94, .null, .ref q95, .null, .ref q96, .ref q97, .ref q98, .ref q99, .ref q100, .int 0, .ref q101, .ref q102, .ref q103, .ref q104, .ref q105, .int 0, .int 0]))]) (w1 := []) hP hD [0, 9] [13] rfl rfl (by decide) (by decide) hk1 hFc hP1 hD1
  have hK := (hK.sub (tys' := []) [] rfl).app hK1
  generalize H1 = H at hP hS ⊢
  have hP : va_P (dC, dI) vwCl [(q86, .inr (15, [.ref q87, .ref q88, .ref q89, .ref q90, .ref q91, .ref q92, .int 0, .int 1, .ref q93, .int 0, .ref q94, .null, .ref q95, .null, .ref q96, .ref q97, .ref q98, .ref q99, .ref q100, .int 0, .ref q101, .ref q102, .ref q103, .ref q104, .ref q105, .int 0, .int 0]))] H := hP
  have hD : va_D (fun q : Nat => s.heap.size ≤ q) [(q86, .inr (15, [.ref q87, .ref q88, .ref q89, .ref q90, .ref q91, .ref q92, .int 0, .int 1, .ref q93, .int 0, .ref q94, .null, .ref q95, .null, .ref q96, .ref q97, .ref q98, .ref q99, .ref q100, .int 0, .ref q101, .ref q102, .ref q103, .ref q104, .ref q105, .int 0, .int 0]))] := hD
  have hK : va_K (dC, dI) vwCl [] s := hK
  refine W.widen (k := 132) (n := 6698) (Nat.le_of_ble_eq_true rfl) (Nat.le_of_ble_eq_true rfl) ?_
  refine lv_istore (lv' := [(5, .int 1), (4, .int 0), (3, .ref q106), (2, .ref q86), (1, .ref q0), (0, .ref b)]) hx hb dL_law_1584 hl (by decide) rfl (fun ls hl => ?_)
  refine lv_aload_n hx hb dL_law_1586 rfl (lv_at hl 3 rfl) ?_
  refine lv_aload_n hx hb dL_law_1587 rfl (lv_at hl 5 rfl) ?_
  refine lv_iload hx hb dL_law_1588 (lv_at hl 1 rfl) ?_
  refine lv_iconst (v := 1) hx hb dL_law_1590 (by decide +kernel) ?_
  refine lv_iadd hx hb dL_law_1591 ?_
  refine zt_i (v := 1) (by decide +kernel) ?_
  refine va_sld hx hb hX hbl hbA hS (i := 1) (zin (by decide +kernel)) dL_law_1592 ?_
  refine zt_v (w := .int (xs 1)) rfl ?_
  have hPc := hP.sub (ws' := [(q86, .inr (15, [.ref q87, .ref q88, .ref q89, .ref q90, .ref q91, .ref q92, .int 0, .int 1, .ref q93, .int 0, .ref q94, .null, .ref q95, .null, .ref q96, .ref q97, .ref q98, .ref q99, .ref q100, .int 0, .ref q101, .ref q102, .ref q103, .ref q104, .ref q105, .int 0, .int 0]))]) [0] rfl
  have hDc := hD.sub (ws' := [(q86, .inr (15, [.ref q87, .ref q88, .ref q89, .ref q90, .ref q91, .ref q92, .int 0, .int 1, .ref q93, .int 0, .ref q94, .null, .ref q95, .null, .ref q96, .ref q97, .ref q98, .ref q99, .ref q100, .int 0, .ref q101, .ref q102, .ref q103, .ref q104, .ref q105, .int 0, .int 0]))]) [0] (by decide) rfl
  have hKc := hK.sub (tys' := []) [] rfl
  have hFc := va_free (wc := [(q86, .inr (15, [.ref q87, .ref q88, .ref q89, .ref q90, .ref q91, .ref q92, .int 0, .int 1, .ref q93, .int 0, .ref q94, .null, .ref q95, .null, .ref q96, .ref q97, .ref q98, .ref q99, .ref q100, .int 0, .ref q101, .ref q102, .ref q103, .ref q104, .ref q105, .int 0, .int 0]))]) hD hS hA [0] rfl
  refine va_calli (va_runV (As := [.int (xs 1)]) (rest := []) ⟨hx, hb, hml, hown, hts⟩ (c_X13_hitAt l dC dI q86 q87 q88 q89 q90 q91 q92 q93 q94 q95 q96 q97 q98 q99 q100 q101 q102 q103 q104 q105 H.size (xs 1) ) (cwV 1 hts gL_law_X13_hitAt rfl rfl rfl (by decide +kernel) ⟨Nat.le_of_ble_eq_true rfl, Nat.le_of_ble_eq_true rfl⟩) ⟨zB_blind, va_recv hK hP (ci := 15) (q0 := 0) rfl rfl, (zPre hPc hDc hKc hS hFc hZ hN)⟩ rfl rfl hl.1 rfl (lv_room (Nat.le_of_ble_eq_true rfl)) dL_law_1593 ⟨Nat.le_of_ble_eq_true rfl, Nat.le_of_ble_eq_true rfl⟩) hS (fun q _ h => hFc q h) hFc (fun r u t H1 locs ht hvm hw hB hz1 hk1 hS => ?_)
  subst hw
  obtain ⟨hP1, hK1, hD1⟩ := hB
  rw [ht] at hP1
  have hK1 := va_K.moved hvm.symm hK1
  obtain ⟨hP, hD⟩ := va_join (wr := []) (w1 := [(q86, .inr (15, [.ref q87, .ref q88, .ref q89, .ref q90, .ref q91, .ref q92, .int 0, .int 1, .ref q93, .int 0, .ref q94, .null, .ref q95, .null, .ref q96, .ref q97, .ref q98, .ref q99, .ref q100, .int 1, .ref q101, .ref q102, .ref q103, .ref q104, .ref q105, .int 0, .int 0]))]) hP hD [0] [] rfl rfl (by decide) (by decide) hk1 hFc hP1 hD1
  have hK := (hK.sub (tys' := []) [] rfl).app hK1
  generalize H1 = H at hP hS ⊢
  have hP : va_P (dC, dI) vwCl [(q86, .inr (15, [.ref q87, .ref q88, .ref q89, .ref q90, .ref q91, .ref q92, .int 0, .int 1, .ref q93, .int 0, .ref q94, .null, .ref q95, .null, .ref q96, .ref q97, .ref q98, .ref q99, .ref q100, .int 1, .ref q101, .ref q102, .ref q103, .ref q104, .ref q105, .int 0, .int 0]))] H := hP
  have hD : va_D (fun q : Nat => s.heap.size ≤ q) [(q86, .inr (15, [.ref q87, .ref q88, .ref q89, .ref q90, .ref q91, .ref q92, .int 0, .int 1, .ref q93, .int 0, .ref q94, .null, .ref q95, .null, .ref q96, .ref q97, .ref q98, .ref q99, .ref q100, .int 1, .ref q101, .ref q102, .ref q103, .ref q104, .ref q105, .int 0, .int 0]))] := hD
  have hK : va_K (dC, dI) vwCl [] s := hK
  refine W.widen (k := 132) (n := 6698) (Nat.le_of_ble_eq_true rfl) (Nat.le_of_ble_eq_true rfl) ?_
  refine lv_istore (lv' := [(6, .int 0), (5, .int 1), (4, .int 0), (3, .ref q106), (2, .ref q86), (1, .ref q0), (0, .ref b)]) hx hb dL_law_1596 hl (by decide) rfl (fun ls hl => ?_)
  refine lv_aload_n hx hb dL_law_1598 rfl (lv_at hl 4 rfl) ?_
  have hPc := hP.sub (ws' := [(q86, .inr (15, [.ref q87, .ref q88, .ref q89, .ref q90, .ref q91, .ref q92, .int 0, .int 1, .ref q93, .int 0, .ref q94, .null, .ref q95, .null, .ref q96, .ref q97, .ref q98, .ref q99, .ref q100, .int 1, .ref q101, .ref q102, .ref q103, .ref q104, .ref q105, .int 0, .int 0]))]) [0] rfl
  have hDc := hD.sub (ws' := [(q86, .inr (15, [.ref q87, .ref q88, .ref q89, .ref q90, .ref q91, .ref q92, .int 0, .int 1, .ref q93, .int 0, .ref q94, .null, .ref q95, .null, .ref q96, .ref q97, .ref q98, .ref q99, .ref q100, .int 1, .ref q101, .ref q102, .ref q103, .ref q104, .ref q105, .int 0, .int 0]))]) [0] (by decide) rfl
  have hKc := hK.sub (tys' := []) [] rfl
  have hFc := va_free (wc := [(q86, .inr (15, [.ref q87, .ref q88, .ref q89, .ref q90, .ref q91, .ref q92, .int 0, .int 1, .ref q93, .int 0, .ref q94, .null, .ref q95, .null, .ref q96, .ref q97, .ref q98, .ref q99, .ref q100, .int 1, .ref q101, .ref q102, .ref q103, .ref q104, .ref q105, .int 0, .int 0]))]) hD hS hA [0] rfl
  refine va_calli (va_runV (As := []) (rest := []) ⟨hx, hb, hml, hown, hts⟩ (c_X13_thrown l dC dI q86 q87 q88 q89 q90 q91 q92 q93 q94 q95 q96 q97 q98 q99 q100 q101 q102 q103 q104 q105 H.size  ) (cwV 0 hts gL_law_X13_thrown rfl rfl rfl (by decide +kernel) ⟨Nat.le_of_ble_eq_true rfl, Nat.le_of_ble_eq_true rfl⟩) ⟨zB_blind, va_recv hK hP (ci := 15) (q0 := 0) rfl rfl, (zPre hPc hDc hKc hS hFc hZ hN)⟩ rfl rfl hl.1 rfl (lv_room (Nat.le_of_ble_eq_true rfl)) dL_law_1599 ⟨Nat.le_of_ble_eq_true rfl, Nat.le_of_ble_eq_true rfl⟩) hS (fun q _ h => hFc q h) hFc (fun r u t H1 locs ht hvm hw hB hz1 hk1 hS => ?_)
  subst hw
  obtain ⟨hP1, hK1, hD1⟩ := hB
  rw [ht] at hP1
  have hK1 := va_K.moved hvm.symm hK1
  obtain ⟨hP, hD⟩ := va_join (wr := []) (w1 := []) hP hD [0] [] rfl rfl (by decide) (by decide) hk1 hFc hP1 hD1
  have hK := (hK.sub (tys' := []) [] rfl).app hK1
  generalize H1 = H at hP hS ⊢
  have hP : va_P (dC, dI) vwCl [] H := hP
  have hD : va_D (fun q : Nat => s.heap.size ≤ q) [] := hD
  have hK : va_K (dC, dI) vwCl [] s := hK
  refine W.widen (k := 132) (n := 6698) (Nat.le_of_ble_eq_true rfl) (Nat.le_of_ble_eq_true rfl) ?_
  refine lv_iload hx hb dL_law_1602 (lv_at hl 1 rfl) ?_
  refine lv_icmp_eq (tgt := 1609) hx hb dL_law_1604 (by decide) (fun _ => ?_) (fun h9 => absurd (show (1 : Int32) = (1 : Int32) by decide +kernel) h9)
  refine lv_iload hx hb dL_law_1609 (lv_at hl 1 rfl) ?_
  refine lv_if_ne (tgt := 1626) hx hb dL_law_1611 (by decide) (fun _ => ?_) (fun h9 => absurd h9 (show ¬ (1 : Int32) = (0 : Int32) by decide +kernel))
  refine lv_goto (tgt := 2311) hx hb dL_law_1626 (by decide) ?_
  exact law_exit C0 hS (Nat.le_of_ble_eq_true rfl) (Nat.le_of_ble_eq_true rfl) ls (lv_sub hl [2, 3, 4, 5, 6] rfl)
set_option maxHeartbeats 8000000 in
set_option maxRecDepth 100000 in
theorem law_case_30 {p : Program} {l : Launch} {e : Env} {s : State} {m : MethodId} {below : List Frame} {meth : Method} {c : Code} {b : Nat} {xs : Nat → Int32} (hfl : l.stackTraces = false) (C0 : lw_At p s m meth c b 4 xs) {dC : Nat → ClassId} {dI : Nat → Nat → Nat} {q0 q1 q3 q5 q7 q9 q11 q13 q15 q17 q21 q25 q26 q27 q2 q4 q6 q8 q10 q16 q18 q22 q23 q86 q87 q88 q89 q90 q91 q92 q93 q94 q95 q96 q97 q98 q99 q100 q101 q102 q103 q104 q105 q106 : Nat} {k2 k4 k87 k88 k89 k90 k91 k92 k93 k94 k96 k106 : ClassId} {H : Heap} {locs : List Loc} (hK : va_K (dC, dI) vwCl [(k2, .char), (k4, (.object "Seekwell$Text")), (k87, .boolean), (k88, .int), (k89, .int), (k90, .char), (k91, (.array .long)), (k92, (.array .long)), (k93, .int), (k94, .int), (k96, .boolean), (k106, .long)] s) (hP : va_P (dC, dI) vwCl [(q0, .inr (13, [.ref q1, .ref q3, .ref q5, .ref q7, .ref q9, .ref q11, .ref q13, .ref q15, .int 0, .ref q17, .ref q21, .ref q25, .ref q26, .ref q27])), (q1, .inr (7, [.ref q2, .int 0])), (q2, .inl (k2, 512, .inl (fun _ => 0))), (q3, .inr (11, [.ref q4, .int 0, .int 1])), (q4, .inl (k4, 24, .inr (.inr (.inr (.inr (fun _ => none)))))), (q5, .inr (11, [.ref q6, .int 0, .int 1])), (q7, .inr (10, [.ref q8, .int 0])), (q9, .inr (5, [.ref q10, .int 0, .int 0])), (q15, .inr (5, [.ref q16, .int 0, .int 0])), (q17, .inr (9, [.ref q18, .ref q18, .null])), (q21, .inr (9, [.ref q22, .ref q22, .null])), (q22, .inr (8, [.int 0, .int 0, .int 1, .int 0, .int 0, .int 0, .ref q23, .null, .null, .null, .null, .int 0, .int 0, .int 0, .int 0, .null, .null])), (q26, .inr (3, [.null, .null, .int 0, .int 0, .null])), (q86, .inr (15, [.ref q87, .ref q88, .ref q89, .ref q90, .ref q91, .ref q92, .int 0, .int 1, .ref q93, .int 0, .ref q94, .null, .ref q95, .null, .ref q96, .ref q97, .ref q98, .ref q99, .ref q100, .int 0, .ref q101, .ref q102, .ref q103, .ref q104, .ref q105, .int 0, .int 0])), (q87, .inl (k87, 24, .inl (fun _ => 0))), (q88, .inl (k88, 24, .inl (fun _ => 0))), (q89, .inl (k89, 24, .inl (fun _ => 0))), (q90, .inl (k90, 24, .inl (fun _ => 0))), (q91, .inl (k91, 24, .inr (.inr (.inr (.inr (fun _ => none)))))), (q92, .inl (k92, 24, .inr (.inr (.inr (.inr (fun _ => none)))))), (q93, .inl (k93, 4000, .inl (fun _ => 0))), (q94, .inl (k94, 0, .inl (fun _ => 0))), (q96, .inl (k96, 24, .inl (fun _ => 0))), (q106, .inl (k106, 1, .inr (.inl (fun _ => 0))))] H) (hD : va_D (fun q : Nat => s.heap.size ≤ q) [(q0, .inr (13, [.ref q1, .ref q3, .ref q5, .ref q7, .ref q9, .ref q11, .ref q13, .ref q15, .int 0, .ref q17, .ref q21, .ref q25, .ref q26, .ref q27])), (q1, .inr (7, [.ref q2, .int 0])), (q2, .inl (k2, 512, .inl (fun _ => 0))), (q3, .inr (11, [.ref q4, .int 0, .int 1])), (q4, .inl (k4, 24, .inr (.inr (.inr (.inr (fun _ => none)))))), (q5, .inr (11, [.ref q6, .int 0, .int 1])), (q7, .inr (10, [.ref q8, .int 0])), (q9, .inr (5, [.ref q10, .int 0, .int 0])), (q15, .inr (5, [.ref q16, .int 0, .int 0])), (q17, .inr (9, [.ref q18, .ref q18, .null])), (q21, .inr (9, [.ref q22, .ref q22, .null])), (q22, .inr (8, [.int 0, .int 0, .int 1, .int 0, .int 0, .int 0, .ref q23, .null, .null, .null, .null, .int 0, .int 0, .int 0, .int 0, .null, .null])), (q26, .inr (3, [.null, .null, .int 0, .int 0, .null])), (q86, .inr (15, [.ref q87, .ref q88, .ref q89, .ref q90, .ref q91, .ref q92, .int 0, .int 1, .ref q93, .int 0, .ref q94, .null, .ref q95, .null, .ref q96, .ref q97, .ref q98, .ref q99, .ref q100, .int 0, .ref q101, .ref q102, .ref q103, .ref q104, .ref q105, .int 0, .int 0])), (q87, .inl (k87, 24, .inl (fun _ => 0))), (q88, .inl (k88, 24, .inl (fun _ => 0))), (q89, .inl (k89, 24, .inl (fun _ => 0))), (q90, .inl (k90, 24, .inl (fun _ => 0))), (q91, .inl (k91, 24, .inr (.inr (.inr (.inr (fun _ => none)))))), (q92, .inl (k92, 24, .inr (.inr (.inr (.inr (fun _ => none)))))), (q93, .inl (k93, 4000, .inl (fun _ => 0))), (q94, .inl (k94, 0, .inl (fun _ => 0))), (q96, .inl (k96, 24, .inl (fun _ => 0))), (q106, .inl (k106, 1, .inr (.inl (fun _ => 0))))]) (hS : va_S (fun q : Nat => s.heap.size ≤ q) s.heap H locs) (hZ : zZ (fun q : Nat => s.heap.size ≤ q) s s.heap) (hN : zN s) (ls : Array Slot) (hl : lv_has ls 7 [(4, .int 0), (3, .ref q106), (2, .ref q86), (1, .ref q0), (0, .ref b)]) : W p l e room_1 s m #[Value.ref b] below meth c H locs 131 6692 (lw_Z below #[Value.ref b] s) (F0 m 1629 ls []) := by
  obtain ⟨hx, hb, hr, hml, hown, hts, hX, hbl, hlocks, hgv⟩ := id C0
  have hbA : ¬ (fun q : Nat => s.heap.size ≤ q) b := Nat.not_le.mpr hbl
  have hA : ∀ q : Nat, s.heap.size ≤ q → (fun q : Nat => s.heap.size ≤ q) q := fun _ h => h
  refine lv_aload_n hx hb dL_law_1629 rfl (lv_at hl 3 rfl) ?_
  refine lv_aload_n hx hb dL_law_1630 rfl (lv_at hl 4 rfl) ?_
  refine lv_iload hx hb dL_law_1631 (lv_at hl 0 rfl) ?_
  refine lv_iconst (v := 1) hx hb dL_law_1633 (by decide +kernel) ?_
  refine lv_iadd hx hb dL_law_1634 ?_
  refine zt_i (v := 1) (by decide +kernel) ?_
  refine va_sld hx hb hX hbl hbA hS (i := 1) (zin (by decide +kernel)) dL_law_1635 ?_
  refine zt_v (w := .int (xs 1)) rfl ?_
  refine lv_aload_n hx hb dL_law_1636 rfl (lv_at hl 4 rfl) ?_
  refine lv_iload hx hb dL_law_1637 (lv_at hl 0 rfl) ?_
  refine lv_iconst (v := 2) hx hb dL_law_1639 (by decide +kernel) ?_
  refine lv_iadd hx hb dL_law_1640 ?_
  refine zt_i (v := 2) (by decide +kernel) ?_
  refine va_sld hx hb hX hbl hbA hS (i := 2) (zin (by decide +kernel)) dL_law_1641 ?_
  refine zt_v (w := .int (xs 2)) rfl ?_
  refine lv_aload_n hx hb dL_law_1642 rfl (lv_at hl 1 rfl) ?_
  have hPc := hP.sub (ws' := [(q0, .inr (13, [.ref q1, .ref q3, .ref q5, .ref q7, .ref q9, .ref q11, .ref q13, .ref q15, .int 0, .ref q17, .ref q21, .ref q25, .ref q26, .ref q27])), (q17, .inr (9, [.ref q18, .ref q18, .null]))]) [0, 9] rfl
  have hDc := hD.sub (ws' := [(q0, .inr (13, [.ref q1, .ref q3, .ref q5, .ref q7, .ref q9, .ref q11, .ref q13, .ref q15, .int 0, .ref q17, .ref q21, .ref q25, .ref q26, .ref q27])), (q17, .inr (9, [.ref q18, .ref q18, .null]))]) [0, 9] (by decide) rfl
  have hKc := hK.sub (tys' := []) [] rfl
  have hFc := va_free (wc := [(q0, .inr (13, [.ref q1, .ref q3, .ref q5, .ref q7, .ref q9, .ref q11, .ref q13, .ref q15, .int 0, .ref q17, .ref q21, .ref q25, .ref q26, .ref q27])), (q17, .inr (9, [.ref q18, .ref q18, .null]))]) hD hS hA [0, 9] rfl
  refine va_calli (vx_runSW (As := [.ref q0, .int (xs 1), .int (xs 2), .ref q106]) (rest := []) ⟨hx, hb, hml, hown, hts⟩ (c_L_top l hfl dC dI q0 q106 q1 q3 q5 q7 q9 q11 q13 q15 q17 q21 q25 q26 q27 q18 H.size (xs 1) (xs 2) ) (vx_cwSW 4 hts gL_law_L_top rfl rfl rfl (by decide +kernel) ⟨Nat.le_of_ble_eq_true rfl, Nat.le_of_ble_eq_true rfl⟩) ⟨zB_blind, (zPre hPc hDc hKc hS hFc hZ hN)⟩ rfl rfl hl.1 rfl (lv_room (Nat.le_of_ble_eq_true rfl)) dL_law_1643 ⟨Nat.le_of_ble_eq_true rfl, Nat.le_of_ble_eq_true rfl⟩) hS (fun q _ h => hFc q h) hFc (fun r u t H1 locs ht hvm hw hB hz1 hk1 hS => ?_)
  subst hw
  obtain ⟨hP1, hK1, hD1⟩ := hB
  rw [ht] at hP1
  have hK1 := va_K.moved hvm.symm hK1
  obtain ⟨hP, hD⟩ := va_join (wr := [(q86, .inr (15, [.ref q87, .ref q88, .ref q89, .ref q90, .ref q91, .ref q92, .int 0, .int 1, .ref q93, .int 0, .ref q94, .null, .ref q95, .null, .ref q96, .ref q97, .ref q98, .ref q99, .ref q100, .int 0, .ref q101, .ref q102, .ref q103, .ref q104, .ref q105, .int 0, .int 0]))]) (w1 := []) hP hD [0, 9] [13] rfl rfl (by decide) (by decide) hk1 hFc hP1 hD1
  have hK := (hK.sub (tys' := []) [] rfl).app hK1
  generalize H1 = H at hP hS ⊢
  have hP : va_P (dC, dI) vwCl [(q86, .inr (15, [.ref q87, .ref q88, .ref q89, .ref q90, .ref q91, .ref q92, .int 0, .int 1, .ref q93, .int 0, .ref q94, .null, .ref q95, .null, .ref q96, .ref q97, .ref q98, .ref q99, .ref q100, .int 0, .ref q101, .ref q102, .ref q103, .ref q104, .ref q105, .int 0, .int 0]))] H := hP
  have hD : va_D (fun q : Nat => s.heap.size ≤ q) [(q86, .inr (15, [.ref q87, .ref q88, .ref q89, .ref q90, .ref q91, .ref q92, .int 0, .int 1, .ref q93, .int 0, .ref q94, .null, .ref q95, .null, .ref q96, .ref q97, .ref q98, .ref q99, .ref q100, .int 0, .ref q101, .ref q102, .ref q103, .ref q104, .ref q105, .int 0, .int 0]))] := hD
  have hK : va_K (dC, dI) vwCl [] s := hK
  refine W.widen (k := 132) (n := 6698) (Nat.le_of_ble_eq_true rfl) (Nat.le_of_ble_eq_true rfl) ?_
  refine lv_istore (lv' := [(5, .int 1), (4, .int 0), (3, .ref q106), (2, .ref q86), (1, .ref q0), (0, .ref b)]) hx hb dL_law_1646 hl (by decide) rfl (fun ls hl => ?_)
  refine lv_aload_n hx hb dL_law_1648 rfl (lv_at hl 3 rfl) ?_
  refine lv_aload_n hx hb dL_law_1649 rfl (lv_at hl 5 rfl) ?_
  refine lv_iload hx hb dL_law_1650 (lv_at hl 1 rfl) ?_
  refine lv_iconst (v := 1) hx hb dL_law_1652 (by decide +kernel) ?_
  refine lv_iadd hx hb dL_law_1653 ?_
  refine zt_i (v := 1) (by decide +kernel) ?_
  refine va_sld hx hb hX hbl hbA hS (i := 1) (zin (by decide +kernel)) dL_law_1654 ?_
  refine zt_v (w := .int (xs 1)) rfl ?_
  refine lv_aload_n hx hb dL_law_1655 rfl (lv_at hl 5 rfl) ?_
  refine lv_iload hx hb dL_law_1656 (lv_at hl 1 rfl) ?_
  refine lv_iconst (v := 2) hx hb dL_law_1658 (by decide +kernel) ?_
  refine lv_iadd hx hb dL_law_1659 ?_
  refine zt_i (v := 2) (by decide +kernel) ?_
  refine va_sld hx hb hX hbl hbA hS (i := 2) (zin (by decide +kernel)) dL_law_1660 ?_
  refine zt_v (w := .int (xs 2)) rfl ?_
  have hPc := hP.sub (ws' := [(q86, .inr (15, [.ref q87, .ref q88, .ref q89, .ref q90, .ref q91, .ref q92, .int 0, .int 1, .ref q93, .int 0, .ref q94, .null, .ref q95, .null, .ref q96, .ref q97, .ref q98, .ref q99, .ref q100, .int 0, .ref q101, .ref q102, .ref q103, .ref q104, .ref q105, .int 0, .int 0]))]) [0] rfl
  have hDc := hD.sub (ws' := [(q86, .inr (15, [.ref q87, .ref q88, .ref q89, .ref q90, .ref q91, .ref q92, .int 0, .int 1, .ref q93, .int 0, .ref q94, .null, .ref q95, .null, .ref q96, .ref q97, .ref q98, .ref q99, .ref q100, .int 0, .ref q101, .ref q102, .ref q103, .ref q104, .ref q105, .int 0, .int 0]))]) [0] (by decide) rfl
  have hKc := hK.sub (tys' := []) [] rfl
  have hFc := va_free (wc := [(q86, .inr (15, [.ref q87, .ref q88, .ref q89, .ref q90, .ref q91, .ref q92, .int 0, .int 1, .ref q93, .int 0, .ref q94, .null, .ref q95, .null, .ref q96, .ref q97, .ref q98, .ref q99, .ref q100, .int 0, .ref q101, .ref q102, .ref q103, .ref q104, .ref q105, .int 0, .int 0]))]) hD hS hA [0] rfl
  refine va_calli (va_runV (As := [.int (xs 1), .int (xs 2)]) (rest := []) ⟨hx, hb, hml, hown, hts⟩ (c_X13_top l dC dI q86 q87 q88 q89 q90 q91 q92 q93 q94 q95 q96 q97 q98 q99 q100 q101 q102 q103 q104 q105 H.size (xs 1) (xs 2) ) (cwV 2 hts gL_law_X13_top rfl rfl rfl (by decide +kernel) ⟨Nat.le_of_ble_eq_true rfl, Nat.le_of_ble_eq_true rfl⟩) ⟨zB_blind, va_recv hK hP (ci := 15) (q0 := 0) rfl rfl, (zPre hPc hDc hKc hS hFc hZ hN)⟩ rfl rfl hl.1 rfl (lv_room (Nat.le_of_ble_eq_true rfl)) dL_law_1661 ⟨Nat.le_of_ble_eq_true rfl, Nat.le_of_ble_eq_true rfl⟩) hS (fun q _ h => hFc q h) hFc (fun r u t H1 locs ht hvm hw hB hz1 hk1 hS => ?_)
  subst hw
  obtain ⟨hP1, hK1, hD1⟩ := hB
  rw [ht] at hP1
  have hK1 := va_K.moved hvm.symm hK1
  obtain ⟨hP, hD⟩ := va_join (wr := []) (w1 := [(q86, .inr (15, [.ref q87, .ref q88, .ref q89, .ref q90, .ref q91, .ref q92, .int 0, .int 1, .ref q93, .int 0, .ref q94, .null, .ref q95, .null, .ref q96, .ref q97, .ref q98, .ref q99, .ref q100, .int 1, .ref q101, .ref q102, .ref q103, .ref q104, .ref q105, .int 0, .int 0]))]) hP hD [0] [] rfl rfl (by decide) (by decide) hk1 hFc hP1 hD1
  have hK := (hK.sub (tys' := []) [] rfl).app hK1
  generalize H1 = H at hP hS ⊢
  have hP : va_P (dC, dI) vwCl [(q86, .inr (15, [.ref q87, .ref q88, .ref q89, .ref q90, .ref q91, .ref q92, .int 0, .int 1, .ref q93, .int 0, .ref q94, .null, .ref q95, .null, .ref q96, .ref q97, .ref q98, .ref q99, .ref q100, .int 1, .ref q101, .ref q102, .ref q103, .ref q104, .ref q105, .int 0, .int 0]))] H := hP
  have hD : va_D (fun q : Nat => s.heap.size ≤ q) [(q86, .inr (15, [.ref q87, .ref q88, .ref q89, .ref q90, .ref q91, .ref q92, .int 0, .int 1, .ref q93, .int 0, .ref q94, .null, .ref q95, .null, .ref q96, .ref q97, .ref q98, .ref q99, .ref q100, .int 1, .ref q101, .ref q102, .ref q103, .ref q104, .ref q105, .int 0, .int 0]))] := hD
  have hK : va_K (dC, dI) vwCl [] s := hK
  refine W.widen (k := 132) (n := 6698) (Nat.le_of_ble_eq_true rfl) (Nat.le_of_ble_eq_true rfl) ?_
  refine lv_istore (lv' := [(6, .int 0), (5, .int 1), (4, .int 0), (3, .ref q106), (2, .ref q86), (1, .ref q0), (0, .ref b)]) hx hb dL_law_1664 hl (by decide) rfl (fun ls hl => ?_)
  refine lv_aload_n hx hb dL_law_1666 rfl (lv_at hl 4 rfl) ?_
  have hPc := hP.sub (ws' := [(q86, .inr (15, [.ref q87, .ref q88, .ref q89, .ref q90, .ref q91, .ref q92, .int 0, .int 1, .ref q93, .int 0, .ref q94, .null, .ref q95, .null, .ref q96, .ref q97, .ref q98, .ref q99, .ref q100, .int 1, .ref q101, .ref q102, .ref q103, .ref q104, .ref q105, .int 0, .int 0]))]) [0] rfl
  have hDc := hD.sub (ws' := [(q86, .inr (15, [.ref q87, .ref q88, .ref q89, .ref q90, .ref q91, .ref q92, .int 0, .int 1, .ref q93, .int 0, .ref q94, .null, .ref q95, .null, .ref q96, .ref q97, .ref q98, .ref q99, .ref q100, .int 1, .ref q101, .ref q102, .ref q103, .ref q104, .ref q105, .int 0, .int 0]))]) [0] (by decide) rfl
  have hKc := hK.sub (tys' := []) [] rfl
  have hFc := va_free (wc := [(q86, .inr (15, [.ref q87, .ref q88, .ref q89, .ref q90, .ref q91, .ref q92, .int 0, .int 1, .ref q93, .int 0, .ref q94, .null, .ref q95, .null, .ref q96, .ref q97, .ref q98, .ref q99, .ref q100, .int 1, .ref q101, .ref q102, .ref q103, .ref q104, .ref q105, .int 0, .int 0]))]) hD hS hA [0] rfl
  refine va_calli (va_runV (As := []) (rest := []) ⟨hx, hb, hml, hown, hts⟩ (c_X13_thrown l dC dI q86 q87 q88 q89 q90 q91 q92 q93 q94 q95 q96 q97 q98 q99 q100 q101 q102 q103 q104 q105 H.size  ) (cwV 0 hts gL_law_X13_thrown rfl rfl rfl (by decide +kernel) ⟨Nat.le_of_ble_eq_true rfl, Nat.le_of_ble_eq_true rfl⟩) ⟨zB_blind, va_recv hK hP (ci := 15) (q0 := 0) rfl rfl, (zPre hPc hDc hKc hS hFc hZ hN)⟩ rfl rfl hl.1 rfl (lv_room (Nat.le_of_ble_eq_true rfl)) dL_law_1667 ⟨Nat.le_of_ble_eq_true rfl, Nat.le_of_ble_eq_true rfl⟩) hS (fun q _ h => hFc q h) hFc (fun r u t H1 locs ht hvm hw hB hz1 hk1 hS => ?_)
  subst hw
  obtain ⟨hP1, hK1, hD1⟩ := hB
  rw [ht] at hP1
  have hK1 := va_K.moved hvm.symm hK1
  obtain ⟨hP, hD⟩ := va_join (wr := []) (w1 := []) hP hD [0] [] rfl rfl (by decide) (by decide) hk1 hFc hP1 hD1
  have hK := (hK.sub (tys' := []) [] rfl).app hK1
  generalize H1 = H at hP hS ⊢
  have hP : va_P (dC, dI) vwCl [] H := hP
  have hD : va_D (fun q : Nat => s.heap.size ≤ q) [] := hD
  have hK : va_K (dC, dI) vwCl [] s := hK
  refine W.widen (k := 132) (n := 6698) (Nat.le_of_ble_eq_true rfl) (Nat.le_of_ble_eq_true rfl) ?_
  refine lv_iload hx hb dL_law_1670 (lv_at hl 1 rfl) ?_
  refine lv_icmp_eq (tgt := 1677) hx hb dL_law_1672 (by decide) (fun _ => ?_) (fun h9 => absurd (show (1 : Int32) = (1 : Int32) by decide +kernel) h9)
  refine lv_iload hx hb dL_law_1677 (lv_at hl 1 rfl) ?_
  refine lv_if_ne (tgt := 1694) hx hb dL_law_1679 (by decide) (fun _ => ?_) (fun h9 => absurd h9 (show ¬ (1 : Int32) = (0 : Int32) by decide +kernel))
  refine lv_goto (tgt := 2311) hx hb dL_law_1694 (by decide) ?_
  exact law_exit C0 hS (Nat.le_of_ble_eq_true rfl) (Nat.le_of_ble_eq_true rfl) ls (lv_sub hl [2, 3, 4, 5, 6] rfl)
set_option maxHeartbeats 8000000 in
set_option maxRecDepth 100000 in
theorem law_case_31 {p : Program} {l : Launch} {e : Env} {s : State} {m : MethodId} {below : List Frame} {meth : Method} {c : Code} {b : Nat} {xs : Nat → Int32} (hfl : l.stackTraces = false) (C0 : lw_At p s m meth c b 4 xs) {dC : Nat → ClassId} {dI : Nat → Nat → Nat} {q0 q1 q3 q5 q7 q9 q11 q13 q15 q17 q21 q25 q26 q27 q2 q4 q6 q8 q10 q16 q18 q22 q23 q86 q87 q88 q89 q90 q91 q92 q93 q94 q95 q96 q97 q98 q99 q100 q101 q102 q103 q104 q105 q106 : Nat} {k2 k4 k87 k88 k89 k90 k91 k92 k93 k94 k96 k106 : ClassId} {H : Heap} {locs : List Loc} (hK : va_K (dC, dI) vwCl [(k2, .char), (k4, (.object "Seekwell$Text")), (k87, .boolean), (k88, .int), (k89, .int), (k90, .char), (k91, (.array .long)), (k92, (.array .long)), (k93, .int), (k94, .int), (k96, .boolean), (k106, .long)] s) (hP : va_P (dC, dI) vwCl [(q0, .inr (13, [.ref q1, .ref q3, .ref q5, .ref q7, .ref q9, .ref q11, .ref q13, .ref q15, .int 0, .ref q17, .ref q21, .ref q25, .ref q26, .ref q27])), (q1, .inr (7, [.ref q2, .int 0])), (q2, .inl (k2, 512, .inl (fun _ => 0))), (q3, .inr (11, [.ref q4, .int 0, .int 1])), (q4, .inl (k4, 24, .inr (.inr (.inr (.inr (fun _ => none)))))), (q5, .inr (11, [.ref q6, .int 0, .int 1])), (q7, .inr (10, [.ref q8, .int 0])), (q9, .inr (5, [.ref q10, .int 0, .int 0])), (q15, .inr (5, [.ref q16, .int 0, .int 0])), (q17, .inr (9, [.ref q18, .ref q18, .null])), (q21, .inr (9, [.ref q22, .ref q22, .null])), (q22, .inr (8, [.int 0, .int 0, .int 1, .int 0, .int 0, .int 0, .ref q23, .null, .null, .null, .null, .int 0, .int 0, .int 0, .int 0, .null, .null])), (q26, .inr (3, [.null, .null, .int 0, .int 0, .null])), (q86, .inr (15, [.ref q87, .ref q88, .ref q89, .ref q90, .ref q91, .ref q92, .int 0, .int 1, .ref q93, .int 0, .ref q94, .null, .ref q95, .null, .ref q96, .ref q97, .ref q98, .ref q99, .ref q100, .int 0, .ref q101, .ref q102, .ref q103, .ref q104, .ref q105, .int 0, .int 0])), (q87, .inl (k87, 24, .inl (fun _ => 0))), (q88, .inl (k88, 24, .inl (fun _ => 0))), (q89, .inl (k89, 24, .inl (fun _ => 0))), (q90, .inl (k90, 24, .inl (fun _ => 0))), (q91, .inl (k91, 24, .inr (.inr (.inr (.inr (fun _ => none)))))), (q92, .inl (k92, 24, .inr (.inr (.inr (.inr (fun _ => none)))))), (q93, .inl (k93, 4000, .inl (fun _ => 0))), (q94, .inl (k94, 0, .inl (fun _ => 0))), (q96, .inl (k96, 24, .inl (fun _ => 0))), (q106, .inl (k106, 1, .inr (.inl (fun _ => 0))))] H) (hD : va_D (fun q : Nat => s.heap.size ≤ q) [(q0, .inr (13, [.ref q1, .ref q3, .ref q5, .ref q7, .ref q9, .ref q11, .ref q13, .ref q15, .int 0, .ref q17, .ref q21, .ref q25, .ref q26, .ref q27])), (q1, .inr (7, [.ref q2, .int 0])), (q2, .inl (k2, 512, .inl (fun _ => 0))), (q3, .inr (11, [.ref q4, .int 0, .int 1])), (q4, .inl (k4, 24, .inr (.inr (.inr (.inr (fun _ => none)))))), (q5, .inr (11, [.ref q6, .int 0, .int 1])), (q7, .inr (10, [.ref q8, .int 0])), (q9, .inr (5, [.ref q10, .int 0, .int 0])), (q15, .inr (5, [.ref q16, .int 0, .int 0])), (q17, .inr (9, [.ref q18, .ref q18, .null])), (q21, .inr (9, [.ref q22, .ref q22, .null])), (q22, .inr (8, [.int 0, .int 0, .int 1, .int 0, .int 0, .int 0, .ref q23, .null, .null, .null, .null, .int 0, .int 0, .int 0, .int 0, .null, .null])), (q26, .inr (3, [.null, .null, .int 0, .int 0, .null])), (q86, .inr (15, [.ref q87, .ref q88, .ref q89, .ref q90, .ref q91, .ref q92, .int 0, .int 1, .ref q93, .int 0, .ref q94, .null, .ref q95, .null, .ref q96, .ref q97, .ref q98, .ref q99, .ref q100, .int 0, .ref q101, .ref q102, .ref q103, .ref q104, .ref q105, .int 0, .int 0])), (q87, .inl (k87, 24, .inl (fun _ => 0))), (q88, .inl (k88, 24, .inl (fun _ => 0))), (q89, .inl (k89, 24, .inl (fun _ => 0))), (q90, .inl (k90, 24, .inl (fun _ => 0))), (q91, .inl (k91, 24, .inr (.inr (.inr (.inr (fun _ => none)))))), (q92, .inl (k92, 24, .inr (.inr (.inr (.inr (fun _ => none)))))), (q93, .inl (k93, 4000, .inl (fun _ => 0))), (q94, .inl (k94, 0, .inl (fun _ => 0))), (q96, .inl (k96, 24, .inl (fun _ => 0))), (q106, .inl (k106, 1, .inr (.inl (fun _ => 0))))]) (hS : va_S (fun q : Nat => s.heap.size ≤ q) s.heap H locs) (hZ : zZ (fun q : Nat => s.heap.size ≤ q) s s.heap) (hN : zN s) (ls : Array Slot) (hl : lv_has ls 7 [(4, .int 0), (3, .ref q106), (2, .ref q86), (1, .ref q0), (0, .ref b)]) : W p l e room_1 s m #[Value.ref b] below meth c H locs 131 6692 (lw_Z below #[Value.ref b] s) (F0 m 1697 ls []) := by
  obtain ⟨hx, hb, hr, hml, hown, hts, hX, hbl, hlocks, hgv⟩ := id C0
  have hbA : ¬ (fun q : Nat => s.heap.size ≤ q) b := Nat.not_le.mpr hbl
  have hA : ∀ q : Nat, s.heap.size ≤ q → (fun q : Nat => s.heap.size ≤ q) q := fun _ h => h
  refine lv_aload_n hx hb dL_law_1697 rfl (lv_at hl 3 rfl) ?_
  refine lv_aload_n hx hb dL_law_1698 rfl (lv_at hl 4 rfl) ?_
  refine lv_iload hx hb dL_law_1699 (lv_at hl 0 rfl) ?_
  refine lv_iconst (v := 1) hx hb dL_law_1701 (by decide +kernel) ?_
  refine lv_iadd hx hb dL_law_1702 ?_
  refine zt_i (v := 1) (by decide +kernel) ?_
  refine va_sld hx hb hX hbl hbA hS (i := 1) (zin (by decide +kernel)) dL_law_1703 ?_
  refine zt_v (w := .int (xs 1)) rfl ?_
  refine lv_aload_n hx hb dL_law_1704 rfl (lv_at hl 1 rfl) ?_
  have hPc := hP.sub (ws' := [(q0, .inr (13, [.ref q1, .ref q3, .ref q5, .ref q7, .ref q9, .ref q11, .ref q13, .ref q15, .int 0, .ref q17, .ref q21, .ref q25, .ref q26, .ref q27])), (q17, .inr (9, [.ref q18, .ref q18, .null]))]) [0, 9] rfl
  have hDc := hD.sub (ws' := [(q0, .inr (13, [.ref q1, .ref q3, .ref q5, .ref q7, .ref q9, .ref q11, .ref q13, .ref q15, .int 0, .ref q17, .ref q21, .ref q25, .ref q26, .ref q27])), (q17, .inr (9, [.ref q18, .ref q18, .null]))]) [0, 9] (by decide) rfl
  have hKc := hK.sub (tys' := []) [] rfl
  have hFc := va_free (wc := [(q0, .inr (13, [.ref q1, .ref q3, .ref q5, .ref q7, .ref q9, .ref q11, .ref q13, .ref q15, .int 0, .ref q17, .ref q21, .ref q25, .ref q26, .ref q27])), (q17, .inr (9, [.ref q18, .ref q18, .null]))]) hD hS hA [0, 9] rfl
  refine va_calli (vx_runSW (As := [.ref q0, .int (xs 1), .ref q106]) (rest := []) ⟨hx, hb, hml, hown, hts⟩ (c_L_tellWorth l hfl dC dI q0 q106 q1 q3 q5 q7 q9 q11 q13 q15 q17 q21 q25 q26 q27 q18 H.size (xs 1) ) (vx_cwSW 3 hts gL_law_L_tellWorth rfl rfl rfl (by decide +kernel) ⟨Nat.le_of_ble_eq_true rfl, Nat.le_of_ble_eq_true rfl⟩) ⟨zB_blind, (zPre hPc hDc hKc hS hFc hZ hN)⟩ rfl rfl hl.1 rfl (lv_room (Nat.le_of_ble_eq_true rfl)) dL_law_1705 ⟨Nat.le_of_ble_eq_true rfl, Nat.le_of_ble_eq_true rfl⟩) hS (fun q _ h => hFc q h) hFc (fun r u t H1 locs ht hvm hw hB hz1 hk1 hS => ?_)
  subst hw
  obtain ⟨hP1, hK1, hD1⟩ := hB
  rw [ht] at hP1
  have hK1 := va_K.moved hvm.symm hK1
  obtain ⟨hP, hD⟩ := va_join (wr := [(q86, .inr (15, [.ref q87, .ref q88, .ref q89, .ref q90, .ref q91, .ref q92, .int 0, .int 1, .ref q93, .int 0, .ref q94, .null, .ref q95, .null, .ref q96, .ref q97, .ref q98, .ref q99, .ref q100, .int 0, .ref q101, .ref q102, .ref q103, .ref q104, .ref q105, .int 0, .int 0]))]) (w1 := []) hP hD [0, 9] [13] rfl rfl (by decide) (by decide) hk1 hFc hP1 hD1
  have hK := (hK.sub (tys' := []) [] rfl).app hK1
  generalize H1 = H at hP hS ⊢
  have hP : va_P (dC, dI) vwCl [(q86, .inr (15, [.ref q87, .ref q88, .ref q89, .ref q90, .ref q91, .ref q92, .int 0, .int 1, .ref q93, .int 0, .ref q94, .null, .ref q95, .null, .ref q96, .ref q97, .ref q98, .ref q99, .ref q100, .int 0, .ref q101, .ref q102, .ref q103, .ref q104, .ref q105, .int 0, .int 0]))] H := hP
  have hD : va_D (fun q : Nat => s.heap.size ≤ q) [(q86, .inr (15, [.ref q87, .ref q88, .ref q89, .ref q90, .ref q91, .ref q92, .int 0, .int 1, .ref q93, .int 0, .ref q94, .null, .ref q95, .null, .ref q96, .ref q97, .ref q98, .ref q99, .ref q100, .int 0, .ref q101, .ref q102, .ref q103, .ref q104, .ref q105, .int 0, .int 0]))] := hD
  have hK : va_K (dC, dI) vwCl [] s := hK
  refine W.widen (k := 132) (n := 6698) (Nat.le_of_ble_eq_true rfl) (Nat.le_of_ble_eq_true rfl) ?_
  refine lv_istore (lv' := [(5, .int 1), (4, .int 0), (3, .ref q106), (2, .ref q86), (1, .ref q0), (0, .ref b)]) hx hb dL_law_1708 hl (by decide) rfl (fun ls hl => ?_)
  refine lv_aload_n hx hb dL_law_1710 rfl (lv_at hl 3 rfl) ?_
  refine lv_aload_n hx hb dL_law_1711 rfl (lv_at hl 5 rfl) ?_
  refine lv_iload hx hb dL_law_1712 (lv_at hl 1 rfl) ?_
  refine lv_iconst (v := 1) hx hb dL_law_1714 (by decide +kernel) ?_
  refine lv_iadd hx hb dL_law_1715 ?_
  refine zt_i (v := 1) (by decide +kernel) ?_
  refine va_sld hx hb hX hbl hbA hS (i := 1) (zin (by decide +kernel)) dL_law_1716 ?_
  refine zt_v (w := .int (xs 1)) rfl ?_
  have hPc := hP.sub (ws' := [(q86, .inr (15, [.ref q87, .ref q88, .ref q89, .ref q90, .ref q91, .ref q92, .int 0, .int 1, .ref q93, .int 0, .ref q94, .null, .ref q95, .null, .ref q96, .ref q97, .ref q98, .ref q99, .ref q100, .int 0, .ref q101, .ref q102, .ref q103, .ref q104, .ref q105, .int 0, .int 0]))]) [0] rfl
  have hDc := hD.sub (ws' := [(q86, .inr (15, [.ref q87, .ref q88, .ref q89, .ref q90, .ref q91, .ref q92, .int 0, .int 1, .ref q93, .int 0, .ref q94, .null, .ref q95, .null, .ref q96, .ref q97, .ref q98, .ref q99, .ref q100, .int 0, .ref q101, .ref q102, .ref q103, .ref q104, .ref q105, .int 0, .int 0]))]) [0] (by decide) rfl
  have hKc := hK.sub (tys' := []) [] rfl
  have hFc := va_free (wc := [(q86, .inr (15, [.ref q87, .ref q88, .ref q89, .ref q90, .ref q91, .ref q92, .int 0, .int 1, .ref q93, .int 0, .ref q94, .null, .ref q95, .null, .ref q96, .ref q97, .ref q98, .ref q99, .ref q100, .int 0, .ref q101, .ref q102, .ref q103, .ref q104, .ref q105, .int 0, .int 0]))]) hD hS hA [0] rfl
  refine va_calli (va_runV (As := [.int (xs 1)]) (rest := []) ⟨hx, hb, hml, hown, hts⟩ (c_X13_tellWorth l dC dI q86 q87 q88 q89 q90 q91 q92 q93 q94 q95 q96 q97 q98 q99 q100 q101 q102 q103 q104 q105 H.size (xs 1) ) (cwV 1 hts gL_law_X13_tellWorth rfl rfl rfl (by decide +kernel) ⟨Nat.le_of_ble_eq_true rfl, Nat.le_of_ble_eq_true rfl⟩) ⟨zB_blind, va_recv hK hP (ci := 15) (q0 := 0) rfl rfl, (zPre hPc hDc hKc hS hFc hZ hN)⟩ rfl rfl hl.1 rfl (lv_room (Nat.le_of_ble_eq_true rfl)) dL_law_1717 ⟨Nat.le_of_ble_eq_true rfl, Nat.le_of_ble_eq_true rfl⟩) hS (fun q _ h => hFc q h) hFc (fun r u t H1 locs ht hvm hw hB hz1 hk1 hS => ?_)
  subst hw
  obtain ⟨hP1, hK1, hD1⟩ := hB
  rw [ht] at hP1
  have hK1 := va_K.moved hvm.symm hK1
  obtain ⟨hP, hD⟩ := va_join (wr := []) (w1 := [(q86, .inr (15, [.ref q87, .ref q88, .ref q89, .ref q90, .ref q91, .ref q92, .int 0, .int 1, .ref q93, .int 0, .ref q94, .null, .ref q95, .null, .ref q96, .ref q97, .ref q98, .ref q99, .ref q100, .int 1, .ref q101, .ref q102, .ref q103, .ref q104, .ref q105, .int 0, .int 0]))]) hP hD [0] [] rfl rfl (by decide) (by decide) hk1 hFc hP1 hD1
  have hK := (hK.sub (tys' := []) [] rfl).app hK1
  generalize H1 = H at hP hS ⊢
  have hP : va_P (dC, dI) vwCl [(q86, .inr (15, [.ref q87, .ref q88, .ref q89, .ref q90, .ref q91, .ref q92, .int 0, .int 1, .ref q93, .int 0, .ref q94, .null, .ref q95, .null, .ref q96, .ref q97, .ref q98, .ref q99, .ref q100, .int 1, .ref q101, .ref q102, .ref q103, .ref q104, .ref q105, .int 0, .int 0]))] H := hP
  have hD : va_D (fun q : Nat => s.heap.size ≤ q) [(q86, .inr (15, [.ref q87, .ref q88, .ref q89, .ref q90, .ref q91, .ref q92, .int 0, .int 1, .ref q93, .int 0, .ref q94, .null, .ref q95, .null, .ref q96, .ref q97, .ref q98, .ref q99, .ref q100, .int 1, .ref q101, .ref q102, .ref q103, .ref q104, .ref q105, .int 0, .int 0]))] := hD
  have hK : va_K (dC, dI) vwCl [] s := hK
  refine W.widen (k := 132) (n := 6698) (Nat.le_of_ble_eq_true rfl) (Nat.le_of_ble_eq_true rfl) ?_
  refine lv_istore (lv' := [(6, .int 0), (5, .int 1), (4, .int 0), (3, .ref q106), (2, .ref q86), (1, .ref q0), (0, .ref b)]) hx hb dL_law_1720 hl (by decide) rfl (fun ls hl => ?_)
  refine lv_aload_n hx hb dL_law_1722 rfl (lv_at hl 4 rfl) ?_
  have hPc := hP.sub (ws' := [(q86, .inr (15, [.ref q87, .ref q88, .ref q89, .ref q90, .ref q91, .ref q92, .int 0, .int 1, .ref q93, .int 0, .ref q94, .null, .ref q95, .null, .ref q96, .ref q97, .ref q98, .ref q99, .ref q100, .int 1, .ref q101, .ref q102, .ref q103, .ref q104, .ref q105, .int 0, .int 0]))]) [0] rfl
  have hDc := hD.sub (ws' := [(q86, .inr (15, [.ref q87, .ref q88, .ref q89, .ref q90, .ref q91, .ref q92, .int 0, .int 1, .ref q93, .int 0, .ref q94, .null, .ref q95, .null, .ref q96, .ref q97, .ref q98, .ref q99, .ref q100, .int 1, .ref q101, .ref q102, .ref q103, .ref q104, .ref q105, .int 0, .int 0]))]) [0] (by decide) rfl
  have hKc := hK.sub (tys' := []) [] rfl
  have hFc := va_free (wc := [(q86, .inr (15, [.ref q87, .ref q88, .ref q89, .ref q90, .ref q91, .ref q92, .int 0, .int 1, .ref q93, .int 0, .ref q94, .null, .ref q95, .null, .ref q96, .ref q97, .ref q98, .ref q99, .ref q100, .int 1, .ref q101, .ref q102, .ref q103, .ref q104, .ref q105, .int 0, .int 0]))]) hD hS hA [0] rfl
  refine va_calli (va_runV (As := []) (rest := []) ⟨hx, hb, hml, hown, hts⟩ (c_X13_thrown l dC dI q86 q87 q88 q89 q90 q91 q92 q93 q94 q95 q96 q97 q98 q99 q100 q101 q102 q103 q104 q105 H.size  ) (cwV 0 hts gL_law_X13_thrown rfl rfl rfl (by decide +kernel) ⟨Nat.le_of_ble_eq_true rfl, Nat.le_of_ble_eq_true rfl⟩) ⟨zB_blind, va_recv hK hP (ci := 15) (q0 := 0) rfl rfl, (zPre hPc hDc hKc hS hFc hZ hN)⟩ rfl rfl hl.1 rfl (lv_room (Nat.le_of_ble_eq_true rfl)) dL_law_1723 ⟨Nat.le_of_ble_eq_true rfl, Nat.le_of_ble_eq_true rfl⟩) hS (fun q _ h => hFc q h) hFc (fun r u t H1 locs ht hvm hw hB hz1 hk1 hS => ?_)
  subst hw
  obtain ⟨hP1, hK1, hD1⟩ := hB
  rw [ht] at hP1
  have hK1 := va_K.moved hvm.symm hK1
  obtain ⟨hP, hD⟩ := va_join (wr := []) (w1 := []) hP hD [0] [] rfl rfl (by decide) (by decide) hk1 hFc hP1 hD1
  have hK := (hK.sub (tys' := []) [] rfl).app hK1
  generalize H1 = H at hP hS ⊢
  have hP : va_P (dC, dI) vwCl [] H := hP
  have hD : va_D (fun q : Nat => s.heap.size ≤ q) [] := hD
  have hK : va_K (dC, dI) vwCl [] s := hK
  refine W.widen (k := 132) (n := 6698) (Nat.le_of_ble_eq_true rfl) (Nat.le_of_ble_eq_true rfl) ?_
  refine lv_iload hx hb dL_law_1726 (lv_at hl 1 rfl) ?_
  refine lv_icmp_eq (tgt := 1733) hx hb dL_law_1728 (by decide) (fun _ => ?_) (fun h9 => absurd (show (1 : Int32) = (1 : Int32) by decide +kernel) h9)
  refine lv_iload hx hb dL_law_1733 (lv_at hl 1 rfl) ?_
  refine lv_if_ne (tgt := 1750) hx hb dL_law_1735 (by decide) (fun _ => ?_) (fun h9 => absurd h9 (show ¬ (1 : Int32) = (0 : Int32) by decide +kernel))
  refine lv_goto (tgt := 2311) hx hb dL_law_1750 (by decide) ?_
  exact law_exit C0 hS (Nat.le_of_ble_eq_true rfl) (Nat.le_of_ble_eq_true rfl) ls (lv_sub hl [2, 3, 4, 5, 6] rfl)
set_option maxHeartbeats 8000000 in
set_option maxRecDepth 100000 in
theorem law_case_32 {p : Program} {l : Launch} {e : Env} {s : State} {m : MethodId} {below : List Frame} {meth : Method} {c : Code} {b : Nat} {xs : Nat → Int32} (hfl : l.stackTraces = false) (C0 : lw_At p s m meth c b 4 xs) {dC : Nat → ClassId} {dI : Nat → Nat → Nat} {q0 q1 q3 q5 q7 q9 q11 q13 q15 q17 q21 q25 q26 q27 q2 q4 q6 q8 q10 q16 q18 q22 q23 q86 q87 q88 q89 q90 q91 q92 q93 q94 q95 q96 q97 q98 q99 q100 q101 q102 q103 q104 q105 q106 : Nat} {k2 k4 k87 k88 k89 k90 k91 k92 k93 k94 k96 k106 : ClassId} {H : Heap} {locs : List Loc} (hK : va_K (dC, dI) vwCl [(k2, .char), (k4, (.object "Seekwell$Text")), (k87, .boolean), (k88, .int), (k89, .int), (k90, .char), (k91, (.array .long)), (k92, (.array .long)), (k93, .int), (k94, .int), (k96, .boolean), (k106, .long)] s) (hP : va_P (dC, dI) vwCl [(q0, .inr (13, [.ref q1, .ref q3, .ref q5, .ref q7, .ref q9, .ref q11, .ref q13, .ref q15, .int 0, .ref q17, .ref q21, .ref q25, .ref q26, .ref q27])), (q1, .inr (7, [.ref q2, .int 0])), (q2, .inl (k2, 512, .inl (fun _ => 0))), (q3, .inr (11, [.ref q4, .int 0, .int 1])), (q4, .inl (k4, 24, .inr (.inr (.inr (.inr (fun _ => none)))))), (q5, .inr (11, [.ref q6, .int 0, .int 1])), (q7, .inr (10, [.ref q8, .int 0])), (q9, .inr (5, [.ref q10, .int 0, .int 0])), (q15, .inr (5, [.ref q16, .int 0, .int 0])), (q17, .inr (9, [.ref q18, .ref q18, .null])), (q21, .inr (9, [.ref q22, .ref q22, .null])), (q22, .inr (8, [.int 0, .int 0, .int 1, .int 0, .int 0, .int 0, .ref q23, .null, .null, .null, .null, .int 0, .int 0, .int 0, .int 0, .null, .null])), (q26, .inr (3, [.null, .null, .int 0, .int 0, .null])), (q86, .inr (15, [.ref q87, .ref q88, .ref q89, .ref q90, .ref q91, .ref q92, .int 0, .int 1, .ref q93, .int 0, .ref q94, .null, .ref q95, .null, .ref q96, .ref q97, .ref q98, .ref q99, .ref q100, .int 0, .ref q101, .ref q102, .ref q103, .ref q104, .ref q105, .int 0, .int 0])), (q87, .inl (k87, 24, .inl (fun _ => 0))), (q88, .inl (k88, 24, .inl (fun _ => 0))), (q89, .inl (k89, 24, .inl (fun _ => 0))), (q90, .inl (k90, 24, .inl (fun _ => 0))), (q91, .inl (k91, 24, .inr (.inr (.inr (.inr (fun _ => none)))))), (q92, .inl (k92, 24, .inr (.inr (.inr (.inr (fun _ => none)))))), (q93, .inl (k93, 4000, .inl (fun _ => 0))), (q94, .inl (k94, 0, .inl (fun _ => 0))), (q96, .inl (k96, 24, .inl (fun _ => 0))), (q106, .inl (k106, 1, .inr (.inl (fun _ => 0))))] H) (hD : va_D (fun q : Nat => s.heap.size ≤ q) [(q0, .inr (13, [.ref q1, .ref q3, .ref q5, .ref q7, .ref q9, .ref q11, .ref q13, .ref q15, .int 0, .ref q17, .ref q21, .ref q25, .ref q26, .ref q27])), (q1, .inr (7, [.ref q2, .int 0])), (q2, .inl (k2, 512, .inl (fun _ => 0))), (q3, .inr (11, [.ref q4, .int 0, .int 1])), (q4, .inl (k4, 24, .inr (.inr (.inr (.inr (fun _ => none)))))), (q5, .inr (11, [.ref q6, .int 0, .int 1])), (q7, .inr (10, [.ref q8, .int 0])), (q9, .inr (5, [.ref q10, .int 0, .int 0])), (q15, .inr (5, [.ref q16, .int 0, .int 0])), (q17, .inr (9, [.ref q18, .ref q18, .null])), (q21, .inr (9, [.ref q22, .ref q22, .null])), (q22, .inr (8, [.int 0, .int 0, .int 1, .int 0, .int 0, .int 0, .ref q23, .null, .null, .null, .null, .int 0, .int 0, .int 0, .int 0, .null, .null])), (q26, .inr (3, [.null, .null, .int 0, .int 0, .null])), (q86, .inr (15, [.ref q87, .ref q88, .ref q89, .ref q90, .ref q91, .ref q92, .int 0, .int 1, .ref q93, .int 0, .ref q94, .null, .ref q95, .null, .ref q96, .ref q97, .ref q98, .ref q99, .ref q100, .int 0, .ref q101, .ref q102, .ref q103, .ref q104, .ref q105, .int 0, .int 0])), (q87, .inl (k87, 24, .inl (fun _ => 0))), (q88, .inl (k88, 24, .inl (fun _ => 0))), (q89, .inl (k89, 24, .inl (fun _ => 0))), (q90, .inl (k90, 24, .inl (fun _ => 0))), (q91, .inl (k91, 24, .inr (.inr (.inr (.inr (fun _ => none)))))), (q92, .inl (k92, 24, .inr (.inr (.inr (.inr (fun _ => none)))))), (q93, .inl (k93, 4000, .inl (fun _ => 0))), (q94, .inl (k94, 0, .inl (fun _ => 0))), (q96, .inl (k96, 24, .inl (fun _ => 0))), (q106, .inl (k106, 1, .inr (.inl (fun _ => 0))))]) (hS : va_S (fun q : Nat => s.heap.size ≤ q) s.heap H locs) (hZ : zZ (fun q : Nat => s.heap.size ≤ q) s s.heap) (hN : zN s) (ls : Array Slot) (hl : lv_has ls 7 [(4, .int 0), (3, .ref q106), (2, .ref q86), (1, .ref q0), (0, .ref b)]) : W p l e room_1 s m #[Value.ref b] below meth c H locs 131 6692 (lw_Z below #[Value.ref b] s) (F0 m 1753 ls []) := by
  obtain ⟨hx, hb, hr, hml, hown, hts, hX, hbl, hlocks, hgv⟩ := id C0
  have hbA : ¬ (fun q : Nat => s.heap.size ≤ q) b := Nat.not_le.mpr hbl
  have hA : ∀ q : Nat, s.heap.size ≤ q → (fun q : Nat => s.heap.size ≤ q) q := fun _ h => h
  refine lv_aload_n hx hb dL_law_1753 rfl (lv_at hl 3 rfl) ?_
  refine lv_aload_n hx hb dL_law_1754 rfl (lv_at hl 4 rfl) ?_
  refine lv_iload hx hb dL_law_1755 (lv_at hl 0 rfl) ?_
  refine lv_iconst (v := 1) hx hb dL_law_1757 (by decide +kernel) ?_
  refine lv_iadd hx hb dL_law_1758 ?_
  refine zt_i (v := 1) (by decide +kernel) ?_
  refine va_sld hx hb hX hbl hbA hS (i := 1) (zin (by decide +kernel)) dL_law_1759 ?_
  refine zt_v (w := .int (xs 1)) rfl ?_
  refine lv_i2c (v := (zc (xs 1))) hx hb dL_law_1760 rfl ?_
  refine lv_aload_n hx hb dL_law_1761 rfl (lv_at hl 1 rfl) ?_
  have hPc := hP.sub (ws' := [(q0, .inr (13, [.ref q1, .ref q3, .ref q5, .ref q7, .ref q9, .ref q11, .ref q13, .ref q15, .int 0, .ref q17, .ref q21, .ref q25, .ref q26, .ref q27])), (q17, .inr (9, [.ref q18, .ref q18, .null]))]) [0, 9] rfl
  have hDc := hD.sub (ws' := [(q0, .inr (13, [.ref q1, .ref q3, .ref q5, .ref q7, .ref q9, .ref q11, .ref q13, .ref q15, .int 0, .ref q17, .ref q21, .ref q25, .ref q26, .ref q27])), (q17, .inr (9, [.ref q18, .ref q18, .null]))]) [0, 9] (by decide) rfl
  have hKc := hK.sub (tys' := []) [] rfl
  have hFc := va_free (wc := [(q0, .inr (13, [.ref q1, .ref q3, .ref q5, .ref q7, .ref q9, .ref q11, .ref q13, .ref q15, .int 0, .ref q17, .ref q21, .ref q25, .ref q26, .ref q27])), (q17, .inr (9, [.ref q18, .ref q18, .null]))]) hD hS hA [0, 9] rfl
  refine va_calli (vx_runSW (As := [.ref q0, .int (zc (xs 1)), .ref q106]) (rest := []) ⟨hx, hb, hml, hown, hts⟩ (c_L_tagged l hfl dC dI q0 q106 q1 q3 q5 q7 q9 q11 q13 q15 q17 q21 q25 q26 q27 q18 H.size (zc (xs 1)) ) (vx_cwSW 3 hts gL_law_L_tagged rfl rfl rfl (by decide +kernel) ⟨Nat.le_of_ble_eq_true rfl, Nat.le_of_ble_eq_true rfl⟩) ⟨zB_blind, (zPre hPc hDc hKc hS hFc hZ hN)⟩ rfl rfl hl.1 rfl (lv_room (Nat.le_of_ble_eq_true rfl)) dL_law_1762 ⟨Nat.le_of_ble_eq_true rfl, Nat.le_of_ble_eq_true rfl⟩) hS (fun q _ h => hFc q h) hFc (fun r u t H1 locs ht hvm hw hB hz1 hk1 hS => ?_)
  subst hw
  obtain ⟨hP1, hK1, hD1⟩ := hB
  rw [ht] at hP1
  have hK1 := va_K.moved hvm.symm hK1
  obtain ⟨hP, hD⟩ := va_join (wr := [(q86, .inr (15, [.ref q87, .ref q88, .ref q89, .ref q90, .ref q91, .ref q92, .int 0, .int 1, .ref q93, .int 0, .ref q94, .null, .ref q95, .null, .ref q96, .ref q97, .ref q98, .ref q99, .ref q100, .int 0, .ref q101, .ref q102, .ref q103, .ref q104, .ref q105, .int 0, .int 0]))]) (w1 := []) hP hD [0, 9] [13] rfl rfl (by decide) (by decide) hk1 hFc hP1 hD1
  have hK := (hK.sub (tys' := []) [] rfl).app hK1
  generalize H1 = H at hP hS ⊢
  have hP : va_P (dC, dI) vwCl [(q86, .inr (15, [.ref q87, .ref q88, .ref q89, .ref q90, .ref q91, .ref q92, .int 0, .int 1, .ref q93, .int 0, .ref q94, .null, .ref q95, .null, .ref q96, .ref q97, .ref q98, .ref q99, .ref q100, .int 0, .ref q101, .ref q102, .ref q103, .ref q104, .ref q105, .int 0, .int 0]))] H := hP
  have hD : va_D (fun q : Nat => s.heap.size ≤ q) [(q86, .inr (15, [.ref q87, .ref q88, .ref q89, .ref q90, .ref q91, .ref q92, .int 0, .int 1, .ref q93, .int 0, .ref q94, .null, .ref q95, .null, .ref q96, .ref q97, .ref q98, .ref q99, .ref q100, .int 0, .ref q101, .ref q102, .ref q103, .ref q104, .ref q105, .int 0, .int 0]))] := hD
  have hK : va_K (dC, dI) vwCl [] s := hK
  refine W.widen (k := 132) (n := 6698) (Nat.le_of_ble_eq_true rfl) (Nat.le_of_ble_eq_true rfl) ?_
  refine lv_istore (lv' := [(5, .int 1), (4, .int 0), (3, .ref q106), (2, .ref q86), (1, .ref q0), (0, .ref b)]) hx hb dL_law_1765 hl (by decide) rfl (fun ls hl => ?_)
  refine lv_aload_n hx hb dL_law_1767 rfl (lv_at hl 3 rfl) ?_
  refine lv_aload_n hx hb dL_law_1768 rfl (lv_at hl 5 rfl) ?_
  refine lv_iload hx hb dL_law_1769 (lv_at hl 1 rfl) ?_
  refine lv_iconst (v := 1) hx hb dL_law_1771 (by decide +kernel) ?_
  refine lv_iadd hx hb dL_law_1772 ?_
  refine zt_i (v := 1) (by decide +kernel) ?_
  refine va_sld hx hb hX hbl hbA hS (i := 1) (zin (by decide +kernel)) dL_law_1773 ?_
  refine zt_v (w := .int (xs 1)) rfl ?_
  refine lv_i2c (v := (zc (xs 1))) hx hb dL_law_1774 rfl ?_
  have hPc := hP.sub (ws' := [(q86, .inr (15, [.ref q87, .ref q88, .ref q89, .ref q90, .ref q91, .ref q92, .int 0, .int 1, .ref q93, .int 0, .ref q94, .null, .ref q95, .null, .ref q96, .ref q97, .ref q98, .ref q99, .ref q100, .int 0, .ref q101, .ref q102, .ref q103, .ref q104, .ref q105, .int 0, .int 0]))]) [0] rfl
  have hDc := hD.sub (ws' := [(q86, .inr (15, [.ref q87, .ref q88, .ref q89, .ref q90, .ref q91, .ref q92, .int 0, .int 1, .ref q93, .int 0, .ref q94, .null, .ref q95, .null, .ref q96, .ref q97, .ref q98, .ref q99, .ref q100, .int 0, .ref q101, .ref q102, .ref q103, .ref q104, .ref q105, .int 0, .int 0]))]) [0] (by decide) rfl
  have hKc := hK.sub (tys' := []) [] rfl
  have hFc := va_free (wc := [(q86, .inr (15, [.ref q87, .ref q88, .ref q89, .ref q90, .ref q91, .ref q92, .int 0, .int 1, .ref q93, .int 0, .ref q94, .null, .ref q95, .null, .ref q96, .ref q97, .ref q98, .ref q99, .ref q100, .int 0, .ref q101, .ref q102, .ref q103, .ref q104, .ref q105, .int 0, .int 0]))]) hD hS hA [0] rfl
  refine va_calli (va_runV (As := [.int (zc (xs 1))]) (rest := []) ⟨hx, hb, hml, hown, hts⟩ (c_X13_tagged l dC dI q86 q87 q88 q89 q90 q91 q92 q93 q94 q95 q96 q97 q98 q99 q100 q101 q102 q103 q104 q105 H.size (zc (xs 1)) ) (cwV 1 hts gL_law_X13_tagged rfl rfl rfl (by decide +kernel) ⟨Nat.le_of_ble_eq_true rfl, Nat.le_of_ble_eq_true rfl⟩) ⟨zB_blind, va_recv hK hP (ci := 15) (q0 := 0) rfl rfl, (zPre hPc hDc hKc hS hFc hZ hN)⟩ rfl rfl hl.1 rfl (lv_room (Nat.le_of_ble_eq_true rfl)) dL_law_1775 ⟨Nat.le_of_ble_eq_true rfl, Nat.le_of_ble_eq_true rfl⟩) hS (fun q _ h => hFc q h) hFc (fun r u t H1 locs ht hvm hw hB hz1 hk1 hS => ?_)
  subst hw
  obtain ⟨hP1, hK1, hD1⟩ := hB
  rw [ht] at hP1
  have hK1 := va_K.moved hvm.symm hK1
  obtain ⟨hP, hD⟩ := va_join (wr := []) (w1 := [(q86, .inr (15, [.ref q87, .ref q88, .ref q89, .ref q90, .ref q91, .ref q92, .int 0, .int 1, .ref q93, .int 0, .ref q94, .null, .ref q95, .null, .ref q96, .ref q97, .ref q98, .ref q99, .ref q100, .int 1, .ref q101, .ref q102, .ref q103, .ref q104, .ref q105, .int 0, .int 0]))]) hP hD [0] [] rfl rfl (by decide) (by decide) hk1 hFc hP1 hD1
  have hK := (hK.sub (tys' := []) [] rfl).app hK1
  generalize H1 = H at hP hS ⊢
  have hP : va_P (dC, dI) vwCl [(q86, .inr (15, [.ref q87, .ref q88, .ref q89, .ref q90, .ref q91, .ref q92, .int 0, .int 1, .ref q93, .int 0, .ref q94, .null, .ref q95, .null, .ref q96, .ref q97, .ref q98, .ref q99, .ref q100, .int 1, .ref q101, .ref q102, .ref q103, .ref q104, .ref q105, .int 0, .int 0]))] H := hP
  have hD : va_D (fun q : Nat => s.heap.size ≤ q) [(q86, .inr (15, [.ref q87, .ref q88, .ref q89, .ref q90, .ref q91, .ref q92, .int 0, .int 1, .ref q93, .int 0, .ref q94, .null, .ref q95, .null, .ref q96, .ref q97, .ref q98, .ref q99, .ref q100, .int 1, .ref q101, .ref q102, .ref q103, .ref q104, .ref q105, .int 0, .int 0]))] := hD
  have hK : va_K (dC, dI) vwCl [] s := hK
  refine W.widen (k := 132) (n := 6698) (Nat.le_of_ble_eq_true rfl) (Nat.le_of_ble_eq_true rfl) ?_
  refine lv_istore (lv' := [(6, .int 0), (5, .int 1), (4, .int 0), (3, .ref q106), (2, .ref q86), (1, .ref q0), (0, .ref b)]) hx hb dL_law_1778 hl (by decide) rfl (fun ls hl => ?_)
  refine lv_aload_n hx hb dL_law_1780 rfl (lv_at hl 4 rfl) ?_
  have hPc := hP.sub (ws' := [(q86, .inr (15, [.ref q87, .ref q88, .ref q89, .ref q90, .ref q91, .ref q92, .int 0, .int 1, .ref q93, .int 0, .ref q94, .null, .ref q95, .null, .ref q96, .ref q97, .ref q98, .ref q99, .ref q100, .int 1, .ref q101, .ref q102, .ref q103, .ref q104, .ref q105, .int 0, .int 0]))]) [0] rfl
  have hDc := hD.sub (ws' := [(q86, .inr (15, [.ref q87, .ref q88, .ref q89, .ref q90, .ref q91, .ref q92, .int 0, .int 1, .ref q93, .int 0, .ref q94, .null, .ref q95, .null, .ref q96, .ref q97, .ref q98, .ref q99, .ref q100, .int 1, .ref q101, .ref q102, .ref q103, .ref q104, .ref q105, .int 0, .int 0]))]) [0] (by decide) rfl
  have hKc := hK.sub (tys' := []) [] rfl
  have hFc := va_free (wc := [(q86, .inr (15, [.ref q87, .ref q88, .ref q89, .ref q90, .ref q91, .ref q92, .int 0, .int 1, .ref q93, .int 0, .ref q94, .null, .ref q95, .null, .ref q96, .ref q97, .ref q98, .ref q99, .ref q100, .int 1, .ref q101, .ref q102, .ref q103, .ref q104, .ref q105, .int 0, .int 0]))]) hD hS hA [0] rfl
  refine va_calli (va_runV (As := []) (rest := []) ⟨hx, hb, hml, hown, hts⟩ (c_X13_thrown l dC dI q86 q87 q88 q89 q90 q91 q92 q93 q94 q95 q96 q97 q98 q99 q100 q101 q102 q103 q104 q105 H.size  ) (cwV 0 hts gL_law_X13_thrown rfl rfl rfl (by decide +kernel) ⟨Nat.le_of_ble_eq_true rfl, Nat.le_of_ble_eq_true rfl⟩) ⟨zB_blind, va_recv hK hP (ci := 15) (q0 := 0) rfl rfl, (zPre hPc hDc hKc hS hFc hZ hN)⟩ rfl rfl hl.1 rfl (lv_room (Nat.le_of_ble_eq_true rfl)) dL_law_1781 ⟨Nat.le_of_ble_eq_true rfl, Nat.le_of_ble_eq_true rfl⟩) hS (fun q _ h => hFc q h) hFc (fun r u t H1 locs ht hvm hw hB hz1 hk1 hS => ?_)
  subst hw
  obtain ⟨hP1, hK1, hD1⟩ := hB
  rw [ht] at hP1
  have hK1 := va_K.moved hvm.symm hK1
  obtain ⟨hP, hD⟩ := va_join (wr := []) (w1 := []) hP hD [0] [] rfl rfl (by decide) (by decide) hk1 hFc hP1 hD1
  have hK := (hK.sub (tys' := []) [] rfl).app hK1
  generalize H1 = H at hP hS ⊢
  have hP : va_P (dC, dI) vwCl [] H := hP
  have hD : va_D (fun q : Nat => s.heap.size ≤ q) [] := hD
  have hK : va_K (dC, dI) vwCl [] s := hK
  refine W.widen (k := 132) (n := 6698) (Nat.le_of_ble_eq_true rfl) (Nat.le_of_ble_eq_true rfl) ?_
  refine lv_iload hx hb dL_law_1784 (lv_at hl 1 rfl) ?_
  refine lv_icmp_eq (tgt := 1791) hx hb dL_law_1786 (by decide) (fun _ => ?_) (fun h9 => absurd (show (1 : Int32) = (1 : Int32) by decide +kernel) h9)
  refine lv_iload hx hb dL_law_1791 (lv_at hl 1 rfl) ?_
  refine lv_if_ne (tgt := 1808) hx hb dL_law_1793 (by decide) (fun _ => ?_) (fun h9 => absurd h9 (show ¬ (1 : Int32) = (0 : Int32) by decide +kernel))
  refine lv_goto (tgt := 2311) hx hb dL_law_1808 (by decide) ?_
  exact law_exit C0 hS (Nat.le_of_ble_eq_true rfl) (Nat.le_of_ble_eq_true rfl) ls (lv_sub hl [2, 3, 4, 5, 6] rfl)
set_option maxHeartbeats 8000000 in
set_option maxRecDepth 100000 in
theorem law_case_33 {p : Program} {l : Launch} {e : Env} {s : State} {m : MethodId} {below : List Frame} {meth : Method} {c : Code} {b : Nat} {xs : Nat → Int32} (hfl : l.stackTraces = false) (C0 : lw_At p s m meth c b 4 xs) {dC : Nat → ClassId} {dI : Nat → Nat → Nat} {q0 q1 q3 q5 q7 q9 q11 q13 q15 q17 q21 q25 q26 q27 q2 q4 q6 q8 q10 q16 q18 q22 q23 q86 q87 q88 q89 q90 q91 q92 q93 q94 q95 q96 q97 q98 q99 q100 q101 q102 q103 q104 q105 q106 : Nat} {k2 k4 k87 k88 k89 k90 k91 k92 k93 k94 k96 k106 : ClassId} {H : Heap} {locs : List Loc} (hK : va_K (dC, dI) vwCl [(k2, .char), (k4, (.object "Seekwell$Text")), (k87, .boolean), (k88, .int), (k89, .int), (k90, .char), (k91, (.array .long)), (k92, (.array .long)), (k93, .int), (k94, .int), (k96, .boolean), (k106, .long)] s) (hP : va_P (dC, dI) vwCl [(q0, .inr (13, [.ref q1, .ref q3, .ref q5, .ref q7, .ref q9, .ref q11, .ref q13, .ref q15, .int 0, .ref q17, .ref q21, .ref q25, .ref q26, .ref q27])), (q1, .inr (7, [.ref q2, .int 0])), (q2, .inl (k2, 512, .inl (fun _ => 0))), (q3, .inr (11, [.ref q4, .int 0, .int 1])), (q4, .inl (k4, 24, .inr (.inr (.inr (.inr (fun _ => none)))))), (q5, .inr (11, [.ref q6, .int 0, .int 1])), (q7, .inr (10, [.ref q8, .int 0])), (q9, .inr (5, [.ref q10, .int 0, .int 0])), (q15, .inr (5, [.ref q16, .int 0, .int 0])), (q17, .inr (9, [.ref q18, .ref q18, .null])), (q21, .inr (9, [.ref q22, .ref q22, .null])), (q22, .inr (8, [.int 0, .int 0, .int 1, .int 0, .int 0, .int 0, .ref q23, .null, .null, .null, .null, .int 0, .int 0, .int 0, .int 0, .null, .null])), (q26, .inr (3, [.null, .null, .int 0, .int 0, .null])), (q86, .inr (15, [.ref q87, .ref q88, .ref q89, .ref q90, .ref q91, .ref q92, .int 0, .int 1, .ref q93, .int 0, .ref q94, .null, .ref q95, .null, .ref q96, .ref q97, .ref q98, .ref q99, .ref q100, .int 0, .ref q101, .ref q102, .ref q103, .ref q104, .ref q105, .int 0, .int 0])), (q87, .inl (k87, 24, .inl (fun _ => 0))), (q88, .inl (k88, 24, .inl (fun _ => 0))), (q89, .inl (k89, 24, .inl (fun _ => 0))), (q90, .inl (k90, 24, .inl (fun _ => 0))), (q91, .inl (k91, 24, .inr (.inr (.inr (.inr (fun _ => none)))))), (q92, .inl (k92, 24, .inr (.inr (.inr (.inr (fun _ => none)))))), (q93, .inl (k93, 4000, .inl (fun _ => 0))), (q94, .inl (k94, 0, .inl (fun _ => 0))), (q96, .inl (k96, 24, .inl (fun _ => 0))), (q106, .inl (k106, 1, .inr (.inl (fun _ => 0))))] H) (hD : va_D (fun q : Nat => s.heap.size ≤ q) [(q0, .inr (13, [.ref q1, .ref q3, .ref q5, .ref q7, .ref q9, .ref q11, .ref q13, .ref q15, .int 0, .ref q17, .ref q21, .ref q25, .ref q26, .ref q27])), (q1, .inr (7, [.ref q2, .int 0])), (q2, .inl (k2, 512, .inl (fun _ => 0))), (q3, .inr (11, [.ref q4, .int 0, .int 1])), (q4, .inl (k4, 24, .inr (.inr (.inr (.inr (fun _ => none)))))), (q5, .inr (11, [.ref q6, .int 0, .int 1])), (q7, .inr (10, [.ref q8, .int 0])), (q9, .inr (5, [.ref q10, .int 0, .int 0])), (q15, .inr (5, [.ref q16, .int 0, .int 0])), (q17, .inr (9, [.ref q18, .ref q18, .null])), (q21, .inr (9, [.ref q22, .ref q22, .null])), (q22, .inr (8, [.int 0, .int 0, .int 1, .int 0, .int 0, .int 0, .ref q23, .null, .null, .null, .null, .int 0, .int 0, .int 0, .int 0, .null, .null])), (q26, .inr (3, [.null, .null, .int 0, .int 0, .null])), (q86, .inr (15, [.ref q87, .ref q88, .ref q89, .ref q90, .ref q91, .ref q92, .int 0, .int 1, .ref q93, .int 0, .ref q94, .null, .ref q95, .null, .ref q96, .ref q97, .ref q98, .ref q99, .ref q100, .int 0, .ref q101, .ref q102, .ref q103, .ref q104, .ref q105, .int 0, .int 0])), (q87, .inl (k87, 24, .inl (fun _ => 0))), (q88, .inl (k88, 24, .inl (fun _ => 0))), (q89, .inl (k89, 24, .inl (fun _ => 0))), (q90, .inl (k90, 24, .inl (fun _ => 0))), (q91, .inl (k91, 24, .inr (.inr (.inr (.inr (fun _ => none)))))), (q92, .inl (k92, 24, .inr (.inr (.inr (.inr (fun _ => none)))))), (q93, .inl (k93, 4000, .inl (fun _ => 0))), (q94, .inl (k94, 0, .inl (fun _ => 0))), (q96, .inl (k96, 24, .inl (fun _ => 0))), (q106, .inl (k106, 1, .inr (.inl (fun _ => 0))))]) (hS : va_S (fun q : Nat => s.heap.size ≤ q) s.heap H locs) (hZ : zZ (fun q : Nat => s.heap.size ≤ q) s s.heap) (hN : zN s) (ls : Array Slot) (hl : lv_has ls 7 [(4, .int 0), (3, .ref q106), (2, .ref q86), (1, .ref q0), (0, .ref b)]) : W p l e room_1 s m #[Value.ref b] below meth c H locs 131 6692 (lw_Z below #[Value.ref b] s) (F0 m 1811 ls []) := by
  obtain ⟨hx, hb, hr, hml, hown, hts, hX, hbl, hlocks, hgv⟩ := id C0
  have hbA : ¬ (fun q : Nat => s.heap.size ≤ q) b := Nat.not_le.mpr hbl
  have hA : ∀ q : Nat, s.heap.size ≤ q → (fun q : Nat => s.heap.size ≤ q) q := fun _ h => h
  refine lv_aload_n hx hb dL_law_1811 rfl (lv_at hl 3 rfl) ?_
  refine lv_aload_n hx hb dL_law_1812 rfl (lv_at hl 4 rfl) ?_
  refine lv_iload hx hb dL_law_1813 (lv_at hl 0 rfl) ?_
  refine lv_iconst (v := 1) hx hb dL_law_1815 (by decide +kernel) ?_
  refine lv_iadd hx hb dL_law_1816 ?_
  refine zt_i (v := 1) (by decide +kernel) ?_
  refine va_sld hx hb hX hbl hbA hS (i := 1) (zin (by decide +kernel)) dL_law_1817 ?_
  refine zt_v (w := .int (xs 1)) rfl ?_
  refine lv_aload_n hx hb dL_law_1818 rfl (lv_at hl 4 rfl) ?_
  refine lv_iload hx hb dL_law_1819 (lv_at hl 0 rfl) ?_
  refine lv_iconst (v := 2) hx hb dL_law_1821 (by decide +kernel) ?_
  refine lv_iadd hx hb dL_law_1822 ?_
  refine zt_i (v := 2) (by decide +kernel) ?_
  refine va_sld hx hb hX hbl hbA hS (i := 2) (zin (by decide +kernel)) dL_law_1823 ?_
  refine zt_v (w := .int (xs 2)) rfl ?_
  refine lv_aload_n hx hb dL_law_1824 rfl (lv_at hl 1 rfl) ?_
  have hPc := hP.sub (ws' := [(q0, .inr (13, [.ref q1, .ref q3, .ref q5, .ref q7, .ref q9, .ref q11, .ref q13, .ref q15, .int 0, .ref q17, .ref q21, .ref q25, .ref q26, .ref q27])), (q17, .inr (9, [.ref q18, .ref q18, .null]))]) [0, 9] rfl
  have hDc := hD.sub (ws' := [(q0, .inr (13, [.ref q1, .ref q3, .ref q5, .ref q7, .ref q9, .ref q11, .ref q13, .ref q15, .int 0, .ref q17, .ref q21, .ref q25, .ref q26, .ref q27])), (q17, .inr (9, [.ref q18, .ref q18, .null]))]) [0, 9] (by decide) rfl
  have hKc := hK.sub (tys' := []) [] rfl
  have hFc := va_free (wc := [(q0, .inr (13, [.ref q1, .ref q3, .ref q5, .ref q7, .ref q9, .ref q11, .ref q13, .ref q15, .int 0, .ref q17, .ref q21, .ref q25, .ref q26, .ref q27])), (q17, .inr (9, [.ref q18, .ref q18, .null]))]) hD hS hA [0, 9] rfl
  refine va_calli (vx_runSW (As := [.ref q0, .int (xs 1), .int (xs 2), .ref q106]) (rest := []) ⟨hx, hb, hml, hown, hts⟩ (c_L_valued l hfl dC dI q0 q106 q1 q3 q5 q7 q9 q11 q13 q15 q17 q21 q25 q26 q27 q18 H.size (xs 1) (xs 2) ) (vx_cwSW 4 hts gL_law_L_valued rfl rfl rfl (by decide +kernel) ⟨Nat.le_of_ble_eq_true rfl, Nat.le_of_ble_eq_true rfl⟩) ⟨zB_blind, (zPre hPc hDc hKc hS hFc hZ hN)⟩ rfl rfl hl.1 rfl (lv_room (Nat.le_of_ble_eq_true rfl)) dL_law_1825 ⟨Nat.le_of_ble_eq_true rfl, Nat.le_of_ble_eq_true rfl⟩) hS (fun q _ h => hFc q h) hFc (fun r u t H1 locs ht hvm hw hB hz1 hk1 hS => ?_)
  subst hw
  obtain ⟨hP1, hK1, hD1⟩ := hB
  rw [ht] at hP1
  have hK1 := va_K.moved hvm.symm hK1
  obtain ⟨hP, hD⟩ := va_join (wr := [(q86, .inr (15, [.ref q87, .ref q88, .ref q89, .ref q90, .ref q91, .ref q92, .int 0, .int 1, .ref q93, .int 0, .ref q94, .null, .ref q95, .null, .ref q96, .ref q97, .ref q98, .ref q99, .ref q100, .int 0, .ref q101, .ref q102, .ref q103, .ref q104, .ref q105, .int 0, .int 0]))]) (w1 := []) hP hD [0, 9] [13] rfl rfl (by decide) (by decide) hk1 hFc hP1 hD1
  have hK := (hK.sub (tys' := []) [] rfl).app hK1
  generalize H1 = H at hP hS ⊢
  have hP : va_P (dC, dI) vwCl [(q86, .inr (15, [.ref q87, .ref q88, .ref q89, .ref q90, .ref q91, .ref q92, .int 0, .int 1, .ref q93, .int 0, .ref q94, .null, .ref q95, .null, .ref q96, .ref q97, .ref q98, .ref q99, .ref q100, .int 0, .ref q101, .ref q102, .ref q103, .ref q104, .ref q105, .int 0, .int 0]))] H := hP
  have hD : va_D (fun q : Nat => s.heap.size ≤ q) [(q86, .inr (15, [.ref q87, .ref q88, .ref q89, .ref q90, .ref q91, .ref q92, .int 0, .int 1, .ref q93, .int 0, .ref q94, .null, .ref q95, .null, .ref q96, .ref q97, .ref q98, .ref q99, .ref q100, .int 0, .ref q101, .ref q102, .ref q103, .ref q104, .ref q105, .int 0, .int 0]))] := hD
  have hK : va_K (dC, dI) vwCl [] s := hK
  refine W.widen (k := 132) (n := 6698) (Nat.le_of_ble_eq_true rfl) (Nat.le_of_ble_eq_true rfl) ?_
  refine lv_istore (lv' := [(5, .int 1), (4, .int 0), (3, .ref q106), (2, .ref q86), (1, .ref q0), (0, .ref b)]) hx hb dL_law_1828 hl (by decide) rfl (fun ls hl => ?_)
  refine lv_aload_n hx hb dL_law_1830 rfl (lv_at hl 3 rfl) ?_
  refine lv_aload_n hx hb dL_law_1831 rfl (lv_at hl 5 rfl) ?_
  refine lv_iload hx hb dL_law_1832 (lv_at hl 1 rfl) ?_
  refine lv_iconst (v := 1) hx hb dL_law_1834 (by decide +kernel) ?_
  refine lv_iadd hx hb dL_law_1835 ?_
  refine zt_i (v := 1) (by decide +kernel) ?_
  refine va_sld hx hb hX hbl hbA hS (i := 1) (zin (by decide +kernel)) dL_law_1836 ?_
  refine zt_v (w := .int (xs 1)) rfl ?_
  refine lv_aload_n hx hb dL_law_1837 rfl (lv_at hl 5 rfl) ?_
  refine lv_iload hx hb dL_law_1838 (lv_at hl 1 rfl) ?_
  refine lv_iconst (v := 2) hx hb dL_law_1840 (by decide +kernel) ?_
  refine lv_iadd hx hb dL_law_1841 ?_
  refine zt_i (v := 2) (by decide +kernel) ?_
  refine va_sld hx hb hX hbl hbA hS (i := 2) (zin (by decide +kernel)) dL_law_1842 ?_
  refine zt_v (w := .int (xs 2)) rfl ?_
  have hPc := hP.sub (ws' := [(q86, .inr (15, [.ref q87, .ref q88, .ref q89, .ref q90, .ref q91, .ref q92, .int 0, .int 1, .ref q93, .int 0, .ref q94, .null, .ref q95, .null, .ref q96, .ref q97, .ref q98, .ref q99, .ref q100, .int 0, .ref q101, .ref q102, .ref q103, .ref q104, .ref q105, .int 0, .int 0]))]) [0] rfl
  have hDc := hD.sub (ws' := [(q86, .inr (15, [.ref q87, .ref q88, .ref q89, .ref q90, .ref q91, .ref q92, .int 0, .int 1, .ref q93, .int 0, .ref q94, .null, .ref q95, .null, .ref q96, .ref q97, .ref q98, .ref q99, .ref q100, .int 0, .ref q101, .ref q102, .ref q103, .ref q104, .ref q105, .int 0, .int 0]))]) [0] (by decide) rfl
  have hKc := hK.sub (tys' := []) [] rfl
  have hFc := va_free (wc := [(q86, .inr (15, [.ref q87, .ref q88, .ref q89, .ref q90, .ref q91, .ref q92, .int 0, .int 1, .ref q93, .int 0, .ref q94, .null, .ref q95, .null, .ref q96, .ref q97, .ref q98, .ref q99, .ref q100, .int 0, .ref q101, .ref q102, .ref q103, .ref q104, .ref q105, .int 0, .int 0]))]) hD hS hA [0] rfl
  refine va_calli (va_runV (As := [.int (xs 1), .int (xs 2)]) (rest := []) ⟨hx, hb, hml, hown, hts⟩ (c_X13_valued l dC dI q86 q87 q88 q89 q90 q91 q92 q93 q94 q95 q96 q97 q98 q99 q100 q101 q102 q103 q104 q105 H.size (xs 1) (xs 2) ) (cwV 2 hts gL_law_X13_valued rfl rfl rfl (by decide +kernel) ⟨Nat.le_of_ble_eq_true rfl, Nat.le_of_ble_eq_true rfl⟩) ⟨zB_blind, va_recv hK hP (ci := 15) (q0 := 0) rfl rfl, (zPre hPc hDc hKc hS hFc hZ hN)⟩ rfl rfl hl.1 rfl (lv_room (Nat.le_of_ble_eq_true rfl)) dL_law_1843 ⟨Nat.le_of_ble_eq_true rfl, Nat.le_of_ble_eq_true rfl⟩) hS (fun q _ h => hFc q h) hFc (fun r u t H1 locs ht hvm hw hB hz1 hk1 hS => ?_)
  subst hw
  obtain ⟨hP1, hK1, hD1⟩ := hB
  rw [ht] at hP1
  have hK1 := va_K.moved hvm.symm hK1
  obtain ⟨hP, hD⟩ := va_join (wr := []) (w1 := [(q86, .inr (15, [.ref q87, .ref q88, .ref q89, .ref q90, .ref q91, .ref q92, .int 0, .int 1, .ref q93, .int 0, .ref q94, .null, .ref q95, .null, .ref q96, .ref q97, .ref q98, .ref q99, .ref q100, .int 1, .ref q101, .ref q102, .ref q103, .ref q104, .ref q105, .int 0, .int 0]))]) hP hD [0] [] rfl rfl (by decide) (by decide) hk1 hFc hP1 hD1
  have hK := (hK.sub (tys' := []) [] rfl).app hK1
  generalize H1 = H at hP hS ⊢
  have hP : va_P (dC, dI) vwCl [(q86, .inr (15, [.ref q87, .ref q88, .ref q89, .ref q90, .ref q91, .ref q92, .int 0, .int 1, .ref q93, .int 0, .ref q94, .null, .ref q95, .null, .ref q96, .ref q97, .ref q98, .ref q99, .ref q100, .int 1, .ref q101, .ref q102, .ref q103, .ref q104, .ref q105, .int 0, .int 0]))] H := hP
  have hD : va_D (fun q : Nat => s.heap.size ≤ q) [(q86, .inr (15, [.ref q87, .ref q88, .ref q89, .ref q90, .ref q91, .ref q92, .int 0, .int 1, .ref q93, .int 0, .ref q94, .null, .ref q95, .null, .ref q96, .ref q97, .ref q98, .ref q99, .ref q100, .int 1, .ref q101, .ref q102, .ref q103, .ref q104, .ref q105, .int 0, .int 0]))] := hD
  have hK : va_K (dC, dI) vwCl [] s := hK
  refine W.widen (k := 132) (n := 6698) (Nat.le_of_ble_eq_true rfl) (Nat.le_of_ble_eq_true rfl) ?_
  refine lv_istore (lv' := [(6, .int 0), (5, .int 1), (4, .int 0), (3, .ref q106), (2, .ref q86), (1, .ref q0), (0, .ref b)]) hx hb dL_law_1846 hl (by decide) rfl (fun ls hl => ?_)
  refine lv_aload_n hx hb dL_law_1848 rfl (lv_at hl 4 rfl) ?_
  have hPc := hP.sub (ws' := [(q86, .inr (15, [.ref q87, .ref q88, .ref q89, .ref q90, .ref q91, .ref q92, .int 0, .int 1, .ref q93, .int 0, .ref q94, .null, .ref q95, .null, .ref q96, .ref q97, .ref q98, .ref q99, .ref q100, .int 1, .ref q101, .ref q102, .ref q103, .ref q104, .ref q105, .int 0, .int 0]))]) [0] rfl
  have hDc := hD.sub (ws' := [(q86, .inr (15, [.ref q87, .ref q88, .ref q89, .ref q90, .ref q91, .ref q92, .int 0, .int 1, .ref q93, .int 0, .ref q94, .null, .ref q95, .null, .ref q96, .ref q97, .ref q98, .ref q99, .ref q100, .int 1, .ref q101, .ref q102, .ref q103, .ref q104, .ref q105, .int 0, .int 0]))]) [0] (by decide) rfl
  have hKc := hK.sub (tys' := []) [] rfl
  have hFc := va_free (wc := [(q86, .inr (15, [.ref q87, .ref q88, .ref q89, .ref q90, .ref q91, .ref q92, .int 0, .int 1, .ref q93, .int 0, .ref q94, .null, .ref q95, .null, .ref q96, .ref q97, .ref q98, .ref q99, .ref q100, .int 1, .ref q101, .ref q102, .ref q103, .ref q104, .ref q105, .int 0, .int 0]))]) hD hS hA [0] rfl
  refine va_calli (va_runV (As := []) (rest := []) ⟨hx, hb, hml, hown, hts⟩ (c_X13_thrown l dC dI q86 q87 q88 q89 q90 q91 q92 q93 q94 q95 q96 q97 q98 q99 q100 q101 q102 q103 q104 q105 H.size  ) (cwV 0 hts gL_law_X13_thrown rfl rfl rfl (by decide +kernel) ⟨Nat.le_of_ble_eq_true rfl, Nat.le_of_ble_eq_true rfl⟩) ⟨zB_blind, va_recv hK hP (ci := 15) (q0 := 0) rfl rfl, (zPre hPc hDc hKc hS hFc hZ hN)⟩ rfl rfl hl.1 rfl (lv_room (Nat.le_of_ble_eq_true rfl)) dL_law_1849 ⟨Nat.le_of_ble_eq_true rfl, Nat.le_of_ble_eq_true rfl⟩) hS (fun q _ h => hFc q h) hFc (fun r u t H1 locs ht hvm hw hB hz1 hk1 hS => ?_)
  subst hw
  obtain ⟨hP1, hK1, hD1⟩ := hB
  rw [ht] at hP1
  have hK1 := va_K.moved hvm.symm hK1
  obtain ⟨hP, hD⟩ := va_join (wr := []) (w1 := []) hP hD [0] [] rfl rfl (by decide) (by decide) hk1 hFc hP1 hD1
  have hK := (hK.sub (tys' := []) [] rfl).app hK1
  generalize H1 = H at hP hS ⊢
  have hP : va_P (dC, dI) vwCl [] H := hP
  have hD : va_D (fun q : Nat => s.heap.size ≤ q) [] := hD
  have hK : va_K (dC, dI) vwCl [] s := hK
  refine W.widen (k := 132) (n := 6698) (Nat.le_of_ble_eq_true rfl) (Nat.le_of_ble_eq_true rfl) ?_
  refine lv_iload hx hb dL_law_1852 (lv_at hl 1 rfl) ?_
  refine lv_icmp_eq (tgt := 1859) hx hb dL_law_1854 (by decide) (fun _ => ?_) (fun h9 => absurd (show (1 : Int32) = (1 : Int32) by decide +kernel) h9)
  refine lv_iload hx hb dL_law_1859 (lv_at hl 1 rfl) ?_
  refine lv_if_ne (tgt := 1876) hx hb dL_law_1861 (by decide) (fun _ => ?_) (fun h9 => absurd h9 (show ¬ (1 : Int32) = (0 : Int32) by decide +kernel))
  refine lv_goto (tgt := 2311) hx hb dL_law_1876 (by decide) ?_
  exact law_exit C0 hS (Nat.le_of_ble_eq_true rfl) (Nat.le_of_ble_eq_true rfl) ls (lv_sub hl [2, 3, 4, 5, 6] rfl)
set_option maxHeartbeats 8000000 in
set_option maxRecDepth 100000 in
theorem law_case_34 {p : Program} {l : Launch} {e : Env} {s : State} {m : MethodId} {below : List Frame} {meth : Method} {c : Code} {b : Nat} {xs : Nat → Int32} (hfl : l.stackTraces = false) (C0 : lw_At p s m meth c b 4 xs) {dC : Nat → ClassId} {dI : Nat → Nat → Nat} {q0 q1 q3 q5 q7 q9 q11 q13 q15 q17 q21 q25 q26 q27 q2 q4 q6 q8 q10 q16 q18 q22 q23 q86 q87 q88 q89 q90 q91 q92 q93 q94 q95 q96 q97 q98 q99 q100 q101 q102 q103 q104 q105 q106 : Nat} {k2 k4 k87 k88 k89 k90 k91 k92 k93 k94 k96 k106 : ClassId} {H : Heap} {locs : List Loc} (hK : va_K (dC, dI) vwCl [(k2, .char), (k4, (.object "Seekwell$Text")), (k87, .boolean), (k88, .int), (k89, .int), (k90, .char), (k91, (.array .long)), (k92, (.array .long)), (k93, .int), (k94, .int), (k96, .boolean), (k106, .long)] s) (hP : va_P (dC, dI) vwCl [(q0, .inr (13, [.ref q1, .ref q3, .ref q5, .ref q7, .ref q9, .ref q11, .ref q13, .ref q15, .int 0, .ref q17, .ref q21, .ref q25, .ref q26, .ref q27])), (q1, .inr (7, [.ref q2, .int 0])), (q2, .inl (k2, 512, .inl (fun _ => 0))), (q3, .inr (11, [.ref q4, .int 0, .int 1])), (q4, .inl (k4, 24, .inr (.inr (.inr (.inr (fun _ => none)))))), (q5, .inr (11, [.ref q6, .int 0, .int 1])), (q7, .inr (10, [.ref q8, .int 0])), (q9, .inr (5, [.ref q10, .int 0, .int 0])), (q15, .inr (5, [.ref q16, .int 0, .int 0])), (q17, .inr (9, [.ref q18, .ref q18, .null])), (q21, .inr (9, [.ref q22, .ref q22, .null])), (q22, .inr (8, [.int 0, .int 0, .int 1, .int 0, .int 0, .int 0, .ref q23, .null, .null, .null, .null, .int 0, .int 0, .int 0, .int 0, .null, .null])), (q26, .inr (3, [.null, .null, .int 0, .int 0, .null])), (q86, .inr (15, [.ref q87, .ref q88, .ref q89, .ref q90, .ref q91, .ref q92, .int 0, .int 1, .ref q93, .int 0, .ref q94, .null, .ref q95, .null, .ref q96, .ref q97, .ref q98, .ref q99, .ref q100, .int 0, .ref q101, .ref q102, .ref q103, .ref q104, .ref q105, .int 0, .int 0])), (q87, .inl (k87, 24, .inl (fun _ => 0))), (q88, .inl (k88, 24, .inl (fun _ => 0))), (q89, .inl (k89, 24, .inl (fun _ => 0))), (q90, .inl (k90, 24, .inl (fun _ => 0))), (q91, .inl (k91, 24, .inr (.inr (.inr (.inr (fun _ => none)))))), (q92, .inl (k92, 24, .inr (.inr (.inr (.inr (fun _ => none)))))), (q93, .inl (k93, 4000, .inl (fun _ => 0))), (q94, .inl (k94, 0, .inl (fun _ => 0))), (q96, .inl (k96, 24, .inl (fun _ => 0))), (q106, .inl (k106, 1, .inr (.inl (fun _ => 0))))] H) (hD : va_D (fun q : Nat => s.heap.size ≤ q) [(q0, .inr (13, [.ref q1, .ref q3, .ref q5, .ref q7, .ref q9, .ref q11, .ref q13, .ref q15, .int 0, .ref q17, .ref q21, .ref q25, .ref q26, .ref q27])), (q1, .inr (7, [.ref q2, .int 0])), (q2, .inl (k2, 512, .inl (fun _ => 0))), (q3, .inr (11, [.ref q4, .int 0, .int 1])), (q4, .inl (k4, 24, .inr (.inr (.inr (.inr (fun _ => none)))))), (q5, .inr (11, [.ref q6, .int 0, .int 1])), (q7, .inr (10, [.ref q8, .int 0])), (q9, .inr (5, [.ref q10, .int 0, .int 0])), (q15, .inr (5, [.ref q16, .int 0, .int 0])), (q17, .inr (9, [.ref q18, .ref q18, .null])), (q21, .inr (9, [.ref q22, .ref q22, .null])), (q22, .inr (8, [.int 0, .int 0, .int 1, .int 0, .int 0, .int 0, .ref q23, .null, .null, .null, .null, .int 0, .int 0, .int 0, .int 0, .null, .null])), (q26, .inr (3, [.null, .null, .int 0, .int 0, .null])), (q86, .inr (15, [.ref q87, .ref q88, .ref q89, .ref q90, .ref q91, .ref q92, .int 0, .int 1, .ref q93, .int 0, .ref q94, .null, .ref q95, .null, .ref q96, .ref q97, .ref q98, .ref q99, .ref q100, .int 0, .ref q101, .ref q102, .ref q103, .ref q104, .ref q105, .int 0, .int 0])), (q87, .inl (k87, 24, .inl (fun _ => 0))), (q88, .inl (k88, 24, .inl (fun _ => 0))), (q89, .inl (k89, 24, .inl (fun _ => 0))), (q90, .inl (k90, 24, .inl (fun _ => 0))), (q91, .inl (k91, 24, .inr (.inr (.inr (.inr (fun _ => none)))))), (q92, .inl (k92, 24, .inr (.inr (.inr (.inr (fun _ => none)))))), (q93, .inl (k93, 4000, .inl (fun _ => 0))), (q94, .inl (k94, 0, .inl (fun _ => 0))), (q96, .inl (k96, 24, .inl (fun _ => 0))), (q106, .inl (k106, 1, .inr (.inl (fun _ => 0))))]) (hS : va_S (fun q : Nat => s.heap.size ≤ q) s.heap H locs) (hZ : zZ (fun q : Nat => s.heap.size ≤ q) s s.heap) (hN : zN s) (ls : Array Slot) (hl : lv_has ls 7 [(4, .int 0), (3, .ref q106), (2, .ref q86), (1, .ref q0), (0, .ref b)]) : W p l e room_1 s m #[Value.ref b] below meth c H locs 131 6692 (lw_Z below #[Value.ref b] s) (F0 m 1879 ls []) := by
  obtain ⟨hx, hb, hr, hml, hown, hts, hX, hbl, hlocks, hgv⟩ := id C0
  have hbA : ¬ (fun q : Nat => s.heap.size ≤ q) b := Nat.not_le.mpr hbl
  have hA : ∀ q : Nat, s.heap.size ≤ q → (fun q : Nat => s.heap.size ≤ q) q := fun _ h => h
  refine lv_aload_n hx hb dL_law_1879 rfl (lv_at hl 3 rfl) ?_
  refine lv_aload_n hx hb dL_law_1880 rfl (lv_at hl 4 rfl) ?_
  refine lv_iload hx hb dL_law_1881 (lv_at hl 0 rfl) ?_
  refine lv_iconst (v := 1) hx hb dL_law_1883 (by decide +kernel) ?_
  refine lv_iadd hx hb dL_law_1884 ?_
  refine zt_i (v := 1) (by decide +kernel) ?_
  refine va_sld hx hb hX hbl hbA hS (i := 1) (zin (by decide +kernel)) dL_law_1885 ?_
  refine zt_v (w := .int (xs 1)) rfl ?_
  refine lv_aload_n hx hb dL_law_1886 rfl (lv_at hl 1 rfl) ?_
  have hPc := hP.sub (ws' := [(q0, .inr (13, [.ref q1, .ref q3, .ref q5, .ref q7, .ref q9, .ref q11, .ref q13, .ref q15, .int 0, .ref q17, .ref q21, .ref q25, .ref q26, .ref q27])), (q17, .inr (9, [.ref q18, .ref q18, .null]))]) [0, 9] rfl
  have hDc := hD.sub (ws' := [(q0, .inr (13, [.ref q1, .ref q3, .ref q5, .ref q7, .ref q9, .ref q11, .ref q13, .ref q15, .int 0, .ref q17, .ref q21, .ref q25, .ref q26, .ref q27])), (q17, .inr (9, [.ref q18, .ref q18, .null]))]) [0, 9] (by decide) rfl
  have hKc := hK.sub (tys' := []) [] rfl
  have hFc := va_free (wc := [(q0, .inr (13, [.ref q1, .ref q3, .ref q5, .ref q7, .ref q9, .ref q11, .ref q13, .ref q15, .int 0, .ref q17, .ref q21, .ref q25, .ref q26, .ref q27])), (q17, .inr (9, [.ref q18, .ref q18, .null]))]) hD hS hA [0, 9] rfl
  refine va_calli (vx_runSW (As := [.ref q0, .int (xs 1), .ref q106]) (rest := []) ⟨hx, hb, hml, hown, hts⟩ (c_L_spanBegin l hfl dC dI q0 q106 q1 q3 q5 q7 q9 q11 q13 q15 q17 q21 q25 q26 q27 q18 H.size (xs 1) ) (vx_cwSW 3 hts gL_law_L_spanBegin rfl rfl rfl (by decide +kernel) ⟨Nat.le_of_ble_eq_true rfl, Nat.le_of_ble_eq_true rfl⟩) ⟨zB_blind, (zPre hPc hDc hKc hS hFc hZ hN)⟩ rfl rfl hl.1 rfl (lv_room (Nat.le_of_ble_eq_true rfl)) dL_law_1887 ⟨Nat.le_of_ble_eq_true rfl, Nat.le_of_ble_eq_true rfl⟩) hS (fun q _ h => hFc q h) hFc (fun r u t H1 locs ht hvm hw hB hz1 hk1 hS => ?_)
  subst hw
  obtain ⟨hP1, hK1, hD1⟩ := hB
  rw [ht] at hP1
  have hK1 := va_K.moved hvm.symm hK1
  obtain ⟨hP, hD⟩ := va_join (wr := [(q86, .inr (15, [.ref q87, .ref q88, .ref q89, .ref q90, .ref q91, .ref q92, .int 0, .int 1, .ref q93, .int 0, .ref q94, .null, .ref q95, .null, .ref q96, .ref q97, .ref q98, .ref q99, .ref q100, .int 0, .ref q101, .ref q102, .ref q103, .ref q104, .ref q105, .int 0, .int 0]))]) (w1 := []) hP hD [0, 9] [13] rfl rfl (by decide) (by decide) hk1 hFc hP1 hD1
  have hK := (hK.sub (tys' := []) [] rfl).app hK1
  generalize H1 = H at hP hS ⊢
  have hP : va_P (dC, dI) vwCl [(q86, .inr (15, [.ref q87, .ref q88, .ref q89, .ref q90, .ref q91, .ref q92, .int 0, .int 1, .ref q93, .int 0, .ref q94, .null, .ref q95, .null, .ref q96, .ref q97, .ref q98, .ref q99, .ref q100, .int 0, .ref q101, .ref q102, .ref q103, .ref q104, .ref q105, .int 0, .int 0]))] H := hP
  have hD : va_D (fun q : Nat => s.heap.size ≤ q) [(q86, .inr (15, [.ref q87, .ref q88, .ref q89, .ref q90, .ref q91, .ref q92, .int 0, .int 1, .ref q93, .int 0, .ref q94, .null, .ref q95, .null, .ref q96, .ref q97, .ref q98, .ref q99, .ref q100, .int 0, .ref q101, .ref q102, .ref q103, .ref q104, .ref q105, .int 0, .int 0]))] := hD
  have hK : va_K (dC, dI) vwCl [] s := hK
  refine W.widen (k := 132) (n := 6698) (Nat.le_of_ble_eq_true rfl) (Nat.le_of_ble_eq_true rfl) ?_
  refine lv_istore (lv' := [(5, .int 1), (4, .int 0), (3, .ref q106), (2, .ref q86), (1, .ref q0), (0, .ref b)]) hx hb dL_law_1890 hl (by decide) rfl (fun ls hl => ?_)
  refine lv_aload_n hx hb dL_law_1892 rfl (lv_at hl 3 rfl) ?_
  refine lv_aload_n hx hb dL_law_1893 rfl (lv_at hl 5 rfl) ?_
  refine lv_iload hx hb dL_law_1894 (lv_at hl 1 rfl) ?_
  refine lv_iconst (v := 1) hx hb dL_law_1896 (by decide +kernel) ?_
  refine lv_iadd hx hb dL_law_1897 ?_
  refine zt_i (v := 1) (by decide +kernel) ?_
  refine va_sld hx hb hX hbl hbA hS (i := 1) (zin (by decide +kernel)) dL_law_1898 ?_
  refine zt_v (w := .int (xs 1)) rfl ?_
  have hPc := hP.sub (ws' := [(q86, .inr (15, [.ref q87, .ref q88, .ref q89, .ref q90, .ref q91, .ref q92, .int 0, .int 1, .ref q93, .int 0, .ref q94, .null, .ref q95, .null, .ref q96, .ref q97, .ref q98, .ref q99, .ref q100, .int 0, .ref q101, .ref q102, .ref q103, .ref q104, .ref q105, .int 0, .int 0]))]) [0] rfl
  have hDc := hD.sub (ws' := [(q86, .inr (15, [.ref q87, .ref q88, .ref q89, .ref q90, .ref q91, .ref q92, .int 0, .int 1, .ref q93, .int 0, .ref q94, .null, .ref q95, .null, .ref q96, .ref q97, .ref q98, .ref q99, .ref q100, .int 0, .ref q101, .ref q102, .ref q103, .ref q104, .ref q105, .int 0, .int 0]))]) [0] (by decide) rfl
  have hKc := hK.sub (tys' := []) [] rfl
  have hFc := va_free (wc := [(q86, .inr (15, [.ref q87, .ref q88, .ref q89, .ref q90, .ref q91, .ref q92, .int 0, .int 1, .ref q93, .int 0, .ref q94, .null, .ref q95, .null, .ref q96, .ref q97, .ref q98, .ref q99, .ref q100, .int 0, .ref q101, .ref q102, .ref q103, .ref q104, .ref q105, .int 0, .int 0]))]) hD hS hA [0] rfl
  refine va_calli (va_runV (As := [.int (xs 1)]) (rest := []) ⟨hx, hb, hml, hown, hts⟩ (c_X13_spanBegin l dC dI q86 q87 q88 q89 q90 q91 q92 q93 q94 q95 q96 q97 q98 q99 q100 q101 q102 q103 q104 q105 H.size (xs 1) ) (cwV 1 hts gL_law_X13_spanBegin rfl rfl rfl (by decide +kernel) ⟨Nat.le_of_ble_eq_true rfl, Nat.le_of_ble_eq_true rfl⟩) ⟨zB_blind, va_recv hK hP (ci := 15) (q0 := 0) rfl rfl, (zPre hPc hDc hKc hS hFc hZ hN)⟩ rfl rfl hl.1 rfl (lv_room (Nat.le_of_ble_eq_true rfl)) dL_law_1899 ⟨Nat.le_of_ble_eq_true rfl, Nat.le_of_ble_eq_true rfl⟩) hS (fun q _ h => hFc q h) hFc (fun r u t H1 locs ht hvm hw hB hz1 hk1 hS => ?_)
  subst hw
  obtain ⟨hP1, hK1, hD1⟩ := hB
  rw [ht] at hP1
  have hK1 := va_K.moved hvm.symm hK1
  obtain ⟨hP, hD⟩ := va_join (wr := []) (w1 := [(q86, .inr (15, [.ref q87, .ref q88, .ref q89, .ref q90, .ref q91, .ref q92, .int 0, .int 1, .ref q93, .int 0, .ref q94, .null, .ref q95, .null, .ref q96, .ref q97, .ref q98, .ref q99, .ref q100, .int 1, .ref q101, .ref q102, .ref q103, .ref q104, .ref q105, .int 0, .int 0]))]) hP hD [0] [] rfl rfl (by decide) (by decide) hk1 hFc hP1 hD1
  have hK := (hK.sub (tys' := []) [] rfl).app hK1
  generalize H1 = H at hP hS ⊢
  have hP : va_P (dC, dI) vwCl [(q86, .inr (15, [.ref q87, .ref q88, .ref q89, .ref q90, .ref q91, .ref q92, .int 0, .int 1, .ref q93, .int 0, .ref q94, .null, .ref q95, .null, .ref q96, .ref q97, .ref q98, .ref q99, .ref q100, .int 1, .ref q101, .ref q102, .ref q103, .ref q104, .ref q105, .int 0, .int 0]))] H := hP
  have hD : va_D (fun q : Nat => s.heap.size ≤ q) [(q86, .inr (15, [.ref q87, .ref q88, .ref q89, .ref q90, .ref q91, .ref q92, .int 0, .int 1, .ref q93, .int 0, .ref q94, .null, .ref q95, .null, .ref q96, .ref q97, .ref q98, .ref q99, .ref q100, .int 1, .ref q101, .ref q102, .ref q103, .ref q104, .ref q105, .int 0, .int 0]))] := hD
  have hK : va_K (dC, dI) vwCl [] s := hK
  refine W.widen (k := 132) (n := 6698) (Nat.le_of_ble_eq_true rfl) (Nat.le_of_ble_eq_true rfl) ?_
  refine lv_istore (lv' := [(6, .int 0), (5, .int 1), (4, .int 0), (3, .ref q106), (2, .ref q86), (1, .ref q0), (0, .ref b)]) hx hb dL_law_1902 hl (by decide) rfl (fun ls hl => ?_)
  refine lv_aload_n hx hb dL_law_1904 rfl (lv_at hl 4 rfl) ?_
  have hPc := hP.sub (ws' := [(q86, .inr (15, [.ref q87, .ref q88, .ref q89, .ref q90, .ref q91, .ref q92, .int 0, .int 1, .ref q93, .int 0, .ref q94, .null, .ref q95, .null, .ref q96, .ref q97, .ref q98, .ref q99, .ref q100, .int 1, .ref q101, .ref q102, .ref q103, .ref q104, .ref q105, .int 0, .int 0]))]) [0] rfl
  have hDc := hD.sub (ws' := [(q86, .inr (15, [.ref q87, .ref q88, .ref q89, .ref q90, .ref q91, .ref q92, .int 0, .int 1, .ref q93, .int 0, .ref q94, .null, .ref q95, .null, .ref q96, .ref q97, .ref q98, .ref q99, .ref q100, .int 1, .ref q101, .ref q102, .ref q103, .ref q104, .ref q105, .int 0, .int 0]))]) [0] (by decide) rfl
  have hKc := hK.sub (tys' := []) [] rfl
  have hFc := va_free (wc := [(q86, .inr (15, [.ref q87, .ref q88, .ref q89, .ref q90, .ref q91, .ref q92, .int 0, .int 1, .ref q93, .int 0, .ref q94, .null, .ref q95, .null, .ref q96, .ref q97, .ref q98, .ref q99, .ref q100, .int 1, .ref q101, .ref q102, .ref q103, .ref q104, .ref q105, .int 0, .int 0]))]) hD hS hA [0] rfl
  refine va_calli (va_runV (As := []) (rest := []) ⟨hx, hb, hml, hown, hts⟩ (c_X13_thrown l dC dI q86 q87 q88 q89 q90 q91 q92 q93 q94 q95 q96 q97 q98 q99 q100 q101 q102 q103 q104 q105 H.size  ) (cwV 0 hts gL_law_X13_thrown rfl rfl rfl (by decide +kernel) ⟨Nat.le_of_ble_eq_true rfl, Nat.le_of_ble_eq_true rfl⟩) ⟨zB_blind, va_recv hK hP (ci := 15) (q0 := 0) rfl rfl, (zPre hPc hDc hKc hS hFc hZ hN)⟩ rfl rfl hl.1 rfl (lv_room (Nat.le_of_ble_eq_true rfl)) dL_law_1905 ⟨Nat.le_of_ble_eq_true rfl, Nat.le_of_ble_eq_true rfl⟩) hS (fun q _ h => hFc q h) hFc (fun r u t H1 locs ht hvm hw hB hz1 hk1 hS => ?_)
  subst hw
  obtain ⟨hP1, hK1, hD1⟩ := hB
  rw [ht] at hP1
  have hK1 := va_K.moved hvm.symm hK1
  obtain ⟨hP, hD⟩ := va_join (wr := []) (w1 := []) hP hD [0] [] rfl rfl (by decide) (by decide) hk1 hFc hP1 hD1
  have hK := (hK.sub (tys' := []) [] rfl).app hK1
  generalize H1 = H at hP hS ⊢
  have hP : va_P (dC, dI) vwCl [] H := hP
  have hD : va_D (fun q : Nat => s.heap.size ≤ q) [] := hD
  have hK : va_K (dC, dI) vwCl [] s := hK
  refine W.widen (k := 132) (n := 6698) (Nat.le_of_ble_eq_true rfl) (Nat.le_of_ble_eq_true rfl) ?_
  refine lv_iload hx hb dL_law_1908 (lv_at hl 1 rfl) ?_
  refine lv_icmp_eq (tgt := 1915) hx hb dL_law_1910 (by decide) (fun _ => ?_) (fun h9 => absurd (show (1 : Int32) = (1 : Int32) by decide +kernel) h9)
  refine lv_iload hx hb dL_law_1915 (lv_at hl 1 rfl) ?_
  refine lv_if_ne (tgt := 1932) hx hb dL_law_1917 (by decide) (fun _ => ?_) (fun h9 => absurd h9 (show ¬ (1 : Int32) = (0 : Int32) by decide +kernel))
  refine lv_goto (tgt := 2311) hx hb dL_law_1932 (by decide) ?_
  exact law_exit C0 hS (Nat.le_of_ble_eq_true rfl) (Nat.le_of_ble_eq_true rfl) ls (lv_sub hl [2, 3, 4, 5, 6] rfl)
set_option maxHeartbeats 8000000 in
set_option maxRecDepth 100000 in
theorem law_case_35 {p : Program} {l : Launch} {e : Env} {s : State} {m : MethodId} {below : List Frame} {meth : Method} {c : Code} {b : Nat} {xs : Nat → Int32} (hfl : l.stackTraces = false) (C0 : lw_At p s m meth c b 4 xs) {dC : Nat → ClassId} {dI : Nat → Nat → Nat} {q0 q1 q3 q5 q7 q9 q11 q13 q15 q17 q21 q25 q26 q27 q2 q4 q6 q8 q10 q16 q18 q22 q23 q86 q87 q88 q89 q90 q91 q92 q93 q94 q95 q96 q97 q98 q99 q100 q101 q102 q103 q104 q105 q106 : Nat} {k2 k4 k87 k88 k89 k90 k91 k92 k93 k94 k96 k106 : ClassId} {H : Heap} {locs : List Loc} (hK : va_K (dC, dI) vwCl [(k2, .char), (k4, (.object "Seekwell$Text")), (k87, .boolean), (k88, .int), (k89, .int), (k90, .char), (k91, (.array .long)), (k92, (.array .long)), (k93, .int), (k94, .int), (k96, .boolean), (k106, .long)] s) (hP : va_P (dC, dI) vwCl [(q0, .inr (13, [.ref q1, .ref q3, .ref q5, .ref q7, .ref q9, .ref q11, .ref q13, .ref q15, .int 0, .ref q17, .ref q21, .ref q25, .ref q26, .ref q27])), (q1, .inr (7, [.ref q2, .int 0])), (q2, .inl (k2, 512, .inl (fun _ => 0))), (q3, .inr (11, [.ref q4, .int 0, .int 1])), (q4, .inl (k4, 24, .inr (.inr (.inr (.inr (fun _ => none)))))), (q5, .inr (11, [.ref q6, .int 0, .int 1])), (q7, .inr (10, [.ref q8, .int 0])), (q9, .inr (5, [.ref q10, .int 0, .int 0])), (q15, .inr (5, [.ref q16, .int 0, .int 0])), (q17, .inr (9, [.ref q18, .ref q18, .null])), (q21, .inr (9, [.ref q22, .ref q22, .null])), (q22, .inr (8, [.int 0, .int 0, .int 1, .int 0, .int 0, .int 0, .ref q23, .null, .null, .null, .null, .int 0, .int 0, .int 0, .int 0, .null, .null])), (q26, .inr (3, [.null, .null, .int 0, .int 0, .null])), (q86, .inr (15, [.ref q87, .ref q88, .ref q89, .ref q90, .ref q91, .ref q92, .int 0, .int 1, .ref q93, .int 0, .ref q94, .null, .ref q95, .null, .ref q96, .ref q97, .ref q98, .ref q99, .ref q100, .int 0, .ref q101, .ref q102, .ref q103, .ref q104, .ref q105, .int 0, .int 0])), (q87, .inl (k87, 24, .inl (fun _ => 0))), (q88, .inl (k88, 24, .inl (fun _ => 0))), (q89, .inl (k89, 24, .inl (fun _ => 0))), (q90, .inl (k90, 24, .inl (fun _ => 0))), (q91, .inl (k91, 24, .inr (.inr (.inr (.inr (fun _ => none)))))), (q92, .inl (k92, 24, .inr (.inr (.inr (.inr (fun _ => none)))))), (q93, .inl (k93, 4000, .inl (fun _ => 0))), (q94, .inl (k94, 0, .inl (fun _ => 0))), (q96, .inl (k96, 24, .inl (fun _ => 0))), (q106, .inl (k106, 1, .inr (.inl (fun _ => 0))))] H) (hD : va_D (fun q : Nat => s.heap.size ≤ q) [(q0, .inr (13, [.ref q1, .ref q3, .ref q5, .ref q7, .ref q9, .ref q11, .ref q13, .ref q15, .int 0, .ref q17, .ref q21, .ref q25, .ref q26, .ref q27])), (q1, .inr (7, [.ref q2, .int 0])), (q2, .inl (k2, 512, .inl (fun _ => 0))), (q3, .inr (11, [.ref q4, .int 0, .int 1])), (q4, .inl (k4, 24, .inr (.inr (.inr (.inr (fun _ => none)))))), (q5, .inr (11, [.ref q6, .int 0, .int 1])), (q7, .inr (10, [.ref q8, .int 0])), (q9, .inr (5, [.ref q10, .int 0, .int 0])), (q15, .inr (5, [.ref q16, .int 0, .int 0])), (q17, .inr (9, [.ref q18, .ref q18, .null])), (q21, .inr (9, [.ref q22, .ref q22, .null])), (q22, .inr (8, [.int 0, .int 0, .int 1, .int 0, .int 0, .int 0, .ref q23, .null, .null, .null, .null, .int 0, .int 0, .int 0, .int 0, .null, .null])), (q26, .inr (3, [.null, .null, .int 0, .int 0, .null])), (q86, .inr (15, [.ref q87, .ref q88, .ref q89, .ref q90, .ref q91, .ref q92, .int 0, .int 1, .ref q93, .int 0, .ref q94, .null, .ref q95, .null, .ref q96, .ref q97, .ref q98, .ref q99, .ref q100, .int 0, .ref q101, .ref q102, .ref q103, .ref q104, .ref q105, .int 0, .int 0])), (q87, .inl (k87, 24, .inl (fun _ => 0))), (q88, .inl (k88, 24, .inl (fun _ => 0))), (q89, .inl (k89, 24, .inl (fun _ => 0))), (q90, .inl (k90, 24, .inl (fun _ => 0))), (q91, .inl (k91, 24, .inr (.inr (.inr (.inr (fun _ => none)))))), (q92, .inl (k92, 24, .inr (.inr (.inr (.inr (fun _ => none)))))), (q93, .inl (k93, 4000, .inl (fun _ => 0))), (q94, .inl (k94, 0, .inl (fun _ => 0))), (q96, .inl (k96, 24, .inl (fun _ => 0))), (q106, .inl (k106, 1, .inr (.inl (fun _ => 0))))]) (hS : va_S (fun q : Nat => s.heap.size ≤ q) s.heap H locs) (hZ : zZ (fun q : Nat => s.heap.size ≤ q) s s.heap) (hN : zN s) (ls : Array Slot) (hl : lv_has ls 7 [(4, .int 0), (3, .ref q106), (2, .ref q86), (1, .ref q0), (0, .ref b)]) : W p l e room_1 s m #[Value.ref b] below meth c H locs 131 6692 (lw_Z below #[Value.ref b] s) (F0 m 1935 ls []) := by
  obtain ⟨hx, hb, hr, hml, hown, hts, hX, hbl, hlocks, hgv⟩ := id C0
  have hbA : ¬ (fun q : Nat => s.heap.size ≤ q) b := Nat.not_le.mpr hbl
  have hA : ∀ q : Nat, s.heap.size ≤ q → (fun q : Nat => s.heap.size ≤ q) q := fun _ h => h
  refine lv_aload_n hx hb dL_law_1935 rfl (lv_at hl 3 rfl) ?_
  refine lv_aload_n hx hb dL_law_1936 rfl (lv_at hl 4 rfl) ?_
  refine lv_iload hx hb dL_law_1937 (lv_at hl 0 rfl) ?_
  refine lv_iconst (v := 1) hx hb dL_law_1939 (by decide +kernel) ?_
  refine lv_iadd hx hb dL_law_1940 ?_
  refine zt_i (v := 1) (by decide +kernel) ?_
  refine va_sld hx hb hX hbl hbA hS (i := 1) (zin (by decide +kernel)) dL_law_1941 ?_
  refine zt_v (w := .int (xs 1)) rfl ?_
  refine lv_aload_n hx hb dL_law_1942 rfl (lv_at hl 1 rfl) ?_
  have hPc := hP.sub (ws' := [(q0, .inr (13, [.ref q1, .ref q3, .ref q5, .ref q7, .ref q9, .ref q11, .ref q13, .ref q15, .int 0, .ref q17, .ref q21, .ref q25, .ref q26, .ref q27])), (q17, .inr (9, [.ref q18, .ref q18, .null]))]) [0, 9] rfl
  have hDc := hD.sub (ws' := [(q0, .inr (13, [.ref q1, .ref q3, .ref q5, .ref q7, .ref q9, .ref q11, .ref q13, .ref q15, .int 0, .ref q17, .ref q21, .ref q25, .ref q26, .ref q27])), (q17, .inr (9, [.ref q18, .ref q18, .null]))]) [0, 9] (by decide) rfl
  have hKc := hK.sub (tys' := []) [] rfl
  have hFc := va_free (wc := [(q0, .inr (13, [.ref q1, .ref q3, .ref q5, .ref q7, .ref q9, .ref q11, .ref q13, .ref q15, .int 0, .ref q17, .ref q21, .ref q25, .ref q26, .ref q27])), (q17, .inr (9, [.ref q18, .ref q18, .null]))]) hD hS hA [0, 9] rfl
  refine va_calli (vx_runSW (As := [.ref q0, .int (xs 1), .ref q106]) (rest := []) ⟨hx, hb, hml, hown, hts⟩ (c_L_spanLength l hfl dC dI q0 q106 q1 q3 q5 q7 q9 q11 q13 q15 q17 q21 q25 q26 q27 q18 H.size (xs 1) ) (vx_cwSW 3 hts gL_law_L_spanLength rfl rfl rfl (by decide +kernel) ⟨Nat.le_of_ble_eq_true rfl, Nat.le_of_ble_eq_true rfl⟩) ⟨zB_blind, (zPre hPc hDc hKc hS hFc hZ hN)⟩ rfl rfl hl.1 rfl (lv_room (Nat.le_of_ble_eq_true rfl)) dL_law_1943 ⟨Nat.le_of_ble_eq_true rfl, Nat.le_of_ble_eq_true rfl⟩) hS (fun q _ h => hFc q h) hFc (fun r u t H1 locs ht hvm hw hB hz1 hk1 hS => ?_)
  subst hw
  obtain ⟨hP1, hK1, hD1⟩ := hB
  rw [ht] at hP1
  have hK1 := va_K.moved hvm.symm hK1
  obtain ⟨hP, hD⟩ := va_join (wr := [(q86, .inr (15, [.ref q87, .ref q88, .ref q89, .ref q90, .ref q91, .ref q92, .int 0, .int 1, .ref q93, .int 0, .ref q94, .null, .ref q95, .null, .ref q96, .ref q97, .ref q98, .ref q99, .ref q100, .int 0, .ref q101, .ref q102, .ref q103, .ref q104, .ref q105, .int 0, .int 0]))]) (w1 := []) hP hD [0, 9] [13] rfl rfl (by decide) (by decide) hk1 hFc hP1 hD1
  have hK := (hK.sub (tys' := []) [] rfl).app hK1
  generalize H1 = H at hP hS ⊢
  have hP : va_P (dC, dI) vwCl [(q86, .inr (15, [.ref q87, .ref q88, .ref q89, .ref q90, .ref q91, .ref q92, .int 0, .int 1, .ref q93, .int 0, .ref q94, .null, .ref q95, .null, .ref q96, .ref q97, .ref q98, .ref q99, .ref q100, .int 0, .ref q101, .ref q102, .ref q103, .ref q104, .ref q105, .int 0, .int 0]))] H := hP
  have hD : va_D (fun q : Nat => s.heap.size ≤ q) [(q86, .inr (15, [.ref q87, .ref q88, .ref q89, .ref q90, .ref q91, .ref q92, .int 0, .int 1, .ref q93, .int 0, .ref q94, .null, .ref q95, .null, .ref q96, .ref q97, .ref q98, .ref q99, .ref q100, .int 0, .ref q101, .ref q102, .ref q103, .ref q104, .ref q105, .int 0, .int 0]))] := hD
  have hK : va_K (dC, dI) vwCl [] s := hK
  refine W.widen (k := 132) (n := 6698) (Nat.le_of_ble_eq_true rfl) (Nat.le_of_ble_eq_true rfl) ?_
  refine lv_istore (lv' := [(5, .int 1), (4, .int 0), (3, .ref q106), (2, .ref q86), (1, .ref q0), (0, .ref b)]) hx hb dL_law_1946 hl (by decide) rfl (fun ls hl => ?_)
  refine lv_aload_n hx hb dL_law_1948 rfl (lv_at hl 3 rfl) ?_
  refine lv_aload_n hx hb dL_law_1949 rfl (lv_at hl 5 rfl) ?_
  refine lv_iload hx hb dL_law_1950 (lv_at hl 1 rfl) ?_
  refine lv_iconst (v := 1) hx hb dL_law_1952 (by decide +kernel) ?_
  refine lv_iadd hx hb dL_law_1953 ?_
  refine zt_i (v := 1) (by decide +kernel) ?_
  refine va_sld hx hb hX hbl hbA hS (i := 1) (zin (by decide +kernel)) dL_law_1954 ?_
  refine zt_v (w := .int (xs 1)) rfl ?_
  have hPc := hP.sub (ws' := [(q86, .inr (15, [.ref q87, .ref q88, .ref q89, .ref q90, .ref q91, .ref q92, .int 0, .int 1, .ref q93, .int 0, .ref q94, .null, .ref q95, .null, .ref q96, .ref q97, .ref q98, .ref q99, .ref q100, .int 0, .ref q101, .ref q102, .ref q103, .ref q104, .ref q105, .int 0, .int 0]))]) [0] rfl
  have hDc := hD.sub (ws' := [(q86, .inr (15, [.ref q87, .ref q88, .ref q89, .ref q90, .ref q91, .ref q92, .int 0, .int 1, .ref q93, .int 0, .ref q94, .null, .ref q95, .null, .ref q96, .ref q97, .ref q98, .ref q99, .ref q100, .int 0, .ref q101, .ref q102, .ref q103, .ref q104, .ref q105, .int 0, .int 0]))]) [0] (by decide) rfl
  have hKc := hK.sub (tys' := []) [] rfl
  have hFc := va_free (wc := [(q86, .inr (15, [.ref q87, .ref q88, .ref q89, .ref q90, .ref q91, .ref q92, .int 0, .int 1, .ref q93, .int 0, .ref q94, .null, .ref q95, .null, .ref q96, .ref q97, .ref q98, .ref q99, .ref q100, .int 0, .ref q101, .ref q102, .ref q103, .ref q104, .ref q105, .int 0, .int 0]))]) hD hS hA [0] rfl
  refine va_calli (va_runV (As := [.int (xs 1)]) (rest := []) ⟨hx, hb, hml, hown, hts⟩ (c_X13_spanLength l dC dI q86 q87 q88 q89 q90 q91 q92 q93 q94 q95 q96 q97 q98 q99 q100 q101 q102 q103 q104 q105 H.size (xs 1) ) (cwV 1 hts gL_law_X13_spanLength rfl rfl rfl (by decide +kernel) ⟨Nat.le_of_ble_eq_true rfl, Nat.le_of_ble_eq_true rfl⟩) ⟨zB_blind, va_recv hK hP (ci := 15) (q0 := 0) rfl rfl, (zPre hPc hDc hKc hS hFc hZ hN)⟩ rfl rfl hl.1 rfl (lv_room (Nat.le_of_ble_eq_true rfl)) dL_law_1955 ⟨Nat.le_of_ble_eq_true rfl, Nat.le_of_ble_eq_true rfl⟩) hS (fun q _ h => hFc q h) hFc (fun r u t H1 locs ht hvm hw hB hz1 hk1 hS => ?_)
  subst hw
  obtain ⟨hP1, hK1, hD1⟩ := hB
  rw [ht] at hP1
  have hK1 := va_K.moved hvm.symm hK1
  obtain ⟨hP, hD⟩ := va_join (wr := []) (w1 := [(q86, .inr (15, [.ref q87, .ref q88, .ref q89, .ref q90, .ref q91, .ref q92, .int 0, .int 1, .ref q93, .int 0, .ref q94, .null, .ref q95, .null, .ref q96, .ref q97, .ref q98, .ref q99, .ref q100, .int 1, .ref q101, .ref q102, .ref q103, .ref q104, .ref q105, .int 0, .int 0]))]) hP hD [0] [] rfl rfl (by decide) (by decide) hk1 hFc hP1 hD1
  have hK := (hK.sub (tys' := []) [] rfl).app hK1
  generalize H1 = H at hP hS ⊢
  have hP : va_P (dC, dI) vwCl [(q86, .inr (15, [.ref q87, .ref q88, .ref q89, .ref q90, .ref q91, .ref q92, .int 0, .int 1, .ref q93, .int 0, .ref q94, .null, .ref q95, .null, .ref q96, .ref q97, .ref q98, .ref q99, .ref q100, .int 1, .ref q101, .ref q102, .ref q103, .ref q104, .ref q105, .int 0, .int 0]))] H := hP
  have hD : va_D (fun q : Nat => s.heap.size ≤ q) [(q86, .inr (15, [.ref q87, .ref q88, .ref q89, .ref q90, .ref q91, .ref q92, .int 0, .int 1, .ref q93, .int 0, .ref q94, .null, .ref q95, .null, .ref q96, .ref q97, .ref q98, .ref q99, .ref q100, .int 1, .ref q101, .ref q102, .ref q103, .ref q104, .ref q105, .int 0, .int 0]))] := hD
  have hK : va_K (dC, dI) vwCl [] s := hK
  refine W.widen (k := 132) (n := 6698) (Nat.le_of_ble_eq_true rfl) (Nat.le_of_ble_eq_true rfl) ?_
  refine lv_istore (lv' := [(6, .int 0), (5, .int 1), (4, .int 0), (3, .ref q106), (2, .ref q86), (1, .ref q0), (0, .ref b)]) hx hb dL_law_1958 hl (by decide) rfl (fun ls hl => ?_)
  refine lv_aload_n hx hb dL_law_1960 rfl (lv_at hl 4 rfl) ?_
  have hPc := hP.sub (ws' := [(q86, .inr (15, [.ref q87, .ref q88, .ref q89, .ref q90, .ref q91, .ref q92, .int 0, .int 1, .ref q93, .int 0, .ref q94, .null, .ref q95, .null, .ref q96, .ref q97, .ref q98, .ref q99, .ref q100, .int 1, .ref q101, .ref q102, .ref q103, .ref q104, .ref q105, .int 0, .int 0]))]) [0] rfl
  have hDc := hD.sub (ws' := [(q86, .inr (15, [.ref q87, .ref q88, .ref q89, .ref q90, .ref q91, .ref q92, .int 0, .int 1, .ref q93, .int 0, .ref q94, .null, .ref q95, .null, .ref q96, .ref q97, .ref q98, .ref q99, .ref q100, .int 1, .ref q101, .ref q102, .ref q103, .ref q104, .ref q105, .int 0, .int 0]))]) [0] (by decide) rfl
  have hKc := hK.sub (tys' := []) [] rfl
  have hFc := va_free (wc := [(q86, .inr (15, [.ref q87, .ref q88, .ref q89, .ref q90, .ref q91, .ref q92, .int 0, .int 1, .ref q93, .int 0, .ref q94, .null, .ref q95, .null, .ref q96, .ref q97, .ref q98, .ref q99, .ref q100, .int 1, .ref q101, .ref q102, .ref q103, .ref q104, .ref q105, .int 0, .int 0]))]) hD hS hA [0] rfl
  refine va_calli (va_runV (As := []) (rest := []) ⟨hx, hb, hml, hown, hts⟩ (c_X13_thrown l dC dI q86 q87 q88 q89 q90 q91 q92 q93 q94 q95 q96 q97 q98 q99 q100 q101 q102 q103 q104 q105 H.size  ) (cwV 0 hts gL_law_X13_thrown rfl rfl rfl (by decide +kernel) ⟨Nat.le_of_ble_eq_true rfl, Nat.le_of_ble_eq_true rfl⟩) ⟨zB_blind, va_recv hK hP (ci := 15) (q0 := 0) rfl rfl, (zPre hPc hDc hKc hS hFc hZ hN)⟩ rfl rfl hl.1 rfl (lv_room (Nat.le_of_ble_eq_true rfl)) dL_law_1961 ⟨Nat.le_of_ble_eq_true rfl, Nat.le_of_ble_eq_true rfl⟩) hS (fun q _ h => hFc q h) hFc (fun r u t H1 locs ht hvm hw hB hz1 hk1 hS => ?_)
  subst hw
  obtain ⟨hP1, hK1, hD1⟩ := hB
  rw [ht] at hP1
  have hK1 := va_K.moved hvm.symm hK1
  obtain ⟨hP, hD⟩ := va_join (wr := []) (w1 := []) hP hD [0] [] rfl rfl (by decide) (by decide) hk1 hFc hP1 hD1
  have hK := (hK.sub (tys' := []) [] rfl).app hK1
  generalize H1 = H at hP hS ⊢
  have hP : va_P (dC, dI) vwCl [] H := hP
  have hD : va_D (fun q : Nat => s.heap.size ≤ q) [] := hD
  have hK : va_K (dC, dI) vwCl [] s := hK
  refine W.widen (k := 132) (n := 6698) (Nat.le_of_ble_eq_true rfl) (Nat.le_of_ble_eq_true rfl) ?_
  refine lv_iload hx hb dL_law_1964 (lv_at hl 1 rfl) ?_
  refine lv_icmp_eq (tgt := 1971) hx hb dL_law_1966 (by decide) (fun _ => ?_) (fun h9 => absurd (show (1 : Int32) = (1 : Int32) by decide +kernel) h9)
  refine lv_iload hx hb dL_law_1971 (lv_at hl 1 rfl) ?_
  refine lv_if_ne (tgt := 1988) hx hb dL_law_1973 (by decide) (fun _ => ?_) (fun h9 => absurd h9 (show ¬ (1 : Int32) = (0 : Int32) by decide +kernel))
  refine lv_goto (tgt := 2311) hx hb dL_law_1988 (by decide) ?_
  exact law_exit C0 hS (Nat.le_of_ble_eq_true rfl) (Nat.le_of_ble_eq_true rfl) ls (lv_sub hl [2, 3, 4, 5, 6] rfl)
set_option maxHeartbeats 8000000 in
set_option maxRecDepth 100000 in
theorem law_case_36 {p : Program} {l : Launch} {e : Env} {s : State} {m : MethodId} {below : List Frame} {meth : Method} {c : Code} {b : Nat} {xs : Nat → Int32} (hfl : l.stackTraces = false) (C0 : lw_At p s m meth c b 4 xs) {dC : Nat → ClassId} {dI : Nat → Nat → Nat} {q0 q1 q3 q5 q7 q9 q11 q13 q15 q17 q21 q25 q26 q27 q2 q4 q6 q8 q10 q16 q18 q22 q23 q86 q87 q88 q89 q90 q91 q92 q93 q94 q95 q96 q97 q98 q99 q100 q101 q102 q103 q104 q105 q106 : Nat} {k2 k4 k87 k88 k89 k90 k91 k92 k93 k94 k96 k106 : ClassId} {H : Heap} {locs : List Loc} (hK : va_K (dC, dI) vwCl [(k2, .char), (k4, (.object "Seekwell$Text")), (k87, .boolean), (k88, .int), (k89, .int), (k90, .char), (k91, (.array .long)), (k92, (.array .long)), (k93, .int), (k94, .int), (k96, .boolean), (k106, .long)] s) (hP : va_P (dC, dI) vwCl [(q0, .inr (13, [.ref q1, .ref q3, .ref q5, .ref q7, .ref q9, .ref q11, .ref q13, .ref q15, .int 0, .ref q17, .ref q21, .ref q25, .ref q26, .ref q27])), (q1, .inr (7, [.ref q2, .int 0])), (q2, .inl (k2, 512, .inl (fun _ => 0))), (q3, .inr (11, [.ref q4, .int 0, .int 1])), (q4, .inl (k4, 24, .inr (.inr (.inr (.inr (fun _ => none)))))), (q5, .inr (11, [.ref q6, .int 0, .int 1])), (q7, .inr (10, [.ref q8, .int 0])), (q9, .inr (5, [.ref q10, .int 0, .int 0])), (q15, .inr (5, [.ref q16, .int 0, .int 0])), (q17, .inr (9, [.ref q18, .ref q18, .null])), (q21, .inr (9, [.ref q22, .ref q22, .null])), (q22, .inr (8, [.int 0, .int 0, .int 1, .int 0, .int 0, .int 0, .ref q23, .null, .null, .null, .null, .int 0, .int 0, .int 0, .int 0, .null, .null])), (q26, .inr (3, [.null, .null, .int 0, .int 0, .null])), (q86, .inr (15, [.ref q87, .ref q88, .ref q89, .ref q90, .ref q91, .ref q92, .int 0, .int 1, .ref q93, .int 0, .ref q94, .null, .ref q95, .null, .ref q96, .ref q97, .ref q98, .ref q99, .ref q100, .int 0, .ref q101, .ref q102, .ref q103, .ref q104, .ref q105, .int 0, .int 0])), (q87, .inl (k87, 24, .inl (fun _ => 0))), (q88, .inl (k88, 24, .inl (fun _ => 0))), (q89, .inl (k89, 24, .inl (fun _ => 0))), (q90, .inl (k90, 24, .inl (fun _ => 0))), (q91, .inl (k91, 24, .inr (.inr (.inr (.inr (fun _ => none)))))), (q92, .inl (k92, 24, .inr (.inr (.inr (.inr (fun _ => none)))))), (q93, .inl (k93, 4000, .inl (fun _ => 0))), (q94, .inl (k94, 0, .inl (fun _ => 0))), (q96, .inl (k96, 24, .inl (fun _ => 0))), (q106, .inl (k106, 1, .inr (.inl (fun _ => 0))))] H) (hD : va_D (fun q : Nat => s.heap.size ≤ q) [(q0, .inr (13, [.ref q1, .ref q3, .ref q5, .ref q7, .ref q9, .ref q11, .ref q13, .ref q15, .int 0, .ref q17, .ref q21, .ref q25, .ref q26, .ref q27])), (q1, .inr (7, [.ref q2, .int 0])), (q2, .inl (k2, 512, .inl (fun _ => 0))), (q3, .inr (11, [.ref q4, .int 0, .int 1])), (q4, .inl (k4, 24, .inr (.inr (.inr (.inr (fun _ => none)))))), (q5, .inr (11, [.ref q6, .int 0, .int 1])), (q7, .inr (10, [.ref q8, .int 0])), (q9, .inr (5, [.ref q10, .int 0, .int 0])), (q15, .inr (5, [.ref q16, .int 0, .int 0])), (q17, .inr (9, [.ref q18, .ref q18, .null])), (q21, .inr (9, [.ref q22, .ref q22, .null])), (q22, .inr (8, [.int 0, .int 0, .int 1, .int 0, .int 0, .int 0, .ref q23, .null, .null, .null, .null, .int 0, .int 0, .int 0, .int 0, .null, .null])), (q26, .inr (3, [.null, .null, .int 0, .int 0, .null])), (q86, .inr (15, [.ref q87, .ref q88, .ref q89, .ref q90, .ref q91, .ref q92, .int 0, .int 1, .ref q93, .int 0, .ref q94, .null, .ref q95, .null, .ref q96, .ref q97, .ref q98, .ref q99, .ref q100, .int 0, .ref q101, .ref q102, .ref q103, .ref q104, .ref q105, .int 0, .int 0])), (q87, .inl (k87, 24, .inl (fun _ => 0))), (q88, .inl (k88, 24, .inl (fun _ => 0))), (q89, .inl (k89, 24, .inl (fun _ => 0))), (q90, .inl (k90, 24, .inl (fun _ => 0))), (q91, .inl (k91, 24, .inr (.inr (.inr (.inr (fun _ => none)))))), (q92, .inl (k92, 24, .inr (.inr (.inr (.inr (fun _ => none)))))), (q93, .inl (k93, 4000, .inl (fun _ => 0))), (q94, .inl (k94, 0, .inl (fun _ => 0))), (q96, .inl (k96, 24, .inl (fun _ => 0))), (q106, .inl (k106, 1, .inr (.inl (fun _ => 0))))]) (hS : va_S (fun q : Nat => s.heap.size ≤ q) s.heap H locs) (hZ : zZ (fun q : Nat => s.heap.size ≤ q) s s.heap) (hN : zN s) (ls : Array Slot) (hl : lv_has ls 7 [(4, .int 0), (3, .ref q106), (2, .ref q86), (1, .ref q0), (0, .ref b)]) : W p l e room_1 s m #[Value.ref b] below meth c H locs 131 6692 (lw_Z below #[Value.ref b] s) (F0 m 1991 ls []) := by
  obtain ⟨hx, hb, hr, hml, hown, hts, hX, hbl, hlocks, hgv⟩ := id C0
  have hbA : ¬ (fun q : Nat => s.heap.size ≤ q) b := Nat.not_le.mpr hbl
  have hA : ∀ q : Nat, s.heap.size ≤ q → (fun q : Nat => s.heap.size ≤ q) q := fun _ h => h
  refine lv_aload_n hx hb dL_law_1991 rfl (lv_at hl 3 rfl) ?_
  refine lv_aload_n hx hb dL_law_1992 rfl (lv_at hl 4 rfl) ?_
  refine lv_iload hx hb dL_law_1993 (lv_at hl 0 rfl) ?_
  refine lv_iconst (v := 1) hx hb dL_law_1995 (by decide +kernel) ?_
  refine lv_iadd hx hb dL_law_1996 ?_
  refine zt_i (v := 1) (by decide +kernel) ?_
  refine va_sld hx hb hX hbl hbA hS (i := 1) (zin (by decide +kernel)) dL_law_1997 ?_
  refine zt_v (w := .int (xs 1)) rfl ?_
  refine lv_aload_n hx hb dL_law_1998 rfl (lv_at hl 1 rfl) ?_
  have hPc := hP.sub (ws' := [(q0, .inr (13, [.ref q1, .ref q3, .ref q5, .ref q7, .ref q9, .ref q11, .ref q13, .ref q15, .int 0, .ref q17, .ref q21, .ref q25, .ref q26, .ref q27])), (q17, .inr (9, [.ref q18, .ref q18, .null]))]) [0, 9] rfl
  have hDc := hD.sub (ws' := [(q0, .inr (13, [.ref q1, .ref q3, .ref q5, .ref q7, .ref q9, .ref q11, .ref q13, .ref q15, .int 0, .ref q17, .ref q21, .ref q25, .ref q26, .ref q27])), (q17, .inr (9, [.ref q18, .ref q18, .null]))]) [0, 9] (by decide) rfl
  have hKc := hK.sub (tys' := []) [] rfl
  have hFc := va_free (wc := [(q0, .inr (13, [.ref q1, .ref q3, .ref q5, .ref q7, .ref q9, .ref q11, .ref q13, .ref q15, .int 0, .ref q17, .ref q21, .ref q25, .ref q26, .ref q27])), (q17, .inr (9, [.ref q18, .ref q18, .null]))]) hD hS hA [0, 9] rfl
  refine va_calli (vx_runSW (As := [.ref q0, .int (xs 1), .ref q106]) (rest := []) ⟨hx, hb, hml, hown, hts⟩ (c_L_save l hfl dC dI q0 q106 q1 q3 q5 q7 q9 q11 q13 q15 q17 q21 q25 q26 q27 q18 H.size (xs 1) ) (vx_cwSW 3 hts gL_law_L_save rfl rfl rfl (by decide +kernel) ⟨Nat.le_of_ble_eq_true rfl, Nat.le_of_ble_eq_true rfl⟩) ⟨zB_blind, (zPre hPc hDc hKc hS hFc hZ hN)⟩ rfl rfl hl.1 rfl (lv_room (Nat.le_of_ble_eq_true rfl)) dL_law_1999 ⟨Nat.le_of_ble_eq_true rfl, Nat.le_of_ble_eq_true rfl⟩) hS (fun q _ h => hFc q h) hFc (fun r u t H1 locs ht hvm hw hB hz1 hk1 hS => ?_)
  subst hw
  obtain ⟨hP1, hK1, hD1⟩ := hB
  rw [ht] at hP1
  have hK1 := va_K.moved hvm.symm hK1
  obtain ⟨hP, hD⟩ := va_join (wr := [(q86, .inr (15, [.ref q87, .ref q88, .ref q89, .ref q90, .ref q91, .ref q92, .int 0, .int 1, .ref q93, .int 0, .ref q94, .null, .ref q95, .null, .ref q96, .ref q97, .ref q98, .ref q99, .ref q100, .int 0, .ref q101, .ref q102, .ref q103, .ref q104, .ref q105, .int 0, .int 0]))]) (w1 := []) hP hD [0, 9] [13] rfl rfl (by decide) (by decide) hk1 hFc hP1 hD1
  have hK := (hK.sub (tys' := []) [] rfl).app hK1
  generalize H1 = H at hP hS ⊢
  have hP : va_P (dC, dI) vwCl [(q86, .inr (15, [.ref q87, .ref q88, .ref q89, .ref q90, .ref q91, .ref q92, .int 0, .int 1, .ref q93, .int 0, .ref q94, .null, .ref q95, .null, .ref q96, .ref q97, .ref q98, .ref q99, .ref q100, .int 0, .ref q101, .ref q102, .ref q103, .ref q104, .ref q105, .int 0, .int 0]))] H := hP
  have hD : va_D (fun q : Nat => s.heap.size ≤ q) [(q86, .inr (15, [.ref q87, .ref q88, .ref q89, .ref q90, .ref q91, .ref q92, .int 0, .int 1, .ref q93, .int 0, .ref q94, .null, .ref q95, .null, .ref q96, .ref q97, .ref q98, .ref q99, .ref q100, .int 0, .ref q101, .ref q102, .ref q103, .ref q104, .ref q105, .int 0, .int 0]))] := hD
  have hK : va_K (dC, dI) vwCl [] s := hK
  refine W.widen (k := 132) (n := 6698) (Nat.le_of_ble_eq_true rfl) (Nat.le_of_ble_eq_true rfl) ?_
  refine lv_istore (lv' := [(5, .int 1), (4, .int 0), (3, .ref q106), (2, .ref q86), (1, .ref q0), (0, .ref b)]) hx hb dL_law_2002 hl (by decide) rfl (fun ls hl => ?_)
  refine lv_aload_n hx hb dL_law_2004 rfl (lv_at hl 3 rfl) ?_
  refine lv_aload_n hx hb dL_law_2005 rfl (lv_at hl 5 rfl) ?_
  refine lv_iload hx hb dL_law_2006 (lv_at hl 1 rfl) ?_
  refine lv_iconst (v := 1) hx hb dL_law_2008 (by decide +kernel) ?_
  refine lv_iadd hx hb dL_law_2009 ?_
  refine zt_i (v := 1) (by decide +kernel) ?_
  refine va_sld hx hb hX hbl hbA hS (i := 1) (zin (by decide +kernel)) dL_law_2010 ?_
  refine zt_v (w := .int (xs 1)) rfl ?_
  have hPc := hP.sub (ws' := [(q86, .inr (15, [.ref q87, .ref q88, .ref q89, .ref q90, .ref q91, .ref q92, .int 0, .int 1, .ref q93, .int 0, .ref q94, .null, .ref q95, .null, .ref q96, .ref q97, .ref q98, .ref q99, .ref q100, .int 0, .ref q101, .ref q102, .ref q103, .ref q104, .ref q105, .int 0, .int 0]))]) [0] rfl
  have hDc := hD.sub (ws' := [(q86, .inr (15, [.ref q87, .ref q88, .ref q89, .ref q90, .ref q91, .ref q92, .int 0, .int 1, .ref q93, .int 0, .ref q94, .null, .ref q95, .null, .ref q96, .ref q97, .ref q98, .ref q99, .ref q100, .int 0, .ref q101, .ref q102, .ref q103, .ref q104, .ref q105, .int 0, .int 0]))]) [0] (by decide) rfl
  have hKc := hK.sub (tys' := []) [] rfl
  have hFc := va_free (wc := [(q86, .inr (15, [.ref q87, .ref q88, .ref q89, .ref q90, .ref q91, .ref q92, .int 0, .int 1, .ref q93, .int 0, .ref q94, .null, .ref q95, .null, .ref q96, .ref q97, .ref q98, .ref q99, .ref q100, .int 0, .ref q101, .ref q102, .ref q103, .ref q104, .ref q105, .int 0, .int 0]))]) hD hS hA [0] rfl
  refine va_calli (va_runV (As := [.int (xs 1)]) (rest := []) ⟨hx, hb, hml, hown, hts⟩ (c_X13_save l dC dI q86 q87 q88 q89 q90 q91 q92 q93 q94 q95 q96 q97 q98 q99 q100 q101 q102 q103 q104 q105 H.size (xs 1) ) (cwV 1 hts gL_law_X13_save rfl rfl rfl (by decide +kernel) ⟨Nat.le_of_ble_eq_true rfl, Nat.le_of_ble_eq_true rfl⟩) ⟨zB_blind, va_recv hK hP (ci := 15) (q0 := 0) rfl rfl, (zPre hPc hDc hKc hS hFc hZ hN)⟩ rfl rfl hl.1 rfl (lv_room (Nat.le_of_ble_eq_true rfl)) dL_law_2011 ⟨Nat.le_of_ble_eq_true rfl, Nat.le_of_ble_eq_true rfl⟩) hS (fun q _ h => hFc q h) hFc (fun r u t H1 locs ht hvm hw hB hz1 hk1 hS => ?_)
  subst hw
  obtain ⟨hP1, hK1, hD1⟩ := hB
  rw [ht] at hP1
  have hK1 := va_K.moved hvm.symm hK1
  obtain ⟨hP, hD⟩ := va_join (wr := []) (w1 := [(q86, .inr (15, [.ref q87, .ref q88, .ref q89, .ref q90, .ref q91, .ref q92, .int 0, .int 1, .ref q93, .int 0, .ref q94, .null, .ref q95, .null, .ref q96, .ref q97, .ref q98, .ref q99, .ref q100, .int 1, .ref q101, .ref q102, .ref q103, .ref q104, .ref q105, .int 0, .int 0]))]) hP hD [0] [] rfl rfl (by decide) (by decide) hk1 hFc hP1 hD1
  have hK := (hK.sub (tys' := []) [] rfl).app hK1
  generalize H1 = H at hP hS ⊢
  have hP : va_P (dC, dI) vwCl [(q86, .inr (15, [.ref q87, .ref q88, .ref q89, .ref q90, .ref q91, .ref q92, .int 0, .int 1, .ref q93, .int 0, .ref q94, .null, .ref q95, .null, .ref q96, .ref q97, .ref q98, .ref q99, .ref q100, .int 1, .ref q101, .ref q102, .ref q103, .ref q104, .ref q105, .int 0, .int 0]))] H := hP
  have hD : va_D (fun q : Nat => s.heap.size ≤ q) [(q86, .inr (15, [.ref q87, .ref q88, .ref q89, .ref q90, .ref q91, .ref q92, .int 0, .int 1, .ref q93, .int 0, .ref q94, .null, .ref q95, .null, .ref q96, .ref q97, .ref q98, .ref q99, .ref q100, .int 1, .ref q101, .ref q102, .ref q103, .ref q104, .ref q105, .int 0, .int 0]))] := hD
  have hK : va_K (dC, dI) vwCl [] s := hK
  refine W.widen (k := 132) (n := 6698) (Nat.le_of_ble_eq_true rfl) (Nat.le_of_ble_eq_true rfl) ?_
  refine lv_istore (lv' := [(6, .int 0), (5, .int 1), (4, .int 0), (3, .ref q106), (2, .ref q86), (1, .ref q0), (0, .ref b)]) hx hb dL_law_2014 hl (by decide) rfl (fun ls hl => ?_)
  refine lv_aload_n hx hb dL_law_2016 rfl (lv_at hl 4 rfl) ?_
  have hPc := hP.sub (ws' := [(q86, .inr (15, [.ref q87, .ref q88, .ref q89, .ref q90, .ref q91, .ref q92, .int 0, .int 1, .ref q93, .int 0, .ref q94, .null, .ref q95, .null, .ref q96, .ref q97, .ref q98, .ref q99, .ref q100, .int 1, .ref q101, .ref q102, .ref q103, .ref q104, .ref q105, .int 0, .int 0]))]) [0] rfl
  have hDc := hD.sub (ws' := [(q86, .inr (15, [.ref q87, .ref q88, .ref q89, .ref q90, .ref q91, .ref q92, .int 0, .int 1, .ref q93, .int 0, .ref q94, .null, .ref q95, .null, .ref q96, .ref q97, .ref q98, .ref q99, .ref q100, .int 1, .ref q101, .ref q102, .ref q103, .ref q104, .ref q105, .int 0, .int 0]))]) [0] (by decide) rfl
  have hKc := hK.sub (tys' := []) [] rfl
  have hFc := va_free (wc := [(q86, .inr (15, [.ref q87, .ref q88, .ref q89, .ref q90, .ref q91, .ref q92, .int 0, .int 1, .ref q93, .int 0, .ref q94, .null, .ref q95, .null, .ref q96, .ref q97, .ref q98, .ref q99, .ref q100, .int 1, .ref q101, .ref q102, .ref q103, .ref q104, .ref q105, .int 0, .int 0]))]) hD hS hA [0] rfl
  refine va_calli (va_runV (As := []) (rest := []) ⟨hx, hb, hml, hown, hts⟩ (c_X13_thrown l dC dI q86 q87 q88 q89 q90 q91 q92 q93 q94 q95 q96 q97 q98 q99 q100 q101 q102 q103 q104 q105 H.size  ) (cwV 0 hts gL_law_X13_thrown rfl rfl rfl (by decide +kernel) ⟨Nat.le_of_ble_eq_true rfl, Nat.le_of_ble_eq_true rfl⟩) ⟨zB_blind, va_recv hK hP (ci := 15) (q0 := 0) rfl rfl, (zPre hPc hDc hKc hS hFc hZ hN)⟩ rfl rfl hl.1 rfl (lv_room (Nat.le_of_ble_eq_true rfl)) dL_law_2017 ⟨Nat.le_of_ble_eq_true rfl, Nat.le_of_ble_eq_true rfl⟩) hS (fun q _ h => hFc q h) hFc (fun r u t H1 locs ht hvm hw hB hz1 hk1 hS => ?_)
  subst hw
  obtain ⟨hP1, hK1, hD1⟩ := hB
  rw [ht] at hP1
  have hK1 := va_K.moved hvm.symm hK1
  obtain ⟨hP, hD⟩ := va_join (wr := []) (w1 := []) hP hD [0] [] rfl rfl (by decide) (by decide) hk1 hFc hP1 hD1
  have hK := (hK.sub (tys' := []) [] rfl).app hK1
  generalize H1 = H at hP hS ⊢
  have hP : va_P (dC, dI) vwCl [] H := hP
  have hD : va_D (fun q : Nat => s.heap.size ≤ q) [] := hD
  have hK : va_K (dC, dI) vwCl [] s := hK
  refine W.widen (k := 132) (n := 6698) (Nat.le_of_ble_eq_true rfl) (Nat.le_of_ble_eq_true rfl) ?_
  refine lv_iload hx hb dL_law_2020 (lv_at hl 1 rfl) ?_
  refine lv_icmp_eq (tgt := 2027) hx hb dL_law_2022 (by decide) (fun _ => ?_) (fun h9 => absurd (show (1 : Int32) = (1 : Int32) by decide +kernel) h9)
  refine lv_iload hx hb dL_law_2027 (lv_at hl 1 rfl) ?_
  refine lv_if_ne (tgt := 2044) hx hb dL_law_2029 (by decide) (fun _ => ?_) (fun h9 => absurd h9 (show ¬ (1 : Int32) = (0 : Int32) by decide +kernel))
  refine lv_goto (tgt := 2311) hx hb dL_law_2044 (by decide) ?_
  exact law_exit C0 hS (Nat.le_of_ble_eq_true rfl) (Nat.le_of_ble_eq_true rfl) ls (lv_sub hl [2, 3, 4, 5, 6] rfl)
set_option maxHeartbeats 8000000 in
set_option maxRecDepth 100000 in
theorem law_case_37 {p : Program} {l : Launch} {e : Env} {s : State} {m : MethodId} {below : List Frame} {meth : Method} {c : Code} {b : Nat} {xs : Nat → Int32} (hfl : l.stackTraces = false) (C0 : lw_At p s m meth c b 4 xs) {dC : Nat → ClassId} {dI : Nat → Nat → Nat} {q0 q1 q3 q5 q7 q9 q11 q13 q15 q17 q21 q25 q26 q27 q2 q4 q6 q8 q10 q16 q18 q22 q23 q86 q87 q88 q89 q90 q91 q92 q93 q94 q95 q96 q97 q98 q99 q100 q101 q102 q103 q104 q105 q106 : Nat} {k2 k4 k87 k88 k89 k90 k91 k92 k93 k94 k96 k106 : ClassId} {H : Heap} {locs : List Loc} (hK : va_K (dC, dI) vwCl [(k2, .char), (k4, (.object "Seekwell$Text")), (k87, .boolean), (k88, .int), (k89, .int), (k90, .char), (k91, (.array .long)), (k92, (.array .long)), (k93, .int), (k94, .int), (k96, .boolean), (k106, .long)] s) (hP : va_P (dC, dI) vwCl [(q0, .inr (13, [.ref q1, .ref q3, .ref q5, .ref q7, .ref q9, .ref q11, .ref q13, .ref q15, .int 0, .ref q17, .ref q21, .ref q25, .ref q26, .ref q27])), (q1, .inr (7, [.ref q2, .int 0])), (q2, .inl (k2, 512, .inl (fun _ => 0))), (q3, .inr (11, [.ref q4, .int 0, .int 1])), (q4, .inl (k4, 24, .inr (.inr (.inr (.inr (fun _ => none)))))), (q5, .inr (11, [.ref q6, .int 0, .int 1])), (q7, .inr (10, [.ref q8, .int 0])), (q9, .inr (5, [.ref q10, .int 0, .int 0])), (q15, .inr (5, [.ref q16, .int 0, .int 0])), (q17, .inr (9, [.ref q18, .ref q18, .null])), (q21, .inr (9, [.ref q22, .ref q22, .null])), (q22, .inr (8, [.int 0, .int 0, .int 1, .int 0, .int 0, .int 0, .ref q23, .null, .null, .null, .null, .int 0, .int 0, .int 0, .int 0, .null, .null])), (q26, .inr (3, [.null, .null, .int 0, .int 0, .null])), (q86, .inr (15, [.ref q87, .ref q88, .ref q89, .ref q90, .ref q91, .ref q92, .int 0, .int 1, .ref q93, .int 0, .ref q94, .null, .ref q95, .null, .ref q96, .ref q97, .ref q98, .ref q99, .ref q100, .int 0, .ref q101, .ref q102, .ref q103, .ref q104, .ref q105, .int 0, .int 0])), (q87, .inl (k87, 24, .inl (fun _ => 0))), (q88, .inl (k88, 24, .inl (fun _ => 0))), (q89, .inl (k89, 24, .inl (fun _ => 0))), (q90, .inl (k90, 24, .inl (fun _ => 0))), (q91, .inl (k91, 24, .inr (.inr (.inr (.inr (fun _ => none)))))), (q92, .inl (k92, 24, .inr (.inr (.inr (.inr (fun _ => none)))))), (q93, .inl (k93, 4000, .inl (fun _ => 0))), (q94, .inl (k94, 0, .inl (fun _ => 0))), (q96, .inl (k96, 24, .inl (fun _ => 0))), (q106, .inl (k106, 1, .inr (.inl (fun _ => 0))))] H) (hD : va_D (fun q : Nat => s.heap.size ≤ q) [(q0, .inr (13, [.ref q1, .ref q3, .ref q5, .ref q7, .ref q9, .ref q11, .ref q13, .ref q15, .int 0, .ref q17, .ref q21, .ref q25, .ref q26, .ref q27])), (q1, .inr (7, [.ref q2, .int 0])), (q2, .inl (k2, 512, .inl (fun _ => 0))), (q3, .inr (11, [.ref q4, .int 0, .int 1])), (q4, .inl (k4, 24, .inr (.inr (.inr (.inr (fun _ => none)))))), (q5, .inr (11, [.ref q6, .int 0, .int 1])), (q7, .inr (10, [.ref q8, .int 0])), (q9, .inr (5, [.ref q10, .int 0, .int 0])), (q15, .inr (5, [.ref q16, .int 0, .int 0])), (q17, .inr (9, [.ref q18, .ref q18, .null])), (q21, .inr (9, [.ref q22, .ref q22, .null])), (q22, .inr (8, [.int 0, .int 0, .int 1, .int 0, .int 0, .int 0, .ref q23, .null, .null, .null, .null, .int 0, .int 0, .int 0, .int 0, .null, .null])), (q26, .inr (3, [.null, .null, .int 0, .int 0, .null])), (q86, .inr (15, [.ref q87, .ref q88, .ref q89, .ref q90, .ref q91, .ref q92, .int 0, .int 1, .ref q93, .int 0, .ref q94, .null, .ref q95, .null, .ref q96, .ref q97, .ref q98, .ref q99, .ref q100, .int 0, .ref q101, .ref q102, .ref q103, .ref q104, .ref q105, .int 0, .int 0])), (q87, .inl (k87, 24, .inl (fun _ => 0))), (q88, .inl (k88, 24, .inl (fun _ => 0))), (q89, .inl (k89, 24, .inl (fun _ => 0))), (q90, .inl (k90, 24, .inl (fun _ => 0))), (q91, .inl (k91, 24, .inr (.inr (.inr (.inr (fun _ => none)))))), (q92, .inl (k92, 24, .inr (.inr (.inr (.inr (fun _ => none)))))), (q93, .inl (k93, 4000, .inl (fun _ => 0))), (q94, .inl (k94, 0, .inl (fun _ => 0))), (q96, .inl (k96, 24, .inl (fun _ => 0))), (q106, .inl (k106, 1, .inr (.inl (fun _ => 0))))]) (hS : va_S (fun q : Nat => s.heap.size ≤ q) s.heap H locs) (hZ : zZ (fun q : Nat => s.heap.size ≤ q) s s.heap) (hN : zN s) (ls : Array Slot) (hl : lv_has ls 7 [(4, .int 0), (3, .ref q106), (2, .ref q86), (1, .ref q0), (0, .ref b)]) : W p l e room_1 s m #[Value.ref b] below meth c H locs 131 6692 (lw_Z below #[Value.ref b] s) (F0 m 2047 ls []) := by
  obtain ⟨hx, hb, hr, hml, hown, hts, hX, hbl, hlocks, hgv⟩ := id C0
  have hbA : ¬ (fun q : Nat => s.heap.size ≤ q) b := Nat.not_le.mpr hbl
  have hA : ∀ q : Nat, s.heap.size ≤ q → (fun q : Nat => s.heap.size ≤ q) q := fun _ h => h
  by_cases hb0 : (xs 1) < (0 : Int32)
  · skip
    have hc0 : (xs 1) < (0 : Int32) := hb0
    refine lv_aload_n hx hb dL_law_2047 rfl (lv_at hl 3 rfl) ?_
    refine lv_aload_n hx hb dL_law_2048 rfl (lv_at hl 4 rfl) ?_
    refine lv_iload hx hb dL_law_2049 (lv_at hl 0 rfl) ?_
    refine lv_iconst (v := 1) hx hb dL_law_2051 (by decide +kernel) ?_
    refine lv_iadd hx hb dL_law_2052 ?_
    refine zt_i (v := 1) (by decide +kernel) ?_
    refine va_sld hx hb hX hbl hbA hS (i := 1) (zin (by decide +kernel)) dL_law_2053 ?_
    refine zt_v (w := .int (xs 1)) rfl ?_
    refine lv_aload_n hx hb dL_law_2054 rfl (lv_at hl 1 rfl) ?_
    have hPc := hP.sub (ws' := [(q0, .inr (13, [.ref q1, .ref q3, .ref q5, .ref q7, .ref q9, .ref q11, .ref q13, .ref q15, .int 0, .ref q17, .ref q21, .ref q25, .ref q26, .ref q27])), (q3, .inr (11, [.ref q4, .int 0, .int 1]))]) [0, 3] rfl
    have hDc := hD.sub (ws' := [(q0, .inr (13, [.ref q1, .ref q3, .ref q5, .ref q7, .ref q9, .ref q11, .ref q13, .ref q15, .int 0, .ref q17, .ref q21, .ref q25, .ref q26, .ref q27])), (q3, .inr (11, [.ref q4, .int 0, .int 1]))]) [0, 3] (by decide) rfl
    have hKc := hK.sub (tys' := []) [] rfl
    have hFc := va_free (wc := [(q0, .inr (13, [.ref q1, .ref q3, .ref q5, .ref q7, .ref q9, .ref q11, .ref q13, .ref q15, .int 0, .ref q17, .ref q21, .ref q25, .ref q26, .ref q27])), (q3, .inr (11, [.ref q4, .int 0, .int 1]))]) hD hS hA [0, 3] rfl
    refine va_calli (vx_runSW (As := [.ref q0, .int (xs 1), .ref q106]) (rest := []) ⟨hx, hb, hml, hown, hts⟩ (c_L_news l hfl dC dI q0 q106 q1 q3 q5 q7 q9 q11 q13 q15 q17 q21 q25 q26 q27 q4 H.size (xs 1) hc0) (vx_cwSW 3 hts gL_law_L_news rfl rfl rfl (by decide +kernel) ⟨Nat.le_of_ble_eq_true rfl, Nat.le_of_ble_eq_true rfl⟩) ⟨zB_blind, (zPre hPc hDc hKc hS hFc hZ hN)⟩ rfl rfl hl.1 rfl (lv_room (Nat.le_of_ble_eq_true rfl)) dL_law_2055 ⟨Nat.le_of_ble_eq_true rfl, Nat.le_of_ble_eq_true rfl⟩) hS (fun q _ h => hFc q h) hFc (fun r u t H1 locs ht hvm hw hB hz1 hk1 hS => ?_)
    subst hw
    obtain ⟨hP1, hK1, hD1⟩ := hB
    rw [ht] at hP1
    have hK1 := va_K.moved hvm.symm hK1
    obtain ⟨hP, hD⟩ := va_join (wr := [(q86, .inr (15, [.ref q87, .ref q88, .ref q89, .ref q90, .ref q91, .ref q92, .int 0, .int 1, .ref q93, .int 0, .ref q94, .null, .ref q95, .null, .ref q96, .ref q97, .ref q98, .ref q99, .ref q100, .int 0, .ref q101, .ref q102, .ref q103, .ref q104, .ref q105, .int 0, .int 0]))]) (w1 := []) hP hD [0, 3] [13] rfl rfl (by decide) (by decide) hk1 hFc hP1 hD1
    have hK := (hK.sub (tys' := []) [] rfl).app hK1
    generalize H1 = H at hP hS ⊢
    have hP : va_P (dC, dI) vwCl [(q86, .inr (15, [.ref q87, .ref q88, .ref q89, .ref q90, .ref q91, .ref q92, .int 0, .int 1, .ref q93, .int 0, .ref q94, .null, .ref q95, .null, .ref q96, .ref q97, .ref q98, .ref q99, .ref q100, .int 0, .ref q101, .ref q102, .ref q103, .ref q104, .ref q105, .int 0, .int 0]))] H := hP
    have hD : va_D (fun q : Nat => s.heap.size ≤ q) [(q86, .inr (15, [.ref q87, .ref q88, .ref q89, .ref q90, .ref q91, .ref q92, .int 0, .int 1, .ref q93, .int 0, .ref q94, .null, .ref q95, .null, .ref q96, .ref q97, .ref q98, .ref q99, .ref q100, .int 0, .ref q101, .ref q102, .ref q103, .ref q104, .ref q105, .int 0, .int 0]))] := hD
    have hK : va_K (dC, dI) vwCl [] s := hK
    refine W.widen (k := 132) (n := 6698) (Nat.le_of_ble_eq_true rfl) (Nat.le_of_ble_eq_true rfl) ?_
    refine lv_istore (lv' := [(5, .int 1), (4, .int 0), (3, .ref q106), (2, .ref q86), (1, .ref q0), (0, .ref b)]) hx hb dL_law_2058 hl (by decide) rfl (fun ls hl => ?_)
    refine lv_aload_n hx hb dL_law_2060 rfl (lv_at hl 3 rfl) ?_
    refine lv_aload_n hx hb dL_law_2061 rfl (lv_at hl 5 rfl) ?_
    refine lv_iload hx hb dL_law_2062 (lv_at hl 1 rfl) ?_
    refine lv_iconst (v := 1) hx hb dL_law_2064 (by decide +kernel) ?_
    refine lv_iadd hx hb dL_law_2065 ?_
    refine zt_i (v := 1) (by decide +kernel) ?_
    refine va_sld hx hb hX hbl hbA hS (i := 1) (zin (by decide +kernel)) dL_law_2066 ?_
    refine zt_v (w := .int (xs 1)) rfl ?_
    have hPc := hP.sub (ws' := [(q86, .inr (15, [.ref q87, .ref q88, .ref q89, .ref q90, .ref q91, .ref q92, .int 0, .int 1, .ref q93, .int 0, .ref q94, .null, .ref q95, .null, .ref q96, .ref q97, .ref q98, .ref q99, .ref q100, .int 0, .ref q101, .ref q102, .ref q103, .ref q104, .ref q105, .int 0, .int 0]))]) [0] rfl
    have hDc := hD.sub (ws' := [(q86, .inr (15, [.ref q87, .ref q88, .ref q89, .ref q90, .ref q91, .ref q92, .int 0, .int 1, .ref q93, .int 0, .ref q94, .null, .ref q95, .null, .ref q96, .ref q97, .ref q98, .ref q99, .ref q100, .int 0, .ref q101, .ref q102, .ref q103, .ref q104, .ref q105, .int 0, .int 0]))]) [0] (by decide) rfl
    have hKc := hK.sub (tys' := []) [] rfl
    have hFc := va_free (wc := [(q86, .inr (15, [.ref q87, .ref q88, .ref q89, .ref q90, .ref q91, .ref q92, .int 0, .int 1, .ref q93, .int 0, .ref q94, .null, .ref q95, .null, .ref q96, .ref q97, .ref q98, .ref q99, .ref q100, .int 0, .ref q101, .ref q102, .ref q103, .ref q104, .ref q105, .int 0, .int 0]))]) hD hS hA [0] rfl
    refine va_calli (va_runV (As := [.int (xs 1)]) (rest := []) ⟨hx, hb, hml, hown, hts⟩ (c_X13_news l dC dI q86 q87 q88 q89 q90 q91 q92 q93 q94 q95 q96 q97 q98 q99 q100 q101 q102 q103 q104 q105 H.size (xs 1) hc0) (cwV 1 hts gL_law_X13_news rfl rfl rfl (by decide +kernel) ⟨Nat.le_of_ble_eq_true rfl, Nat.le_of_ble_eq_true rfl⟩) ⟨zB_blind, va_recv hK hP (ci := 15) (q0 := 0) rfl rfl, (zPre hPc hDc hKc hS hFc hZ hN)⟩ rfl rfl hl.1 rfl (lv_room (Nat.le_of_ble_eq_true rfl)) dL_law_2067 ⟨Nat.le_of_ble_eq_true rfl, Nat.le_of_ble_eq_true rfl⟩) hS (fun q _ h => hFc q h) hFc (fun r u t H1 locs ht hvm hw hB hz1 hk1 hS => ?_)
    subst hw
    obtain ⟨hP1, hK1, hD1⟩ := hB
    rw [ht] at hP1
    have hK1 := va_K.moved hvm.symm hK1
    obtain ⟨hP, hD⟩ := va_join (wr := []) (w1 := [(q86, .inr (15, [.ref q87, .ref q88, .ref q89, .ref q90, .ref q91, .ref q92, .int 0, .int 1, .ref q93, .int 0, .ref q94, .null, .ref q95, .null, .ref q96, .ref q97, .ref q98, .ref q99, .ref q100, .int 1, .ref q101, .ref q102, .ref q103, .ref q104, .ref q105, .int 0, .int 0]))]) hP hD [0] [] rfl rfl (by decide) (by decide) hk1 hFc hP1 hD1
    have hK := (hK.sub (tys' := []) [] rfl).app hK1
    generalize H1 = H at hP hS ⊢
    have hP : va_P (dC, dI) vwCl [(q86, .inr (15, [.ref q87, .ref q88, .ref q89, .ref q90, .ref q91, .ref q92, .int 0, .int 1, .ref q93, .int 0, .ref q94, .null, .ref q95, .null, .ref q96, .ref q97, .ref q98, .ref q99, .ref q100, .int 1, .ref q101, .ref q102, .ref q103, .ref q104, .ref q105, .int 0, .int 0]))] H := hP
    have hD : va_D (fun q : Nat => s.heap.size ≤ q) [(q86, .inr (15, [.ref q87, .ref q88, .ref q89, .ref q90, .ref q91, .ref q92, .int 0, .int 1, .ref q93, .int 0, .ref q94, .null, .ref q95, .null, .ref q96, .ref q97, .ref q98, .ref q99, .ref q100, .int 1, .ref q101, .ref q102, .ref q103, .ref q104, .ref q105, .int 0, .int 0]))] := hD
    have hK : va_K (dC, dI) vwCl [] s := hK
    refine W.widen (k := 132) (n := 6698) (Nat.le_of_ble_eq_true rfl) (Nat.le_of_ble_eq_true rfl) ?_
    refine lv_istore (lv' := [(6, .int 0), (5, .int 1), (4, .int 0), (3, .ref q106), (2, .ref q86), (1, .ref q0), (0, .ref b)]) hx hb dL_law_2070 hl (by decide) rfl (fun ls hl => ?_)
    refine lv_aload_n hx hb dL_law_2072 rfl (lv_at hl 4 rfl) ?_
    have hPc := hP.sub (ws' := [(q86, .inr (15, [.ref q87, .ref q88, .ref q89, .ref q90, .ref q91, .ref q92, .int 0, .int 1, .ref q93, .int 0, .ref q94, .null, .ref q95, .null, .ref q96, .ref q97, .ref q98, .ref q99, .ref q100, .int 1, .ref q101, .ref q102, .ref q103, .ref q104, .ref q105, .int 0, .int 0]))]) [0] rfl
    have hDc := hD.sub (ws' := [(q86, .inr (15, [.ref q87, .ref q88, .ref q89, .ref q90, .ref q91, .ref q92, .int 0, .int 1, .ref q93, .int 0, .ref q94, .null, .ref q95, .null, .ref q96, .ref q97, .ref q98, .ref q99, .ref q100, .int 1, .ref q101, .ref q102, .ref q103, .ref q104, .ref q105, .int 0, .int 0]))]) [0] (by decide) rfl
    have hKc := hK.sub (tys' := []) [] rfl
    have hFc := va_free (wc := [(q86, .inr (15, [.ref q87, .ref q88, .ref q89, .ref q90, .ref q91, .ref q92, .int 0, .int 1, .ref q93, .int 0, .ref q94, .null, .ref q95, .null, .ref q96, .ref q97, .ref q98, .ref q99, .ref q100, .int 1, .ref q101, .ref q102, .ref q103, .ref q104, .ref q105, .int 0, .int 0]))]) hD hS hA [0] rfl
    refine va_calli (va_runV (As := []) (rest := []) ⟨hx, hb, hml, hown, hts⟩ (c_X13_thrown l dC dI q86 q87 q88 q89 q90 q91 q92 q93 q94 q95 q96 q97 q98 q99 q100 q101 q102 q103 q104 q105 H.size  ) (cwV 0 hts gL_law_X13_thrown rfl rfl rfl (by decide +kernel) ⟨Nat.le_of_ble_eq_true rfl, Nat.le_of_ble_eq_true rfl⟩) ⟨zB_blind, va_recv hK hP (ci := 15) (q0 := 0) rfl rfl, (zPre hPc hDc hKc hS hFc hZ hN)⟩ rfl rfl hl.1 rfl (lv_room (Nat.le_of_ble_eq_true rfl)) dL_law_2073 ⟨Nat.le_of_ble_eq_true rfl, Nat.le_of_ble_eq_true rfl⟩) hS (fun q _ h => hFc q h) hFc (fun r u t H1 locs ht hvm hw hB hz1 hk1 hS => ?_)
    subst hw
    obtain ⟨hP1, hK1, hD1⟩ := hB
    rw [ht] at hP1
    have hK1 := va_K.moved hvm.symm hK1
    obtain ⟨hP, hD⟩ := va_join (wr := []) (w1 := []) hP hD [0] [] rfl rfl (by decide) (by decide) hk1 hFc hP1 hD1
    have hK := (hK.sub (tys' := []) [] rfl).app hK1
    generalize H1 = H at hP hS ⊢
    have hP : va_P (dC, dI) vwCl [] H := hP
    have hD : va_D (fun q : Nat => s.heap.size ≤ q) [] := hD
    have hK : va_K (dC, dI) vwCl [] s := hK
    refine W.widen (k := 132) (n := 6698) (Nat.le_of_ble_eq_true rfl) (Nat.le_of_ble_eq_true rfl) ?_
    refine lv_iload hx hb dL_law_2076 (lv_at hl 1 rfl) ?_
    refine lv_icmp_eq (tgt := 2083) hx hb dL_law_2078 (by decide) (fun _ => ?_) (fun h9 => absurd (show (1 : Int32) = (1 : Int32) by decide +kernel) h9)
    refine lv_iload hx hb dL_law_2083 (lv_at hl 1 rfl) ?_
    refine lv_if_ne (tgt := 2100) hx hb dL_law_2085 (by decide) (fun _ => ?_) (fun h9 => absurd h9 (show ¬ (1 : Int32) = (0 : Int32) by decide +kernel))
    refine lv_goto (tgt := 2311) hx hb dL_law_2100 (by decide) ?_
    exact law_exit C0 hS (Nat.le_of_ble_eq_true rfl) (Nat.le_of_ble_eq_true rfl) ls (lv_sub hl [2, 3, 4, 5, 6] rfl)
  · skip
    have hc0 : ¬ (xs 1) < (0 : Int32) := hb0
    have hc1 : (0 : Int32) ≤ (xs 1) := zd_4 hb0
    have hc2 : ((-1) : Int32) < (xs 1) := zd_3 hb0
    refine lv_aload_n hx hb dL_law_2047 rfl (lv_at hl 3 rfl) ?_
    refine lv_aload_n hx hb dL_law_2048 rfl (lv_at hl 4 rfl) ?_
    refine lv_iload hx hb dL_law_2049 (lv_at hl 0 rfl) ?_
    refine lv_iconst (v := 1) hx hb dL_law_2051 (by decide +kernel) ?_
    refine lv_iadd hx hb dL_law_2052 ?_
    refine zt_i (v := 1) (by decide +kernel) ?_
    refine va_sld hx hb hX hbl hbA hS (i := 1) (zin (by decide +kernel)) dL_law_2053 ?_
    refine zt_v (w := .int (xs 1)) rfl ?_
    refine lv_aload_n hx hb dL_law_2054 rfl (lv_at hl 1 rfl) ?_
    have hPc := hP.sub (ws' := [(q0, .inr (13, [.ref q1, .ref q3, .ref q5, .ref q7, .ref q9, .ref q11, .ref q13, .ref q15, .int 0, .ref q17, .ref q21, .ref q25, .ref q26, .ref q27])), (q3, .inr (11, [.ref q4, .int 0, .int 1]))]) [0, 3] rfl
    have hDc := hD.sub (ws' := [(q0, .inr (13, [.ref q1, .ref q3, .ref q5, .ref q7, .ref q9, .ref q11, .ref q13, .ref q15, .int 0, .ref q17, .ref q21, .ref q25, .ref q26, .ref q27])), (q3, .inr (11, [.ref q4, .int 0, .int 1]))]) [0, 3] (by decide) rfl
    have hKc := hK.sub (tys' := []) [] rfl
    have hFc := va_free (wc := [(q0, .inr (13, [.ref q1, .ref q3, .ref q5, .ref q7, .ref q9, .ref q11, .ref q13, .ref q15, .int 0, .ref q17, .ref q21, .ref q25, .ref q26, .ref q27])), (q3, .inr (11, [.ref q4, .int 0, .int 1]))]) hD hS hA [0, 3] rfl
    refine va_calli (vx_runSW (As := [.ref q0, .int (xs 1), .ref q106]) (rest := []) ⟨hx, hb, hml, hown, hts⟩ (c_L_news_2 l hfl dC dI q0 q106 q1 q3 q5 q7 q9 q11 q13 q15 q17 q21 q25 q26 q27 q4 H.size (xs 1) hc0 hc1) (vx_cwSW 3 hts gL_law_L_news rfl rfl rfl (by decide +kernel) ⟨Nat.le_of_ble_eq_true rfl, Nat.le_of_ble_eq_true rfl⟩) ⟨zB_blind, (zPre hPc hDc hKc hS hFc hZ hN)⟩ rfl rfl hl.1 rfl (lv_room (Nat.le_of_ble_eq_true rfl)) dL_law_2055 ⟨Nat.le_of_ble_eq_true rfl, Nat.le_of_ble_eq_true rfl⟩) hS (fun q _ h => hFc q h) hFc (fun r u t H1 locs ht hvm hw hB hz1 hk1 hS => ?_)
    subst hw
    obtain ⟨hP1, hK1, hD1⟩ := hB
    rw [ht] at hP1
    have hK1 := va_K.moved hvm.symm hK1
    obtain ⟨hP, hD⟩ := va_join (wr := [(q86, .inr (15, [.ref q87, .ref q88, .ref q89, .ref q90, .ref q91, .ref q92, .int 0, .int 1, .ref q93, .int 0, .ref q94, .null, .ref q95, .null, .ref q96, .ref q97, .ref q98, .ref q99, .ref q100, .int 0, .ref q101, .ref q102, .ref q103, .ref q104, .ref q105, .int 0, .int 0]))]) (w1 := []) hP hD [0, 3] [13] rfl rfl (by decide) (by decide) hk1 hFc hP1 hD1
    have hK := (hK.sub (tys' := []) [] rfl).app hK1
    generalize H1 = H at hP hS ⊢
    have hP : va_P (dC, dI) vwCl [(q86, .inr (15, [.ref q87, .ref q88, .ref q89, .ref q90, .ref q91, .ref q92, .int 0, .int 1, .ref q93, .int 0, .ref q94, .null, .ref q95, .null, .ref q96, .ref q97, .ref q98, .ref q99, .ref q100, .int 0, .ref q101, .ref q102, .ref q103, .ref q104, .ref q105, .int 0, .int 0]))] H := hP
    have hD : va_D (fun q : Nat => s.heap.size ≤ q) [(q86, .inr (15, [.ref q87, .ref q88, .ref q89, .ref q90, .ref q91, .ref q92, .int 0, .int 1, .ref q93, .int 0, .ref q94, .null, .ref q95, .null, .ref q96, .ref q97, .ref q98, .ref q99, .ref q100, .int 0, .ref q101, .ref q102, .ref q103, .ref q104, .ref q105, .int 0, .int 0]))] := hD
    have hK : va_K (dC, dI) vwCl [] s := hK
    refine W.widen (k := 132) (n := 6698) (Nat.le_of_ble_eq_true rfl) (Nat.le_of_ble_eq_true rfl) ?_
    refine lv_istore (lv' := [(5, .int 1), (4, .int 0), (3, .ref q106), (2, .ref q86), (1, .ref q0), (0, .ref b)]) hx hb dL_law_2058 hl (by decide) rfl (fun ls hl => ?_)
    refine lv_aload_n hx hb dL_law_2060 rfl (lv_at hl 3 rfl) ?_
    refine lv_aload_n hx hb dL_law_2061 rfl (lv_at hl 5 rfl) ?_
    refine lv_iload hx hb dL_law_2062 (lv_at hl 1 rfl) ?_
    refine lv_iconst (v := 1) hx hb dL_law_2064 (by decide +kernel) ?_
    refine lv_iadd hx hb dL_law_2065 ?_
    refine zt_i (v := 1) (by decide +kernel) ?_
    refine va_sld hx hb hX hbl hbA hS (i := 1) (zin (by decide +kernel)) dL_law_2066 ?_
    refine zt_v (w := .int (xs 1)) rfl ?_
    have hPc := hP.sub (ws' := [(q86, .inr (15, [.ref q87, .ref q88, .ref q89, .ref q90, .ref q91, .ref q92, .int 0, .int 1, .ref q93, .int 0, .ref q94, .null, .ref q95, .null, .ref q96, .ref q97, .ref q98, .ref q99, .ref q100, .int 0, .ref q101, .ref q102, .ref q103, .ref q104, .ref q105, .int 0, .int 0]))]) [0] rfl
    have hDc := hD.sub (ws' := [(q86, .inr (15, [.ref q87, .ref q88, .ref q89, .ref q90, .ref q91, .ref q92, .int 0, .int 1, .ref q93, .int 0, .ref q94, .null, .ref q95, .null, .ref q96, .ref q97, .ref q98, .ref q99, .ref q100, .int 0, .ref q101, .ref q102, .ref q103, .ref q104, .ref q105, .int 0, .int 0]))]) [0] (by decide) rfl
    have hKc := hK.sub (tys' := []) [] rfl
    have hFc := va_free (wc := [(q86, .inr (15, [.ref q87, .ref q88, .ref q89, .ref q90, .ref q91, .ref q92, .int 0, .int 1, .ref q93, .int 0, .ref q94, .null, .ref q95, .null, .ref q96, .ref q97, .ref q98, .ref q99, .ref q100, .int 0, .ref q101, .ref q102, .ref q103, .ref q104, .ref q105, .int 0, .int 0]))]) hD hS hA [0] rfl
    refine va_calli (va_runV (As := [.int (xs 1)]) (rest := []) ⟨hx, hb, hml, hown, hts⟩ (c_X13_news_2 l dC dI q86 q87 q88 q89 q90 q91 q92 q93 q94 q95 q96 q97 q98 q99 q100 q101 q102 q103 q104 q105 H.size (xs 1) hc0 hc2) (cwV 1 hts gL_law_X13_news rfl rfl rfl (by decide +kernel) ⟨Nat.le_of_ble_eq_true rfl, Nat.le_of_ble_eq_true rfl⟩) ⟨zB_blind, va_recv hK hP (ci := 15) (q0 := 0) rfl rfl, (zPre hPc hDc hKc hS hFc hZ hN)⟩ rfl rfl hl.1 rfl (lv_room (Nat.le_of_ble_eq_true rfl)) dL_law_2067 ⟨Nat.le_of_ble_eq_true rfl, Nat.le_of_ble_eq_true rfl⟩) hS (fun q _ h => hFc q h) hFc (fun r u t H1 locs ht hvm hw hB hz1 hk1 hS => ?_)
    subst hw
    obtain ⟨hP1, hK1, hD1⟩ := hB
    rw [ht] at hP1
    have hK1 := va_K.moved hvm.symm hK1
    obtain ⟨hP, hD⟩ := va_join (wr := []) (w1 := [(q86, .inr (15, [.ref q87, .ref q88, .ref q89, .ref q90, .ref q91, .ref q92, .int 0, .int 1, .ref q93, .int 0, .ref q94, .null, .ref q95, .null, .ref q96, .ref q97, .ref q98, .ref q99, .ref q100, .int 1, .ref q101, .ref q102, .ref q103, .ref q104, .ref q105, .int 0, .int 0]))]) hP hD [0] [] rfl rfl (by decide) (by decide) hk1 hFc hP1 hD1
    have hK := (hK.sub (tys' := []) [] rfl).app hK1
    generalize H1 = H at hP hS ⊢
    have hP : va_P (dC, dI) vwCl [(q86, .inr (15, [.ref q87, .ref q88, .ref q89, .ref q90, .ref q91, .ref q92, .int 0, .int 1, .ref q93, .int 0, .ref q94, .null, .ref q95, .null, .ref q96, .ref q97, .ref q98, .ref q99, .ref q100, .int 1, .ref q101, .ref q102, .ref q103, .ref q104, .ref q105, .int 0, .int 0]))] H := hP
    have hD : va_D (fun q : Nat => s.heap.size ≤ q) [(q86, .inr (15, [.ref q87, .ref q88, .ref q89, .ref q90, .ref q91, .ref q92, .int 0, .int 1, .ref q93, .int 0, .ref q94, .null, .ref q95, .null, .ref q96, .ref q97, .ref q98, .ref q99, .ref q100, .int 1, .ref q101, .ref q102, .ref q103, .ref q104, .ref q105, .int 0, .int 0]))] := hD
    have hK : va_K (dC, dI) vwCl [] s := hK
    refine W.widen (k := 132) (n := 6698) (Nat.le_of_ble_eq_true rfl) (Nat.le_of_ble_eq_true rfl) ?_
    refine lv_istore (lv' := [(6, .int 0), (5, .int 1), (4, .int 0), (3, .ref q106), (2, .ref q86), (1, .ref q0), (0, .ref b)]) hx hb dL_law_2070 hl (by decide) rfl (fun ls hl => ?_)
    refine lv_aload_n hx hb dL_law_2072 rfl (lv_at hl 4 rfl) ?_
    have hPc := hP.sub (ws' := [(q86, .inr (15, [.ref q87, .ref q88, .ref q89, .ref q90, .ref q91, .ref q92, .int 0, .int 1, .ref q93, .int 0, .ref q94, .null, .ref q95, .null, .ref q96, .ref q97, .ref q98, .ref q99, .ref q100, .int 1, .ref q101, .ref q102, .ref q103, .ref q104, .ref q105, .int 0, .int 0]))]) [0] rfl
    have hDc := hD.sub (ws' := [(q86, .inr (15, [.ref q87, .ref q88, .ref q89, .ref q90, .ref q91, .ref q92, .int 0, .int 1, .ref q93, .int 0, .ref q94, .null, .ref q95, .null, .ref q96, .ref q97, .ref q98, .ref q99, .ref q100, .int 1, .ref q101, .ref q102, .ref q103, .ref q104, .ref q105, .int 0, .int 0]))]) [0] (by decide) rfl
    have hKc := hK.sub (tys' := []) [] rfl
    have hFc := va_free (wc := [(q86, .inr (15, [.ref q87, .ref q88, .ref q89, .ref q90, .ref q91, .ref q92, .int 0, .int 1, .ref q93, .int 0, .ref q94, .null, .ref q95, .null, .ref q96, .ref q97, .ref q98, .ref q99, .ref q100, .int 1, .ref q101, .ref q102, .ref q103, .ref q104, .ref q105, .int 0, .int 0]))]) hD hS hA [0] rfl
    refine va_calli (va_runV (As := []) (rest := []) ⟨hx, hb, hml, hown, hts⟩ (c_X13_thrown l dC dI q86 q87 q88 q89 q90 q91 q92 q93 q94 q95 q96 q97 q98 q99 q100 q101 q102 q103 q104 q105 H.size  ) (cwV 0 hts gL_law_X13_thrown rfl rfl rfl (by decide +kernel) ⟨Nat.le_of_ble_eq_true rfl, Nat.le_of_ble_eq_true rfl⟩) ⟨zB_blind, va_recv hK hP (ci := 15) (q0 := 0) rfl rfl, (zPre hPc hDc hKc hS hFc hZ hN)⟩ rfl rfl hl.1 rfl (lv_room (Nat.le_of_ble_eq_true rfl)) dL_law_2073 ⟨Nat.le_of_ble_eq_true rfl, Nat.le_of_ble_eq_true rfl⟩) hS (fun q _ h => hFc q h) hFc (fun r u t H1 locs ht hvm hw hB hz1 hk1 hS => ?_)
    subst hw
    obtain ⟨hP1, hK1, hD1⟩ := hB
    rw [ht] at hP1
    have hK1 := va_K.moved hvm.symm hK1
    obtain ⟨hP, hD⟩ := va_join (wr := []) (w1 := []) hP hD [0] [] rfl rfl (by decide) (by decide) hk1 hFc hP1 hD1
    have hK := (hK.sub (tys' := []) [] rfl).app hK1
    generalize H1 = H at hP hS ⊢
    have hP : va_P (dC, dI) vwCl [] H := hP
    have hD : va_D (fun q : Nat => s.heap.size ≤ q) [] := hD
    have hK : va_K (dC, dI) vwCl [] s := hK
    refine W.widen (k := 132) (n := 6698) (Nat.le_of_ble_eq_true rfl) (Nat.le_of_ble_eq_true rfl) ?_
    refine lv_iload hx hb dL_law_2076 (lv_at hl 1 rfl) ?_
    refine lv_icmp_eq (tgt := 2083) hx hb dL_law_2078 (by decide) (fun _ => ?_) (fun h9 => absurd (show (1 : Int32) = (1 : Int32) by decide +kernel) h9)
    refine lv_iload hx hb dL_law_2083 (lv_at hl 1 rfl) ?_
    refine lv_if_ne (tgt := 2100) hx hb dL_law_2085 (by decide) (fun _ => ?_) (fun h9 => absurd h9 (show ¬ (1 : Int32) = (0 : Int32) by decide +kernel))
    refine lv_goto (tgt := 2311) hx hb dL_law_2100 (by decide) ?_
    exact law_exit C0 hS (Nat.le_of_ble_eq_true rfl) (Nat.le_of_ble_eq_true rfl) ls (lv_sub hl [2, 3, 4, 5, 6] rfl)
set_option maxHeartbeats 8000000 in
set_option maxRecDepth 100000 in
theorem law_case_38 {p : Program} {l : Launch} {e : Env} {s : State} {m : MethodId} {below : List Frame} {meth : Method} {c : Code} {b : Nat} {xs : Nat → Int32} (hfl : l.stackTraces = false) (C0 : lw_At p s m meth c b 4 xs) {dC : Nat → ClassId} {dI : Nat → Nat → Nat} {q0 q1 q3 q5 q7 q9 q11 q13 q15 q17 q21 q25 q26 q27 q2 q4 q6 q8 q10 q16 q18 q22 q23 q86 q87 q88 q89 q90 q91 q92 q93 q94 q95 q96 q97 q98 q99 q100 q101 q102 q103 q104 q105 q106 : Nat} {k2 k4 k87 k88 k89 k90 k91 k92 k93 k94 k96 k106 : ClassId} {H : Heap} {locs : List Loc} (hK : va_K (dC, dI) vwCl [(k2, .char), (k4, (.object "Seekwell$Text")), (k87, .boolean), (k88, .int), (k89, .int), (k90, .char), (k91, (.array .long)), (k92, (.array .long)), (k93, .int), (k94, .int), (k96, .boolean), (k106, .long)] s) (hP : va_P (dC, dI) vwCl [(q0, .inr (13, [.ref q1, .ref q3, .ref q5, .ref q7, .ref q9, .ref q11, .ref q13, .ref q15, .int 0, .ref q17, .ref q21, .ref q25, .ref q26, .ref q27])), (q1, .inr (7, [.ref q2, .int 0])), (q2, .inl (k2, 512, .inl (fun _ => 0))), (q3, .inr (11, [.ref q4, .int 0, .int 1])), (q4, .inl (k4, 24, .inr (.inr (.inr (.inr (fun _ => none)))))), (q5, .inr (11, [.ref q6, .int 0, .int 1])), (q7, .inr (10, [.ref q8, .int 0])), (q9, .inr (5, [.ref q10, .int 0, .int 0])), (q15, .inr (5, [.ref q16, .int 0, .int 0])), (q17, .inr (9, [.ref q18, .ref q18, .null])), (q21, .inr (9, [.ref q22, .ref q22, .null])), (q22, .inr (8, [.int 0, .int 0, .int 1, .int 0, .int 0, .int 0, .ref q23, .null, .null, .null, .null, .int 0, .int 0, .int 0, .int 0, .null, .null])), (q26, .inr (3, [.null, .null, .int 0, .int 0, .null])), (q86, .inr (15, [.ref q87, .ref q88, .ref q89, .ref q90, .ref q91, .ref q92, .int 0, .int 1, .ref q93, .int 0, .ref q94, .null, .ref q95, .null, .ref q96, .ref q97, .ref q98, .ref q99, .ref q100, .int 0, .ref q101, .ref q102, .ref q103, .ref q104, .ref q105, .int 0, .int 0])), (q87, .inl (k87, 24, .inl (fun _ => 0))), (q88, .inl (k88, 24, .inl (fun _ => 0))), (q89, .inl (k89, 24, .inl (fun _ => 0))), (q90, .inl (k90, 24, .inl (fun _ => 0))), (q91, .inl (k91, 24, .inr (.inr (.inr (.inr (fun _ => none)))))), (q92, .inl (k92, 24, .inr (.inr (.inr (.inr (fun _ => none)))))), (q93, .inl (k93, 4000, .inl (fun _ => 0))), (q94, .inl (k94, 0, .inl (fun _ => 0))), (q96, .inl (k96, 24, .inl (fun _ => 0))), (q106, .inl (k106, 1, .inr (.inl (fun _ => 0))))] H) (hD : va_D (fun q : Nat => s.heap.size ≤ q) [(q0, .inr (13, [.ref q1, .ref q3, .ref q5, .ref q7, .ref q9, .ref q11, .ref q13, .ref q15, .int 0, .ref q17, .ref q21, .ref q25, .ref q26, .ref q27])), (q1, .inr (7, [.ref q2, .int 0])), (q2, .inl (k2, 512, .inl (fun _ => 0))), (q3, .inr (11, [.ref q4, .int 0, .int 1])), (q4, .inl (k4, 24, .inr (.inr (.inr (.inr (fun _ => none)))))), (q5, .inr (11, [.ref q6, .int 0, .int 1])), (q7, .inr (10, [.ref q8, .int 0])), (q9, .inr (5, [.ref q10, .int 0, .int 0])), (q15, .inr (5, [.ref q16, .int 0, .int 0])), (q17, .inr (9, [.ref q18, .ref q18, .null])), (q21, .inr (9, [.ref q22, .ref q22, .null])), (q22, .inr (8, [.int 0, .int 0, .int 1, .int 0, .int 0, .int 0, .ref q23, .null, .null, .null, .null, .int 0, .int 0, .int 0, .int 0, .null, .null])), (q26, .inr (3, [.null, .null, .int 0, .int 0, .null])), (q86, .inr (15, [.ref q87, .ref q88, .ref q89, .ref q90, .ref q91, .ref q92, .int 0, .int 1, .ref q93, .int 0, .ref q94, .null, .ref q95, .null, .ref q96, .ref q97, .ref q98, .ref q99, .ref q100, .int 0, .ref q101, .ref q102, .ref q103, .ref q104, .ref q105, .int 0, .int 0])), (q87, .inl (k87, 24, .inl (fun _ => 0))), (q88, .inl (k88, 24, .inl (fun _ => 0))), (q89, .inl (k89, 24, .inl (fun _ => 0))), (q90, .inl (k90, 24, .inl (fun _ => 0))), (q91, .inl (k91, 24, .inr (.inr (.inr (.inr (fun _ => none)))))), (q92, .inl (k92, 24, .inr (.inr (.inr (.inr (fun _ => none)))))), (q93, .inl (k93, 4000, .inl (fun _ => 0))), (q94, .inl (k94, 0, .inl (fun _ => 0))), (q96, .inl (k96, 24, .inl (fun _ => 0))), (q106, .inl (k106, 1, .inr (.inl (fun _ => 0))))]) (hS : va_S (fun q : Nat => s.heap.size ≤ q) s.heap H locs) (hZ : zZ (fun q : Nat => s.heap.size ≤ q) s s.heap) (hN : zN s) (ls : Array Slot) (hl : lv_has ls 7 [(4, .int 0), (3, .ref q106), (2, .ref q86), (1, .ref q0), (0, .ref b)]) : W p l e room_1 s m #[Value.ref b] below meth c H locs 131 6692 (lw_Z below #[Value.ref b] s) (F0 m 2103 ls []) := by
  obtain ⟨hx, hb, hr, hml, hown, hts, hX, hbl, hlocks, hgv⟩ := id C0
  have hbA : ¬ (fun q : Nat => s.heap.size ≤ q) b := Nat.not_le.mpr hbl
  have hA : ∀ q : Nat, s.heap.size ≤ q → (fun q : Nat => s.heap.size ≤ q) q := fun _ h => h
  by_cases hb0 : (xs 1) < (0 : Int32)
  · skip
    have hc0 : (xs 1) < (0 : Int32) := hb0
    refine lv_aload_n hx hb dL_law_2103 rfl (lv_at hl 3 rfl) ?_
    refine lv_aload_n hx hb dL_law_2104 rfl (lv_at hl 4 rfl) ?_
    refine lv_iload hx hb dL_law_2105 (lv_at hl 0 rfl) ?_
    refine lv_iconst (v := 1) hx hb dL_law_2107 (by decide +kernel) ?_
    refine lv_iadd hx hb dL_law_2108 ?_
    refine zt_i (v := 1) (by decide +kernel) ?_
    refine va_sld hx hb hX hbl hbA hS (i := 1) (zin (by decide +kernel)) dL_law_2109 ?_
    refine zt_v (w := .int (xs 1)) rfl ?_
    refine lv_aload_n hx hb dL_law_2110 rfl (lv_at hl 4 rfl) ?_
    refine lv_iload hx hb dL_law_2111 (lv_at hl 0 rfl) ?_
    refine lv_iconst (v := 2) hx hb dL_law_2113 (by decide +kernel) ?_
    refine lv_iadd hx hb dL_law_2114 ?_
    refine zt_i (v := 2) (by decide +kernel) ?_
    refine va_sld hx hb hX hbl hbA hS (i := 2) (zin (by decide +kernel)) dL_law_2115 ?_
    refine zt_v (w := .int (xs 2)) rfl ?_
    refine lv_aload_n hx hb dL_law_2116 rfl (lv_at hl 1 rfl) ?_
    have hPc := hP.sub (ws' := [(q0, .inr (13, [.ref q1, .ref q3, .ref q5, .ref q7, .ref q9, .ref q11, .ref q13, .ref q15, .int 0, .ref q17, .ref q21, .ref q25, .ref q26, .ref q27])), (q3, .inr (11, [.ref q4, .int 0, .int 1]))]) [0, 3] rfl
    have hDc := hD.sub (ws' := [(q0, .inr (13, [.ref q1, .ref q3, .ref q5, .ref q7, .ref q9, .ref q11, .ref q13, .ref q15, .int 0, .ref q17, .ref q21, .ref q25, .ref q26, .ref q27])), (q3, .inr (11, [.ref q4, .int 0, .int 1]))]) [0, 3] (by decide) rfl
    have hKc := hK.sub (tys' := []) [] rfl
    have hFc := va_free (wc := [(q0, .inr (13, [.ref q1, .ref q3, .ref q5, .ref q7, .ref q9, .ref q11, .ref q13, .ref q15, .int 0, .ref q17, .ref q21, .ref q25, .ref q26, .ref q27])), (q3, .inr (11, [.ref q4, .int 0, .int 1]))]) hD hS hA [0, 3] rfl
    refine va_calli (vx_runSW (As := [.ref q0, .int (xs 1), .int (xs 2), .ref q106]) (rest := []) ⟨hx, hb, hml, hown, hts⟩ (c_L_likeness l hfl dC dI q0 q106 q1 q3 q5 q7 q9 q11 q13 q15 q17 q21 q25 q26 q27 q4 H.size (xs 1) (xs 2) hc0) (vx_cwSW 4 hts gL_law_L_likeness rfl rfl rfl (by decide +kernel) ⟨Nat.le_of_ble_eq_true rfl, Nat.le_of_ble_eq_true rfl⟩) ⟨zB_blind, (zPre hPc hDc hKc hS hFc hZ hN)⟩ rfl rfl hl.1 rfl (lv_room (Nat.le_of_ble_eq_true rfl)) dL_law_2117 ⟨Nat.le_of_ble_eq_true rfl, Nat.le_of_ble_eq_true rfl⟩) hS (fun q _ h => hFc q h) hFc (fun r u t H1 locs ht hvm hw hB hz1 hk1 hS => ?_)
    subst hw
    obtain ⟨hP1, hK1, hD1⟩ := hB
    rw [ht] at hP1
    have hK1 := va_K.moved hvm.symm hK1
    obtain ⟨hP, hD⟩ := va_join (wr := [(q86, .inr (15, [.ref q87, .ref q88, .ref q89, .ref q90, .ref q91, .ref q92, .int 0, .int 1, .ref q93, .int 0, .ref q94, .null, .ref q95, .null, .ref q96, .ref q97, .ref q98, .ref q99, .ref q100, .int 0, .ref q101, .ref q102, .ref q103, .ref q104, .ref q105, .int 0, .int 0]))]) (w1 := []) hP hD [0, 3] [13] rfl rfl (by decide) (by decide) hk1 hFc hP1 hD1
    have hK := (hK.sub (tys' := []) [] rfl).app hK1
    generalize H1 = H at hP hS ⊢
    have hP : va_P (dC, dI) vwCl [(q86, .inr (15, [.ref q87, .ref q88, .ref q89, .ref q90, .ref q91, .ref q92, .int 0, .int 1, .ref q93, .int 0, .ref q94, .null, .ref q95, .null, .ref q96, .ref q97, .ref q98, .ref q99, .ref q100, .int 0, .ref q101, .ref q102, .ref q103, .ref q104, .ref q105, .int 0, .int 0]))] H := hP
    have hD : va_D (fun q : Nat => s.heap.size ≤ q) [(q86, .inr (15, [.ref q87, .ref q88, .ref q89, .ref q90, .ref q91, .ref q92, .int 0, .int 1, .ref q93, .int 0, .ref q94, .null, .ref q95, .null, .ref q96, .ref q97, .ref q98, .ref q99, .ref q100, .int 0, .ref q101, .ref q102, .ref q103, .ref q104, .ref q105, .int 0, .int 0]))] := hD
    have hK : va_K (dC, dI) vwCl [] s := hK
    refine W.widen (k := 132) (n := 6698) (Nat.le_of_ble_eq_true rfl) (Nat.le_of_ble_eq_true rfl) ?_
    refine lv_istore (lv' := [(5, .int 1), (4, .int 0), (3, .ref q106), (2, .ref q86), (1, .ref q0), (0, .ref b)]) hx hb dL_law_2120 hl (by decide) rfl (fun ls hl => ?_)
    refine lv_aload_n hx hb dL_law_2122 rfl (lv_at hl 3 rfl) ?_
    refine lv_aload_n hx hb dL_law_2123 rfl (lv_at hl 5 rfl) ?_
    refine lv_iload hx hb dL_law_2124 (lv_at hl 1 rfl) ?_
    refine lv_iconst (v := 1) hx hb dL_law_2126 (by decide +kernel) ?_
    refine lv_iadd hx hb dL_law_2127 ?_
    refine zt_i (v := 1) (by decide +kernel) ?_
    refine va_sld hx hb hX hbl hbA hS (i := 1) (zin (by decide +kernel)) dL_law_2128 ?_
    refine zt_v (w := .int (xs 1)) rfl ?_
    refine lv_aload_n hx hb dL_law_2129 rfl (lv_at hl 5 rfl) ?_
    refine lv_iload hx hb dL_law_2130 (lv_at hl 1 rfl) ?_
    refine lv_iconst (v := 2) hx hb dL_law_2132 (by decide +kernel) ?_
    refine lv_iadd hx hb dL_law_2133 ?_
    refine zt_i (v := 2) (by decide +kernel) ?_
    refine va_sld hx hb hX hbl hbA hS (i := 2) (zin (by decide +kernel)) dL_law_2134 ?_
    refine zt_v (w := .int (xs 2)) rfl ?_
    have hPc := hP.sub (ws' := [(q86, .inr (15, [.ref q87, .ref q88, .ref q89, .ref q90, .ref q91, .ref q92, .int 0, .int 1, .ref q93, .int 0, .ref q94, .null, .ref q95, .null, .ref q96, .ref q97, .ref q98, .ref q99, .ref q100, .int 0, .ref q101, .ref q102, .ref q103, .ref q104, .ref q105, .int 0, .int 0]))]) [0] rfl
    have hDc := hD.sub (ws' := [(q86, .inr (15, [.ref q87, .ref q88, .ref q89, .ref q90, .ref q91, .ref q92, .int 0, .int 1, .ref q93, .int 0, .ref q94, .null, .ref q95, .null, .ref q96, .ref q97, .ref q98, .ref q99, .ref q100, .int 0, .ref q101, .ref q102, .ref q103, .ref q104, .ref q105, .int 0, .int 0]))]) [0] (by decide) rfl
    have hKc := hK.sub (tys' := []) [] rfl
    have hFc := va_free (wc := [(q86, .inr (15, [.ref q87, .ref q88, .ref q89, .ref q90, .ref q91, .ref q92, .int 0, .int 1, .ref q93, .int 0, .ref q94, .null, .ref q95, .null, .ref q96, .ref q97, .ref q98, .ref q99, .ref q100, .int 0, .ref q101, .ref q102, .ref q103, .ref q104, .ref q105, .int 0, .int 0]))]) hD hS hA [0] rfl
    refine va_calli (va_runV (As := [.int (xs 1), .int (xs 2)]) (rest := []) ⟨hx, hb, hml, hown, hts⟩ (c_X13_likeness l dC dI q86 q87 q88 q89 q90 q91 q92 q93 q94 q95 q96 q97 q98 q99 q100 q101 q102 q103 q104 q105 H.size (xs 1) (xs 2) hc0) (cwV 2 hts gL_law_X13_likeness rfl rfl rfl (by decide +kernel) ⟨Nat.le_of_ble_eq_true rfl, Nat.le_of_ble_eq_true rfl⟩) ⟨zB_blind, va_recv hK hP (ci := 15) (q0 := 0) rfl rfl, (zPre hPc hDc hKc hS hFc hZ hN)⟩ rfl rfl hl.1 rfl (lv_room (Nat.le_of_ble_eq_true rfl)) dL_law_2135 ⟨Nat.le_of_ble_eq_true rfl, Nat.le_of_ble_eq_true rfl⟩) hS (fun q _ h => hFc q h) hFc (fun r u t H1 locs ht hvm hw hB hz1 hk1 hS => ?_)
    subst hw
    obtain ⟨hP1, hK1, hD1⟩ := hB
    rw [ht] at hP1
    have hK1 := va_K.moved hvm.symm hK1
    obtain ⟨hP, hD⟩ := va_join (wr := []) (w1 := [(q86, .inr (15, [.ref q87, .ref q88, .ref q89, .ref q90, .ref q91, .ref q92, .int 0, .int 1, .ref q93, .int 0, .ref q94, .null, .ref q95, .null, .ref q96, .ref q97, .ref q98, .ref q99, .ref q100, .int 1, .ref q101, .ref q102, .ref q103, .ref q104, .ref q105, .int 0, .int 0]))]) hP hD [0] [] rfl rfl (by decide) (by decide) hk1 hFc hP1 hD1
    have hK := (hK.sub (tys' := []) [] rfl).app hK1
    generalize H1 = H at hP hS ⊢
    have hP : va_P (dC, dI) vwCl [(q86, .inr (15, [.ref q87, .ref q88, .ref q89, .ref q90, .ref q91, .ref q92, .int 0, .int 1, .ref q93, .int 0, .ref q94, .null, .ref q95, .null, .ref q96, .ref q97, .ref q98, .ref q99, .ref q100, .int 1, .ref q101, .ref q102, .ref q103, .ref q104, .ref q105, .int 0, .int 0]))] H := hP
    have hD : va_D (fun q : Nat => s.heap.size ≤ q) [(q86, .inr (15, [.ref q87, .ref q88, .ref q89, .ref q90, .ref q91, .ref q92, .int 0, .int 1, .ref q93, .int 0, .ref q94, .null, .ref q95, .null, .ref q96, .ref q97, .ref q98, .ref q99, .ref q100, .int 1, .ref q101, .ref q102, .ref q103, .ref q104, .ref q105, .int 0, .int 0]))] := hD
    have hK : va_K (dC, dI) vwCl [] s := hK
    refine W.widen (k := 132) (n := 6698) (Nat.le_of_ble_eq_true rfl) (Nat.le_of_ble_eq_true rfl) ?_
    refine lv_istore (lv' := [(6, .int 0), (5, .int 1), (4, .int 0), (3, .ref q106), (2, .ref q86), (1, .ref q0), (0, .ref b)]) hx hb dL_law_2138 hl (by decide) rfl (fun ls hl => ?_)
    refine lv_aload_n hx hb dL_law_2140 rfl (lv_at hl 4 rfl) ?_
    have hPc := hP.sub (ws' := [(q86, .inr (15, [.ref q87, .ref q88, .ref q89, .ref q90, .ref q91, .ref q92, .int 0, .int 1, .ref q93, .int 0, .ref q94, .null, .ref q95, .null, .ref q96, .ref q97, .ref q98, .ref q99, .ref q100, .int 1, .ref q101, .ref q102, .ref q103, .ref q104, .ref q105, .int 0, .int 0]))]) [0] rfl
    have hDc := hD.sub (ws' := [(q86, .inr (15, [.ref q87, .ref q88, .ref q89, .ref q90, .ref q91, .ref q92, .int 0, .int 1, .ref q93, .int 0, .ref q94, .null, .ref q95, .null, .ref q96, .ref q97, .ref q98, .ref q99, .ref q100, .int 1, .ref q101, .ref q102, .ref q103, .ref q104, .ref q105, .int 0, .int 0]))]) [0] (by decide) rfl
    have hKc := hK.sub (tys' := []) [] rfl
    have hFc := va_free (wc := [(q86, .inr (15, [.ref q87, .ref q88, .ref q89, .ref q90, .ref q91, .ref q92, .int 0, .int 1, .ref q93, .int 0, .ref q94, .null, .ref q95, .null, .ref q96, .ref q97, .ref q98, .ref q99, .ref q100, .int 1, .ref q101, .ref q102, .ref q103, .ref q104, .ref q105, .int 0, .int 0]))]) hD hS hA [0] rfl
    refine va_calli (va_runV (As := []) (rest := []) ⟨hx, hb, hml, hown, hts⟩ (c_X13_thrown l dC dI q86 q87 q88 q89 q90 q91 q92 q93 q94 q95 q96 q97 q98 q99 q100 q101 q102 q103 q104 q105 H.size  ) (cwV 0 hts gL_law_X13_thrown rfl rfl rfl (by decide +kernel) ⟨Nat.le_of_ble_eq_true rfl, Nat.le_of_ble_eq_true rfl⟩) ⟨zB_blind, va_recv hK hP (ci := 15) (q0 := 0) rfl rfl, (zPre hPc hDc hKc hS hFc hZ hN)⟩ rfl rfl hl.1 rfl (lv_room (Nat.le_of_ble_eq_true rfl)) dL_law_2141 ⟨Nat.le_of_ble_eq_true rfl, Nat.le_of_ble_eq_true rfl⟩) hS (fun q _ h => hFc q h) hFc (fun r u t H1 locs ht hvm hw hB hz1 hk1 hS => ?_)
    subst hw
    obtain ⟨hP1, hK1, hD1⟩ := hB
    rw [ht] at hP1
    have hK1 := va_K.moved hvm.symm hK1
    obtain ⟨hP, hD⟩ := va_join (wr := []) (w1 := []) hP hD [0] [] rfl rfl (by decide) (by decide) hk1 hFc hP1 hD1
    have hK := (hK.sub (tys' := []) [] rfl).app hK1
    generalize H1 = H at hP hS ⊢
    have hP : va_P (dC, dI) vwCl [] H := hP
    have hD : va_D (fun q : Nat => s.heap.size ≤ q) [] := hD
    have hK : va_K (dC, dI) vwCl [] s := hK
    refine W.widen (k := 132) (n := 6698) (Nat.le_of_ble_eq_true rfl) (Nat.le_of_ble_eq_true rfl) ?_
    refine lv_iload hx hb dL_law_2144 (lv_at hl 1 rfl) ?_
    refine lv_icmp_eq (tgt := 2151) hx hb dL_law_2146 (by decide) (fun _ => ?_) (fun h9 => absurd (show (1 : Int32) = (1 : Int32) by decide +kernel) h9)
    refine lv_iload hx hb dL_law_2151 (lv_at hl 1 rfl) ?_
    refine lv_if_ne (tgt := 2168) hx hb dL_law_2153 (by decide) (fun _ => ?_) (fun h9 => absurd h9 (show ¬ (1 : Int32) = (0 : Int32) by decide +kernel))
    refine lv_goto (tgt := 2311) hx hb dL_law_2168 (by decide) ?_
    exact law_exit C0 hS (Nat.le_of_ble_eq_true rfl) (Nat.le_of_ble_eq_true rfl) ls (lv_sub hl [2, 3, 4, 5, 6] rfl)
  · skip
    have hc0 : ¬ (xs 1) < (0 : Int32) := hb0
    have hc1 : (0 : Int32) ≤ (xs 1) := zd_4 hb0
    have hc2 : ((-1) : Int32) < (xs 1) := zd_3 hb0
    refine lv_aload_n hx hb dL_law_2103 rfl (lv_at hl 3 rfl) ?_
    refine lv_aload_n hx hb dL_law_2104 rfl (lv_at hl 4 rfl) ?_
    refine lv_iload hx hb dL_law_2105 (lv_at hl 0 rfl) ?_
    refine lv_iconst (v := 1) hx hb dL_law_2107 (by decide +kernel) ?_
    refine lv_iadd hx hb dL_law_2108 ?_
    refine zt_i (v := 1) (by decide +kernel) ?_
    refine va_sld hx hb hX hbl hbA hS (i := 1) (zin (by decide +kernel)) dL_law_2109 ?_
    refine zt_v (w := .int (xs 1)) rfl ?_
    refine lv_aload_n hx hb dL_law_2110 rfl (lv_at hl 4 rfl) ?_
    refine lv_iload hx hb dL_law_2111 (lv_at hl 0 rfl) ?_
    refine lv_iconst (v := 2) hx hb dL_law_2113 (by decide +kernel) ?_
    refine lv_iadd hx hb dL_law_2114 ?_
    refine zt_i (v := 2) (by decide +kernel) ?_
    refine va_sld hx hb hX hbl hbA hS (i := 2) (zin (by decide +kernel)) dL_law_2115 ?_
    refine zt_v (w := .int (xs 2)) rfl ?_
    refine lv_aload_n hx hb dL_law_2116 rfl (lv_at hl 1 rfl) ?_
    have hPc := hP.sub (ws' := [(q0, .inr (13, [.ref q1, .ref q3, .ref q5, .ref q7, .ref q9, .ref q11, .ref q13, .ref q15, .int 0, .ref q17, .ref q21, .ref q25, .ref q26, .ref q27])), (q3, .inr (11, [.ref q4, .int 0, .int 1]))]) [0, 3] rfl
    have hDc := hD.sub (ws' := [(q0, .inr (13, [.ref q1, .ref q3, .ref q5, .ref q7, .ref q9, .ref q11, .ref q13, .ref q15, .int 0, .ref q17, .ref q21, .ref q25, .ref q26, .ref q27])), (q3, .inr (11, [.ref q4, .int 0, .int 1]))]) [0, 3] (by decide) rfl
    have hKc := hK.sub (tys' := []) [] rfl
    have hFc := va_free (wc := [(q0, .inr (13, [.ref q1, .ref q3, .ref q5, .ref q7, .ref q9, .ref q11, .ref q13, .ref q15, .int 0, .ref q17, .ref q21, .ref q25, .ref q26, .ref q27])), (q3, .inr (11, [.ref q4, .int 0, .int 1]))]) hD hS hA [0, 3] rfl
    refine va_calli (vx_runSW (As := [.ref q0, .int (xs 1), .int (xs 2), .ref q106]) (rest := []) ⟨hx, hb, hml, hown, hts⟩ (c_L_likeness_2 l hfl dC dI q0 q106 q1 q3 q5 q7 q9 q11 q13 q15 q17 q21 q25 q26 q27 q4 H.size (xs 1) (xs 2) hc0 hc1) (vx_cwSW 4 hts gL_law_L_likeness rfl rfl rfl (by decide +kernel) ⟨Nat.le_of_ble_eq_true rfl, Nat.le_of_ble_eq_true rfl⟩) ⟨zB_blind, (zPre hPc hDc hKc hS hFc hZ hN)⟩ rfl rfl hl.1 rfl (lv_room (Nat.le_of_ble_eq_true rfl)) dL_law_2117 ⟨Nat.le_of_ble_eq_true rfl, Nat.le_of_ble_eq_true rfl⟩) hS (fun q _ h => hFc q h) hFc (fun r u t H1 locs ht hvm hw hB hz1 hk1 hS => ?_)
    subst hw
    obtain ⟨hP1, hK1, hD1⟩ := hB
    rw [ht] at hP1
    have hK1 := va_K.moved hvm.symm hK1
    obtain ⟨hP, hD⟩ := va_join (wr := [(q86, .inr (15, [.ref q87, .ref q88, .ref q89, .ref q90, .ref q91, .ref q92, .int 0, .int 1, .ref q93, .int 0, .ref q94, .null, .ref q95, .null, .ref q96, .ref q97, .ref q98, .ref q99, .ref q100, .int 0, .ref q101, .ref q102, .ref q103, .ref q104, .ref q105, .int 0, .int 0]))]) (w1 := []) hP hD [0, 3] [13] rfl rfl (by decide) (by decide) hk1 hFc hP1 hD1
    have hK := (hK.sub (tys' := []) [] rfl).app hK1
    generalize H1 = H at hP hS ⊢
    have hP : va_P (dC, dI) vwCl [(q86, .inr (15, [.ref q87, .ref q88, .ref q89, .ref q90, .ref q91, .ref q92, .int 0, .int 1, .ref q93, .int 0, .ref q94, .null, .ref q95, .null, .ref q96, .ref q97, .ref q98, .ref q99, .ref q100, .int 0, .ref q101, .ref q102, .ref q103, .ref q104, .ref q105, .int 0, .int 0]))] H := hP
    have hD : va_D (fun q : Nat => s.heap.size ≤ q) [(q86, .inr (15, [.ref q87, .ref q88, .ref q89, .ref q90, .ref q91, .ref q92, .int 0, .int 1, .ref q93, .int 0, .ref q94, .null, .ref q95, .null, .ref q96, .ref q97, .ref q98, .ref q99, .ref q100, .int 0, .ref q101, .ref q102, .ref q103, .ref q104, .ref q105, .int 0, .int 0]))] := hD
    have hK : va_K (dC, dI) vwCl [] s := hK
    refine W.widen (k := 132) (n := 6698) (Nat.le_of_ble_eq_true rfl) (Nat.le_of_ble_eq_true rfl) ?_
    refine lv_istore (lv' := [(5, .int 1), (4, .int 0), (3, .ref q106), (2, .ref q86), (1, .ref q0), (0, .ref b)]) hx hb dL_law_2120 hl (by decide) rfl (fun ls hl => ?_)
    refine lv_aload_n hx hb dL_law_2122 rfl (lv_at hl 3 rfl) ?_
    refine lv_aload_n hx hb dL_law_2123 rfl (lv_at hl 5 rfl) ?_
    refine lv_iload hx hb dL_law_2124 (lv_at hl 1 rfl) ?_
    refine lv_iconst (v := 1) hx hb dL_law_2126 (by decide +kernel) ?_
    refine lv_iadd hx hb dL_law_2127 ?_
    refine zt_i (v := 1) (by decide +kernel) ?_
    refine va_sld hx hb hX hbl hbA hS (i := 1) (zin (by decide +kernel)) dL_law_2128 ?_
    refine zt_v (w := .int (xs 1)) rfl ?_
    refine lv_aload_n hx hb dL_law_2129 rfl (lv_at hl 5 rfl) ?_
    refine lv_iload hx hb dL_law_2130 (lv_at hl 1 rfl) ?_
    refine lv_iconst (v := 2) hx hb dL_law_2132 (by decide +kernel) ?_
    refine lv_iadd hx hb dL_law_2133 ?_
    refine zt_i (v := 2) (by decide +kernel) ?_
    refine va_sld hx hb hX hbl hbA hS (i := 2) (zin (by decide +kernel)) dL_law_2134 ?_
    refine zt_v (w := .int (xs 2)) rfl ?_
    have hPc := hP.sub (ws' := [(q86, .inr (15, [.ref q87, .ref q88, .ref q89, .ref q90, .ref q91, .ref q92, .int 0, .int 1, .ref q93, .int 0, .ref q94, .null, .ref q95, .null, .ref q96, .ref q97, .ref q98, .ref q99, .ref q100, .int 0, .ref q101, .ref q102, .ref q103, .ref q104, .ref q105, .int 0, .int 0]))]) [0] rfl
    have hDc := hD.sub (ws' := [(q86, .inr (15, [.ref q87, .ref q88, .ref q89, .ref q90, .ref q91, .ref q92, .int 0, .int 1, .ref q93, .int 0, .ref q94, .null, .ref q95, .null, .ref q96, .ref q97, .ref q98, .ref q99, .ref q100, .int 0, .ref q101, .ref q102, .ref q103, .ref q104, .ref q105, .int 0, .int 0]))]) [0] (by decide) rfl
    have hKc := hK.sub (tys' := []) [] rfl
    have hFc := va_free (wc := [(q86, .inr (15, [.ref q87, .ref q88, .ref q89, .ref q90, .ref q91, .ref q92, .int 0, .int 1, .ref q93, .int 0, .ref q94, .null, .ref q95, .null, .ref q96, .ref q97, .ref q98, .ref q99, .ref q100, .int 0, .ref q101, .ref q102, .ref q103, .ref q104, .ref q105, .int 0, .int 0]))]) hD hS hA [0] rfl
    refine va_calli (va_runV (As := [.int (xs 1), .int (xs 2)]) (rest := []) ⟨hx, hb, hml, hown, hts⟩ (c_X13_likeness_2 l dC dI q86 q87 q88 q89 q90 q91 q92 q93 q94 q95 q96 q97 q98 q99 q100 q101 q102 q103 q104 q105 H.size (xs 1) (xs 2) hc0 hc2) (cwV 2 hts gL_law_X13_likeness rfl rfl rfl (by decide +kernel) ⟨Nat.le_of_ble_eq_true rfl, Nat.le_of_ble_eq_true rfl⟩) ⟨zB_blind, va_recv hK hP (ci := 15) (q0 := 0) rfl rfl, (zPre hPc hDc hKc hS hFc hZ hN)⟩ rfl rfl hl.1 rfl (lv_room (Nat.le_of_ble_eq_true rfl)) dL_law_2135 ⟨Nat.le_of_ble_eq_true rfl, Nat.le_of_ble_eq_true rfl⟩) hS (fun q _ h => hFc q h) hFc (fun r u t H1 locs ht hvm hw hB hz1 hk1 hS => ?_)
    subst hw
    obtain ⟨hP1, hK1, hD1⟩ := hB
    rw [ht] at hP1
    have hK1 := va_K.moved hvm.symm hK1
    obtain ⟨hP, hD⟩ := va_join (wr := []) (w1 := [(q86, .inr (15, [.ref q87, .ref q88, .ref q89, .ref q90, .ref q91, .ref q92, .int 0, .int 1, .ref q93, .int 0, .ref q94, .null, .ref q95, .null, .ref q96, .ref q97, .ref q98, .ref q99, .ref q100, .int 1, .ref q101, .ref q102, .ref q103, .ref q104, .ref q105, .int 0, .int 0]))]) hP hD [0] [] rfl rfl (by decide) (by decide) hk1 hFc hP1 hD1
    have hK := (hK.sub (tys' := []) [] rfl).app hK1
    generalize H1 = H at hP hS ⊢
    have hP : va_P (dC, dI) vwCl [(q86, .inr (15, [.ref q87, .ref q88, .ref q89, .ref q90, .ref q91, .ref q92, .int 0, .int 1, .ref q93, .int 0, .ref q94, .null, .ref q95, .null, .ref q96, .ref q97, .ref q98, .ref q99, .ref q100, .int 1, .ref q101, .ref q102, .ref q103, .ref q104, .ref q105, .int 0, .int 0]))] H := hP
    have hD : va_D (fun q : Nat => s.heap.size ≤ q) [(q86, .inr (15, [.ref q87, .ref q88, .ref q89, .ref q90, .ref q91, .ref q92, .int 0, .int 1, .ref q93, .int 0, .ref q94, .null, .ref q95, .null, .ref q96, .ref q97, .ref q98, .ref q99, .ref q100, .int 1, .ref q101, .ref q102, .ref q103, .ref q104, .ref q105, .int 0, .int 0]))] := hD
    have hK : va_K (dC, dI) vwCl [] s := hK
    refine W.widen (k := 132) (n := 6698) (Nat.le_of_ble_eq_true rfl) (Nat.le_of_ble_eq_true rfl) ?_
    refine lv_istore (lv' := [(6, .int 0), (5, .int 1), (4, .int 0), (3, .ref q106), (2, .ref q86), (1, .ref q0), (0, .ref b)]) hx hb dL_law_2138 hl (by decide) rfl (fun ls hl => ?_)
    refine lv_aload_n hx hb dL_law_2140 rfl (lv_at hl 4 rfl) ?_
    have hPc := hP.sub (ws' := [(q86, .inr (15, [.ref q87, .ref q88, .ref q89, .ref q90, .ref q91, .ref q92, .int 0, .int 1, .ref q93, .int 0, .ref q94, .null, .ref q95, .null, .ref q96, .ref q97, .ref q98, .ref q99, .ref q100, .int 1, .ref q101, .ref q102, .ref q103, .ref q104, .ref q105, .int 0, .int 0]))]) [0] rfl
    have hDc := hD.sub (ws' := [(q86, .inr (15, [.ref q87, .ref q88, .ref q89, .ref q90, .ref q91, .ref q92, .int 0, .int 1, .ref q93, .int 0, .ref q94, .null, .ref q95, .null, .ref q96, .ref q97, .ref q98, .ref q99, .ref q100, .int 1, .ref q101, .ref q102, .ref q103, .ref q104, .ref q105, .int 0, .int 0]))]) [0] (by decide) rfl
    have hKc := hK.sub (tys' := []) [] rfl
    have hFc := va_free (wc := [(q86, .inr (15, [.ref q87, .ref q88, .ref q89, .ref q90, .ref q91, .ref q92, .int 0, .int 1, .ref q93, .int 0, .ref q94, .null, .ref q95, .null, .ref q96, .ref q97, .ref q98, .ref q99, .ref q100, .int 1, .ref q101, .ref q102, .ref q103, .ref q104, .ref q105, .int 0, .int 0]))]) hD hS hA [0] rfl
    refine va_calli (va_runV (As := []) (rest := []) ⟨hx, hb, hml, hown, hts⟩ (c_X13_thrown l dC dI q86 q87 q88 q89 q90 q91 q92 q93 q94 q95 q96 q97 q98 q99 q100 q101 q102 q103 q104 q105 H.size  ) (cwV 0 hts gL_law_X13_thrown rfl rfl rfl (by decide +kernel) ⟨Nat.le_of_ble_eq_true rfl, Nat.le_of_ble_eq_true rfl⟩) ⟨zB_blind, va_recv hK hP (ci := 15) (q0 := 0) rfl rfl, (zPre hPc hDc hKc hS hFc hZ hN)⟩ rfl rfl hl.1 rfl (lv_room (Nat.le_of_ble_eq_true rfl)) dL_law_2141 ⟨Nat.le_of_ble_eq_true rfl, Nat.le_of_ble_eq_true rfl⟩) hS (fun q _ h => hFc q h) hFc (fun r u t H1 locs ht hvm hw hB hz1 hk1 hS => ?_)
    subst hw
    obtain ⟨hP1, hK1, hD1⟩ := hB
    rw [ht] at hP1
    have hK1 := va_K.moved hvm.symm hK1
    obtain ⟨hP, hD⟩ := va_join (wr := []) (w1 := []) hP hD [0] [] rfl rfl (by decide) (by decide) hk1 hFc hP1 hD1
    have hK := (hK.sub (tys' := []) [] rfl).app hK1
    generalize H1 = H at hP hS ⊢
    have hP : va_P (dC, dI) vwCl [] H := hP
    have hD : va_D (fun q : Nat => s.heap.size ≤ q) [] := hD
    have hK : va_K (dC, dI) vwCl [] s := hK
    refine W.widen (k := 132) (n := 6698) (Nat.le_of_ble_eq_true rfl) (Nat.le_of_ble_eq_true rfl) ?_
    refine lv_iload hx hb dL_law_2144 (lv_at hl 1 rfl) ?_
    refine lv_icmp_eq (tgt := 2151) hx hb dL_law_2146 (by decide) (fun _ => ?_) (fun h9 => absurd (show (1 : Int32) = (1 : Int32) by decide +kernel) h9)
    refine lv_iload hx hb dL_law_2151 (lv_at hl 1 rfl) ?_
    refine lv_if_ne (tgt := 2168) hx hb dL_law_2153 (by decide) (fun _ => ?_) (fun h9 => absurd h9 (show ¬ (1 : Int32) = (0 : Int32) by decide +kernel))
    refine lv_goto (tgt := 2311) hx hb dL_law_2168 (by decide) ?_
    exact law_exit C0 hS (Nat.le_of_ble_eq_true rfl) (Nat.le_of_ble_eq_true rfl) ls (lv_sub hl [2, 3, 4, 5, 6] rfl)
set_option maxHeartbeats 8000000 in
set_option maxRecDepth 100000 in
theorem law_case_39 {p : Program} {l : Launch} {e : Env} {s : State} {m : MethodId} {below : List Frame} {meth : Method} {c : Code} {b : Nat} {xs : Nat → Int32} (hfl : l.stackTraces = false) (C0 : lw_At p s m meth c b 4 xs) {dC : Nat → ClassId} {dI : Nat → Nat → Nat} {q0 q1 q3 q5 q7 q9 q11 q13 q15 q17 q21 q25 q26 q27 q2 q4 q6 q8 q10 q16 q18 q22 q23 q86 q87 q88 q89 q90 q91 q92 q93 q94 q95 q96 q97 q98 q99 q100 q101 q102 q103 q104 q105 q106 : Nat} {k2 k4 k87 k88 k89 k90 k91 k92 k93 k94 k96 k106 : ClassId} {H : Heap} {locs : List Loc} (hK : va_K (dC, dI) vwCl [(k2, .char), (k4, (.object "Seekwell$Text")), (k87, .boolean), (k88, .int), (k89, .int), (k90, .char), (k91, (.array .long)), (k92, (.array .long)), (k93, .int), (k94, .int), (k96, .boolean), (k106, .long)] s) (hP : va_P (dC, dI) vwCl [(q0, .inr (13, [.ref q1, .ref q3, .ref q5, .ref q7, .ref q9, .ref q11, .ref q13, .ref q15, .int 0, .ref q17, .ref q21, .ref q25, .ref q26, .ref q27])), (q1, .inr (7, [.ref q2, .int 0])), (q2, .inl (k2, 512, .inl (fun _ => 0))), (q3, .inr (11, [.ref q4, .int 0, .int 1])), (q4, .inl (k4, 24, .inr (.inr (.inr (.inr (fun _ => none)))))), (q5, .inr (11, [.ref q6, .int 0, .int 1])), (q7, .inr (10, [.ref q8, .int 0])), (q9, .inr (5, [.ref q10, .int 0, .int 0])), (q15, .inr (5, [.ref q16, .int 0, .int 0])), (q17, .inr (9, [.ref q18, .ref q18, .null])), (q21, .inr (9, [.ref q22, .ref q22, .null])), (q22, .inr (8, [.int 0, .int 0, .int 1, .int 0, .int 0, .int 0, .ref q23, .null, .null, .null, .null, .int 0, .int 0, .int 0, .int 0, .null, .null])), (q26, .inr (3, [.null, .null, .int 0, .int 0, .null])), (q86, .inr (15, [.ref q87, .ref q88, .ref q89, .ref q90, .ref q91, .ref q92, .int 0, .int 1, .ref q93, .int 0, .ref q94, .null, .ref q95, .null, .ref q96, .ref q97, .ref q98, .ref q99, .ref q100, .int 0, .ref q101, .ref q102, .ref q103, .ref q104, .ref q105, .int 0, .int 0])), (q87, .inl (k87, 24, .inl (fun _ => 0))), (q88, .inl (k88, 24, .inl (fun _ => 0))), (q89, .inl (k89, 24, .inl (fun _ => 0))), (q90, .inl (k90, 24, .inl (fun _ => 0))), (q91, .inl (k91, 24, .inr (.inr (.inr (.inr (fun _ => none)))))), (q92, .inl (k92, 24, .inr (.inr (.inr (.inr (fun _ => none)))))), (q93, .inl (k93, 4000, .inl (fun _ => 0))), (q94, .inl (k94, 0, .inl (fun _ => 0))), (q96, .inl (k96, 24, .inl (fun _ => 0))), (q106, .inl (k106, 1, .inr (.inl (fun _ => 0))))] H) (hD : va_D (fun q : Nat => s.heap.size ≤ q) [(q0, .inr (13, [.ref q1, .ref q3, .ref q5, .ref q7, .ref q9, .ref q11, .ref q13, .ref q15, .int 0, .ref q17, .ref q21, .ref q25, .ref q26, .ref q27])), (q1, .inr (7, [.ref q2, .int 0])), (q2, .inl (k2, 512, .inl (fun _ => 0))), (q3, .inr (11, [.ref q4, .int 0, .int 1])), (q4, .inl (k4, 24, .inr (.inr (.inr (.inr (fun _ => none)))))), (q5, .inr (11, [.ref q6, .int 0, .int 1])), (q7, .inr (10, [.ref q8, .int 0])), (q9, .inr (5, [.ref q10, .int 0, .int 0])), (q15, .inr (5, [.ref q16, .int 0, .int 0])), (q17, .inr (9, [.ref q18, .ref q18, .null])), (q21, .inr (9, [.ref q22, .ref q22, .null])), (q22, .inr (8, [.int 0, .int 0, .int 1, .int 0, .int 0, .int 0, .ref q23, .null, .null, .null, .null, .int 0, .int 0, .int 0, .int 0, .null, .null])), (q26, .inr (3, [.null, .null, .int 0, .int 0, .null])), (q86, .inr (15, [.ref q87, .ref q88, .ref q89, .ref q90, .ref q91, .ref q92, .int 0, .int 1, .ref q93, .int 0, .ref q94, .null, .ref q95, .null, .ref q96, .ref q97, .ref q98, .ref q99, .ref q100, .int 0, .ref q101, .ref q102, .ref q103, .ref q104, .ref q105, .int 0, .int 0])), (q87, .inl (k87, 24, .inl (fun _ => 0))), (q88, .inl (k88, 24, .inl (fun _ => 0))), (q89, .inl (k89, 24, .inl (fun _ => 0))), (q90, .inl (k90, 24, .inl (fun _ => 0))), (q91, .inl (k91, 24, .inr (.inr (.inr (.inr (fun _ => none)))))), (q92, .inl (k92, 24, .inr (.inr (.inr (.inr (fun _ => none)))))), (q93, .inl (k93, 4000, .inl (fun _ => 0))), (q94, .inl (k94, 0, .inl (fun _ => 0))), (q96, .inl (k96, 24, .inl (fun _ => 0))), (q106, .inl (k106, 1, .inr (.inl (fun _ => 0))))]) (hS : va_S (fun q : Nat => s.heap.size ≤ q) s.heap H locs) (hZ : zZ (fun q : Nat => s.heap.size ≤ q) s s.heap) (hN : zN s) (ls : Array Slot) (hl : lv_has ls 7 [(4, .int 0), (3, .ref q106), (2, .ref q86), (1, .ref q0), (0, .ref b)]) : W p l e room_1 s m #[Value.ref b] below meth c H locs 131 6692 (lw_Z below #[Value.ref b] s) (F0 m 2171 ls []) := by
  obtain ⟨hx, hb, hr, hml, hown, hts, hX, hbl, hlocks, hgv⟩ := id C0
  have hbA : ¬ (fun q : Nat => s.heap.size ≤ q) b := Nat.not_le.mpr hbl
  have hA : ∀ q : Nat, s.heap.size ≤ q → (fun q : Nat => s.heap.size ≤ q) q := fun _ h => h
  refine lv_aload_n hx hb dL_law_2171 rfl (lv_at hl 3 rfl) ?_
  have hPc := hP.sub (ws' := [(q0, .inr (13, [.ref q1, .ref q3, .ref q5, .ref q7, .ref q9, .ref q11, .ref q13, .ref q15, .int 0, .ref q17, .ref q21, .ref q25, .ref q26, .ref q27])), (q3, .inr (11, [.ref q4, .int 0, .int 1])), (q15, .inr (5, [.ref q16, .int 0, .int 0]))]) [0, 3, 8] rfl
  have hDc := hD.sub (ws' := [(q0, .inr (13, [.ref q1, .ref q3, .ref q5, .ref q7, .ref q9, .ref q11, .ref q13, .ref q15, .int 0, .ref q17, .ref q21, .ref q25, .ref q26, .ref q27])), (q3, .inr (11, [.ref q4, .int 0, .int 1])), (q15, .inr (5, [.ref q16, .int 0, .int 0]))]) [0, 3, 8] (by decide) rfl
  have hKc := hK.sub (tys' := []) [] rfl
  have hFc := va_free (wc := [(q0, .inr (13, [.ref q1, .ref q3, .ref q5, .ref q7, .ref q9, .ref q11, .ref q13, .ref q15, .int 0, .ref q17, .ref q21, .ref q25, .ref q26, .ref q27])), (q3, .inr (11, [.ref q4, .int 0, .int 1])), (q15, .inr (5, [.ref q16, .int 0, .int 0]))]) hD hS hA [0, 3, 8] rfl
  refine va_calli (va_runV (As := []) (rest := []) ⟨hx, hb, hml, hown, hts⟩ (c_X11_write l dC dI q0 q1 q3 q5 q7 q9 q11 q13 q15 q17 q21 q25 q26 q27 q4 q16 H.size  ) (cwV 0 hts gL_law_X11_write rfl rfl rfl (by decide +kernel) ⟨Nat.le_of_ble_eq_true rfl, Nat.le_of_ble_eq_true rfl⟩) ⟨zB_blind, va_recv hK hP (ci := 13) (q0 := 0) rfl rfl, (zPre hPc hDc hKc hS hFc hZ hN)⟩ rfl rfl hl.1 rfl (lv_room (Nat.le_of_ble_eq_true rfl)) dL_law_2172 ⟨Nat.le_of_ble_eq_true rfl, Nat.le_of_ble_eq_true rfl⟩) hS (fun q _ h => hFc q h) hFc (fun r u t H1 locs ht hvm hw hB hz1 hk1 hS => ?_)
  subst hw
  obtain ⟨hP1, hK1, hD1⟩ := hB
  rw [ht] at hP1
  have hK1 := va_K.moved hvm.symm hK1
  obtain ⟨hP, hD⟩ := va_join (wr := [(q86, .inr (15, [.ref q87, .ref q88, .ref q89, .ref q90, .ref q91, .ref q92, .int 0, .int 1, .ref q93, .int 0, .ref q94, .null, .ref q95, .null, .ref q96, .ref q97, .ref q98, .ref q99, .ref q100, .int 0, .ref q101, .ref q102, .ref q103, .ref q104, .ref q105, .int 0, .int 0])), (q87, .inl (k87, 24, .inl (fun _ => 0))), (q96, .inl (k96, 24, .inl (fun _ => 0)))]) (w1 := []) hP hD [0, 3, 8] [13, 14, 22] rfl rfl (by decide) (by decide) hk1 hFc hP1 hD1
  have hK := (hK.sub (tys' := [(k87, .boolean), (k96, .boolean)]) [2, 10] rfl).app hK1
  generalize H1 = H at hP hS ⊢
  have hP : va_P (dC, dI) vwCl [(q86, .inr (15, [.ref q87, .ref q88, .ref q89, .ref q90, .ref q91, .ref q92, .int 0, .int 1, .ref q93, .int 0, .ref q94, .null, .ref q95, .null, .ref q96, .ref q97, .ref q98, .ref q99, .ref q100, .int 0, .ref q101, .ref q102, .ref q103, .ref q104, .ref q105, .int 0, .int 0])), (q87, .inl (k87, 24, .inl (fun _ => 0))), (q96, .inl (k96, 24, .inl (fun _ => 0)))] H := hP
  have hD : va_D (fun q : Nat => s.heap.size ≤ q) [(q86, .inr (15, [.ref q87, .ref q88, .ref q89, .ref q90, .ref q91, .ref q92, .int 0, .int 1, .ref q93, .int 0, .ref q94, .null, .ref q95, .null, .ref q96, .ref q97, .ref q98, .ref q99, .ref q100, .int 0, .ref q101, .ref q102, .ref q103, .ref q104, .ref q105, .int 0, .int 0])), (q87, .inl (k87, 24, .inl (fun _ => 0))), (q96, .inl (k96, 24, .inl (fun _ => 0)))] := hD
  have hK : va_K (dC, dI) vwCl [(k87, .boolean), (k96, .boolean)] s := hK
  refine W.widen (k := 131) (n := 6692) (Nat.le_of_ble_eq_true rfl) (Nat.le_of_ble_eq_true rfl) ?_
  refine lv_aload_n hx hb dL_law_2175 rfl (lv_at hl 2 rfl) ?_
  have hPc := hP.sub (ws' := [(q86, .inr (15, [.ref q87, .ref q88, .ref q89, .ref q90, .ref q91, .ref q92, .int 0, .int 1, .ref q93, .int 0, .ref q94, .null, .ref q95, .null, .ref q96, .ref q97, .ref q98, .ref q99, .ref q100, .int 0, .ref q101, .ref q102, .ref q103, .ref q104, .ref q105, .int 0, .int 0])), (q87, .inl (k87, 24, .inl (fun _ => 0))), (q96, .inl (k96, 24, .inl (fun _ => 0)))]) [0, 1, 2] rfl
  have hDc := hD.sub (ws' := [(q86, .inr (15, [.ref q87, .ref q88, .ref q89, .ref q90, .ref q91, .ref q92, .int 0, .int 1, .ref q93, .int 0, .ref q94, .null, .ref q95, .null, .ref q96, .ref q97, .ref q98, .ref q99, .ref q100, .int 0, .ref q101, .ref q102, .ref q103, .ref q104, .ref q105, .int 0, .int 0])), (q87, .inl (k87, 24, .inl (fun _ => 0))), (q96, .inl (k96, 24, .inl (fun _ => 0)))]) [0, 1, 2] (by decide) rfl
  have hKc := hK.sub (tys' := [(k87, .boolean), (k96, .boolean)]) [0, 1] rfl
  have hFc := va_free (wc := [(q86, .inr (15, [.ref q87, .ref q88, .ref q89, .ref q90, .ref q91, .ref q92, .int 0, .int 1, .ref q93, .int 0, .ref q94, .null, .ref q95, .null, .ref q96, .ref q97, .ref q98, .ref q99, .ref q100, .int 0, .ref q101, .ref q102, .ref q103, .ref q104, .ref q105, .int 0, .int 0])), (q87, .inl (k87, 24, .inl (fun _ => 0))), (q96, .inl (k96, 24, .inl (fun _ => 0)))]) hD hS hA [0, 1, 2] rfl
  refine va_calli (va_runV (As := []) (rest := [.int 0]) ⟨hx, hb, hml, hown, hts⟩ (c_X13_write l dC dI q86 q87 q88 q89 q90 q91 q92 q93 q94 q95 q96 q97 q98 q99 q100 q101 q102 q103 q104 q105 k87 k96 H.size  ) (cwV 0 hts gL_law_X13_write rfl rfl rfl (by decide +kernel) ⟨Nat.le_of_ble_eq_true rfl, Nat.le_of_ble_eq_true rfl⟩) ⟨zB_blind, va_recv hK hP (ci := 15) (q0 := 0) rfl rfl, (zPre hPc hDc hKc hS hFc hZ hN)⟩ rfl rfl hl.1 rfl (lv_room (Nat.le_of_ble_eq_true rfl)) dL_law_2176 ⟨Nat.le_of_ble_eq_true rfl, Nat.le_of_ble_eq_true rfl⟩) hS (fun q _ h => hFc q h) hFc (fun r u t H1 locs ht hvm hw hB hz1 hk1 hS => ?_)
  subst hw
  obtain ⟨hP1, hK1, hD1⟩ := hB
  rw [ht] at hP1
  have hK1 := va_K.moved hvm.symm hK1
  obtain ⟨hP, hD⟩ := va_join (wr := []) (w1 := []) hP hD [0, 1, 2] [] rfl rfl (by decide) (by decide) hk1 hFc hP1 hD1
  have hK := (hK.sub (tys' := []) [] rfl).app hK1
  generalize H1 = H at hP hS ⊢
  have hP : va_P (dC, dI) vwCl [] H := hP
  have hD : va_D (fun q : Nat => s.heap.size ≤ q) [] := hD
  have hK : va_K (dC, dI) vwCl [] s := hK
  refine W.widen (k := 133) (n := 22052) (Nat.le_of_ble_eq_true rfl) (Nat.le_of_ble_eq_true rfl) ?_
  refine lv_icmp_eq (tgt := 2311) hx hb dL_law_2179 (by decide) (fun _ => ?_) (fun h9 => absurd (show (0 : Int32) = (0 : Int32) by decide +kernel) h9)
  exact law_exit C0 hS (Nat.le_of_ble_eq_true rfl) (Nat.le_of_ble_eq_true rfl) ls (lv_sub hl [0, 1, 2, 3, 4] rfl)
set_option maxHeartbeats 8000000 in
set_option maxRecDepth 100000 in
theorem law_case_40 {p : Program} {l : Launch} {e : Env} {s : State} {m : MethodId} {below : List Frame} {meth : Method} {c : Code} {b : Nat} {xs : Nat → Int32} (hfl : l.stackTraces = false) (C0 : lw_At p s m meth c b 4 xs) {dC : Nat → ClassId} {dI : Nat → Nat → Nat} {q0 q1 q3 q5 q7 q9 q11 q13 q15 q17 q21 q25 q26 q27 q2 q4 q6 q8 q10 q16 q18 q22 q23 q86 q87 q88 q89 q90 q91 q92 q93 q94 q95 q96 q97 q98 q99 q100 q101 q102 q103 q104 q105 q106 : Nat} {k2 k4 k87 k88 k89 k90 k91 k92 k93 k94 k96 k106 : ClassId} {H : Heap} {locs : List Loc} (hK : va_K (dC, dI) vwCl [(k2, .char), (k4, (.object "Seekwell$Text")), (k87, .boolean), (k88, .int), (k89, .int), (k90, .char), (k91, (.array .long)), (k92, (.array .long)), (k93, .int), (k94, .int), (k96, .boolean), (k106, .long)] s) (hP : va_P (dC, dI) vwCl [(q0, .inr (13, [.ref q1, .ref q3, .ref q5, .ref q7, .ref q9, .ref q11, .ref q13, .ref q15, .int 0, .ref q17, .ref q21, .ref q25, .ref q26, .ref q27])), (q1, .inr (7, [.ref q2, .int 0])), (q2, .inl (k2, 512, .inl (fun _ => 0))), (q3, .inr (11, [.ref q4, .int 0, .int 1])), (q4, .inl (k4, 24, .inr (.inr (.inr (.inr (fun _ => none)))))), (q5, .inr (11, [.ref q6, .int 0, .int 1])), (q7, .inr (10, [.ref q8, .int 0])), (q9, .inr (5, [.ref q10, .int 0, .int 0])), (q15, .inr (5, [.ref q16, .int 0, .int 0])), (q17, .inr (9, [.ref q18, .ref q18, .null])), (q21, .inr (9, [.ref q22, .ref q22, .null])), (q22, .inr (8, [.int 0, .int 0, .int 1, .int 0, .int 0, .int 0, .ref q23, .null, .null, .null, .null, .int 0, .int 0, .int 0, .int 0, .null, .null])), (q26, .inr (3, [.null, .null, .int 0, .int 0, .null])), (q86, .inr (15, [.ref q87, .ref q88, .ref q89, .ref q90, .ref q91, .ref q92, .int 0, .int 1, .ref q93, .int 0, .ref q94, .null, .ref q95, .null, .ref q96, .ref q97, .ref q98, .ref q99, .ref q100, .int 0, .ref q101, .ref q102, .ref q103, .ref q104, .ref q105, .int 0, .int 0])), (q87, .inl (k87, 24, .inl (fun _ => 0))), (q88, .inl (k88, 24, .inl (fun _ => 0))), (q89, .inl (k89, 24, .inl (fun _ => 0))), (q90, .inl (k90, 24, .inl (fun _ => 0))), (q91, .inl (k91, 24, .inr (.inr (.inr (.inr (fun _ => none)))))), (q92, .inl (k92, 24, .inr (.inr (.inr (.inr (fun _ => none)))))), (q93, .inl (k93, 4000, .inl (fun _ => 0))), (q94, .inl (k94, 0, .inl (fun _ => 0))), (q96, .inl (k96, 24, .inl (fun _ => 0))), (q106, .inl (k106, 1, .inr (.inl (fun _ => 0))))] H) (hD : va_D (fun q : Nat => s.heap.size ≤ q) [(q0, .inr (13, [.ref q1, .ref q3, .ref q5, .ref q7, .ref q9, .ref q11, .ref q13, .ref q15, .int 0, .ref q17, .ref q21, .ref q25, .ref q26, .ref q27])), (q1, .inr (7, [.ref q2, .int 0])), (q2, .inl (k2, 512, .inl (fun _ => 0))), (q3, .inr (11, [.ref q4, .int 0, .int 1])), (q4, .inl (k4, 24, .inr (.inr (.inr (.inr (fun _ => none)))))), (q5, .inr (11, [.ref q6, .int 0, .int 1])), (q7, .inr (10, [.ref q8, .int 0])), (q9, .inr (5, [.ref q10, .int 0, .int 0])), (q15, .inr (5, [.ref q16, .int 0, .int 0])), (q17, .inr (9, [.ref q18, .ref q18, .null])), (q21, .inr (9, [.ref q22, .ref q22, .null])), (q22, .inr (8, [.int 0, .int 0, .int 1, .int 0, .int 0, .int 0, .ref q23, .null, .null, .null, .null, .int 0, .int 0, .int 0, .int 0, .null, .null])), (q26, .inr (3, [.null, .null, .int 0, .int 0, .null])), (q86, .inr (15, [.ref q87, .ref q88, .ref q89, .ref q90, .ref q91, .ref q92, .int 0, .int 1, .ref q93, .int 0, .ref q94, .null, .ref q95, .null, .ref q96, .ref q97, .ref q98, .ref q99, .ref q100, .int 0, .ref q101, .ref q102, .ref q103, .ref q104, .ref q105, .int 0, .int 0])), (q87, .inl (k87, 24, .inl (fun _ => 0))), (q88, .inl (k88, 24, .inl (fun _ => 0))), (q89, .inl (k89, 24, .inl (fun _ => 0))), (q90, .inl (k90, 24, .inl (fun _ => 0))), (q91, .inl (k91, 24, .inr (.inr (.inr (.inr (fun _ => none)))))), (q92, .inl (k92, 24, .inr (.inr (.inr (.inr (fun _ => none)))))), (q93, .inl (k93, 4000, .inl (fun _ => 0))), (q94, .inl (k94, 0, .inl (fun _ => 0))), (q96, .inl (k96, 24, .inl (fun _ => 0))), (q106, .inl (k106, 1, .inr (.inl (fun _ => 0))))]) (hS : va_S (fun q : Nat => s.heap.size ≤ q) s.heap H locs) (hZ : zZ (fun q : Nat => s.heap.size ≤ q) s s.heap) (hN : zN s) (ls : Array Slot) (hl : lv_has ls 7 [(4, .int 0), (3, .ref q106), (2, .ref q86), (1, .ref q0), (0, .ref b)]) : W p l e room_1 s m #[Value.ref b] below meth c H locs 131 6692 (lw_Z below #[Value.ref b] s) (F0 m 2184 ls []) := by
  obtain ⟨hx, hb, hr, hml, hown, hts, hX, hbl, hlocks, hgv⟩ := id C0
  have hbA : ¬ (fun q : Nat => s.heap.size ≤ q) b := Nat.not_le.mpr hbl
  have hA : ∀ q : Nat, s.heap.size ≤ q → (fun q : Nat => s.heap.size ≤ q) q := fun _ h => h
  by_cases hb0 : (xs 1) < (0 : Int32)
  · skip
    have hc0 : (xs 1) < (0 : Int32) := hb0
    refine lv_aload_n hx hb dL_law_2184 rfl (lv_at hl 3 rfl) ?_
    refine lv_aload_n hx hb dL_law_2185 rfl (lv_at hl 4 rfl) ?_
    refine lv_iload hx hb dL_law_2186 (lv_at hl 0 rfl) ?_
    refine lv_iconst (v := 1) hx hb dL_law_2188 (by decide +kernel) ?_
    refine lv_iadd hx hb dL_law_2189 ?_
    refine zt_i (v := 1) (by decide +kernel) ?_
    refine va_sld hx hb hX hbl hbA hS (i := 1) (zin (by decide +kernel)) dL_law_2190 ?_
    refine zt_v (w := .int (xs 1)) rfl ?_
    refine lv_aload_n hx hb dL_law_2191 rfl (lv_at hl 1 rfl) ?_
    have hPc := hP.sub (ws' := [(q0, .inr (13, [.ref q1, .ref q3, .ref q5, .ref q7, .ref q9, .ref q11, .ref q13, .ref q15, .int 0, .ref q17, .ref q21, .ref q25, .ref q26, .ref q27]))]) [0] rfl
    have hDc := hD.sub (ws' := [(q0, .inr (13, [.ref q1, .ref q3, .ref q5, .ref q7, .ref q9, .ref q11, .ref q13, .ref q15, .int 0, .ref q17, .ref q21, .ref q25, .ref q26, .ref q27]))]) [0] (by decide) rfl
    have hKc := hK.sub (tys' := []) [] rfl
    have hFc := va_free (wc := [(q0, .inr (13, [.ref q1, .ref q3, .ref q5, .ref q7, .ref q9, .ref q11, .ref q13, .ref q15, .int 0, .ref q17, .ref q21, .ref q25, .ref q26, .ref q27]))]) hD hS hA [0] rfl
    refine va_calli (vx_runSW (As := [.ref q0, .int (xs 1), .ref q106]) (rest := []) ⟨hx, hb, hml, hown, hts⟩ (c_L_writtenAt l hfl dC dI q0 q106 q1 q3 q5 q7 q9 q11 q13 q15 q17 q21 q25 q26 q27 H.size (xs 1) hc0) (vx_cwSW 3 hts gL_law_L_writtenAt rfl rfl rfl (by decide +kernel) ⟨Nat.le_of_ble_eq_true rfl, Nat.le_of_ble_eq_true rfl⟩) ⟨zB_blind, (zPre hPc hDc hKc hS hFc hZ hN)⟩ rfl rfl hl.1 rfl (lv_room (Nat.le_of_ble_eq_true rfl)) dL_law_2192 ⟨Nat.le_of_ble_eq_true rfl, Nat.le_of_ble_eq_true rfl⟩) hS (fun q _ h => hFc q h) hFc (fun r u t H1 locs ht hvm hw hB hz1 hk1 hS => ?_)
    subst hw
    obtain ⟨hP1, hK1, hD1⟩ := hB
    rw [ht] at hP1
    have hK1 := va_K.moved hvm.symm hK1
    obtain ⟨hP, hD⟩ := va_join (wr := [(q86, .inr (15, [.ref q87, .ref q88, .ref q89, .ref q90, .ref q91, .ref q92, .int 0, .int 1, .ref q93, .int 0, .ref q94, .null, .ref q95, .null, .ref q96, .ref q97, .ref q98, .ref q99, .ref q100, .int 0, .ref q101, .ref q102, .ref q103, .ref q104, .ref q105, .int 0, .int 0]))]) (w1 := []) hP hD [0] [13] rfl rfl (by decide) (by decide) hk1 hFc hP1 hD1
    have hK := (hK.sub (tys' := []) [] rfl).app hK1
    generalize H1 = H at hP hS ⊢
    have hP : va_P (dC, dI) vwCl [(q86, .inr (15, [.ref q87, .ref q88, .ref q89, .ref q90, .ref q91, .ref q92, .int 0, .int 1, .ref q93, .int 0, .ref q94, .null, .ref q95, .null, .ref q96, .ref q97, .ref q98, .ref q99, .ref q100, .int 0, .ref q101, .ref q102, .ref q103, .ref q104, .ref q105, .int 0, .int 0]))] H := hP
    have hD : va_D (fun q : Nat => s.heap.size ≤ q) [(q86, .inr (15, [.ref q87, .ref q88, .ref q89, .ref q90, .ref q91, .ref q92, .int 0, .int 1, .ref q93, .int 0, .ref q94, .null, .ref q95, .null, .ref q96, .ref q97, .ref q98, .ref q99, .ref q100, .int 0, .ref q101, .ref q102, .ref q103, .ref q104, .ref q105, .int 0, .int 0]))] := hD
    have hK : va_K (dC, dI) vwCl [] s := hK
    refine W.widen (k := 132) (n := 6698) (Nat.le_of_ble_eq_true rfl) (Nat.le_of_ble_eq_true rfl) ?_
    refine lv_istore (lv' := [(5, .int 1), (4, .int 0), (3, .ref q106), (2, .ref q86), (1, .ref q0), (0, .ref b)]) hx hb dL_law_2195 hl (by decide) rfl (fun ls hl => ?_)
    refine lv_aload_n hx hb dL_law_2197 rfl (lv_at hl 3 rfl) ?_
    refine lv_aload_n hx hb dL_law_2198 rfl (lv_at hl 5 rfl) ?_
    refine lv_iload hx hb dL_law_2199 (lv_at hl 1 rfl) ?_
    refine lv_iconst (v := 1) hx hb dL_law_2201 (by decide +kernel) ?_
    refine lv_iadd hx hb dL_law_2202 ?_
    refine zt_i (v := 1) (by decide +kernel) ?_
    refine va_sld hx hb hX hbl hbA hS (i := 1) (zin (by decide +kernel)) dL_law_2203 ?_
    refine zt_v (w := .int (xs 1)) rfl ?_
    have hPc := hP.sub (ws' := [(q86, .inr (15, [.ref q87, .ref q88, .ref q89, .ref q90, .ref q91, .ref q92, .int 0, .int 1, .ref q93, .int 0, .ref q94, .null, .ref q95, .null, .ref q96, .ref q97, .ref q98, .ref q99, .ref q100, .int 0, .ref q101, .ref q102, .ref q103, .ref q104, .ref q105, .int 0, .int 0]))]) [0] rfl
    have hDc := hD.sub (ws' := [(q86, .inr (15, [.ref q87, .ref q88, .ref q89, .ref q90, .ref q91, .ref q92, .int 0, .int 1, .ref q93, .int 0, .ref q94, .null, .ref q95, .null, .ref q96, .ref q97, .ref q98, .ref q99, .ref q100, .int 0, .ref q101, .ref q102, .ref q103, .ref q104, .ref q105, .int 0, .int 0]))]) [0] (by decide) rfl
    have hKc := hK.sub (tys' := []) [] rfl
    have hFc := va_free (wc := [(q86, .inr (15, [.ref q87, .ref q88, .ref q89, .ref q90, .ref q91, .ref q92, .int 0, .int 1, .ref q93, .int 0, .ref q94, .null, .ref q95, .null, .ref q96, .ref q97, .ref q98, .ref q99, .ref q100, .int 0, .ref q101, .ref q102, .ref q103, .ref q104, .ref q105, .int 0, .int 0]))]) hD hS hA [0] rfl
    refine va_calli (va_runV (As := [.int (xs 1)]) (rest := []) ⟨hx, hb, hml, hown, hts⟩ (c_X13_writtenAt l dC dI q86 q87 q88 q89 q90 q91 q92 q93 q94 q95 q96 q97 q98 q99 q100 q101 q102 q103 q104 q105 H.size (xs 1) ) (cwV 1 hts gL_law_X13_writtenAt rfl rfl rfl (by decide +kernel) ⟨Nat.le_of_ble_eq_true rfl, Nat.le_of_ble_eq_true rfl⟩) ⟨zB_blind, va_recv hK hP (ci := 15) (q0 := 0) rfl rfl, (zPre hPc hDc hKc hS hFc hZ hN)⟩ rfl rfl hl.1 rfl (lv_room (Nat.le_of_ble_eq_true rfl)) dL_law_2204 ⟨Nat.le_of_ble_eq_true rfl, Nat.le_of_ble_eq_true rfl⟩) hS (fun q _ h => hFc q h) hFc (fun r u t H1 locs ht hvm hw hB hz1 hk1 hS => ?_)
    subst hw
    obtain ⟨hP1, hK1, hD1⟩ := hB
    rw [ht] at hP1
    have hK1 := va_K.moved hvm.symm hK1
    obtain ⟨hP, hD⟩ := va_join (wr := []) (w1 := [(q86, .inr (15, [.ref q87, .ref q88, .ref q89, .ref q90, .ref q91, .ref q92, .int 0, .int 1, .ref q93, .int 0, .ref q94, .null, .ref q95, .null, .ref q96, .ref q97, .ref q98, .ref q99, .ref q100, .int 1, .ref q101, .ref q102, .ref q103, .ref q104, .ref q105, .int 0, .int 0]))]) hP hD [0] [] rfl rfl (by decide) (by decide) hk1 hFc hP1 hD1
    have hK := (hK.sub (tys' := []) [] rfl).app hK1
    generalize H1 = H at hP hS ⊢
    have hP : va_P (dC, dI) vwCl [(q86, .inr (15, [.ref q87, .ref q88, .ref q89, .ref q90, .ref q91, .ref q92, .int 0, .int 1, .ref q93, .int 0, .ref q94, .null, .ref q95, .null, .ref q96, .ref q97, .ref q98, .ref q99, .ref q100, .int 1, .ref q101, .ref q102, .ref q103, .ref q104, .ref q105, .int 0, .int 0]))] H := hP
    have hD : va_D (fun q : Nat => s.heap.size ≤ q) [(q86, .inr (15, [.ref q87, .ref q88, .ref q89, .ref q90, .ref q91, .ref q92, .int 0, .int 1, .ref q93, .int 0, .ref q94, .null, .ref q95, .null, .ref q96, .ref q97, .ref q98, .ref q99, .ref q100, .int 1, .ref q101, .ref q102, .ref q103, .ref q104, .ref q105, .int 0, .int 0]))] := hD
    have hK : va_K (dC, dI) vwCl [] s := hK
    refine W.widen (k := 132) (n := 6698) (Nat.le_of_ble_eq_true rfl) (Nat.le_of_ble_eq_true rfl) ?_
    refine lv_istore (lv' := [(6, .int 0), (5, .int 1), (4, .int 0), (3, .ref q106), (2, .ref q86), (1, .ref q0), (0, .ref b)]) hx hb dL_law_2207 hl (by decide) rfl (fun ls hl => ?_)
    refine lv_aload_n hx hb dL_law_2209 rfl (lv_at hl 4 rfl) ?_
    have hPc := hP.sub (ws' := [(q86, .inr (15, [.ref q87, .ref q88, .ref q89, .ref q90, .ref q91, .ref q92, .int 0, .int 1, .ref q93, .int 0, .ref q94, .null, .ref q95, .null, .ref q96, .ref q97, .ref q98, .ref q99, .ref q100, .int 1, .ref q101, .ref q102, .ref q103, .ref q104, .ref q105, .int 0, .int 0]))]) [0] rfl
    have hDc := hD.sub (ws' := [(q86, .inr (15, [.ref q87, .ref q88, .ref q89, .ref q90, .ref q91, .ref q92, .int 0, .int 1, .ref q93, .int 0, .ref q94, .null, .ref q95, .null, .ref q96, .ref q97, .ref q98, .ref q99, .ref q100, .int 1, .ref q101, .ref q102, .ref q103, .ref q104, .ref q105, .int 0, .int 0]))]) [0] (by decide) rfl
    have hKc := hK.sub (tys' := []) [] rfl
    have hFc := va_free (wc := [(q86, .inr (15, [.ref q87, .ref q88, .ref q89, .ref q90, .ref q91, .ref q92, .int 0, .int 1, .ref q93, .int 0, .ref q94, .null, .ref q95, .null, .ref q96, .ref q97, .ref q98, .ref q99, .ref q100, .int 1, .ref q101, .ref q102, .ref q103, .ref q104, .ref q105, .int 0, .int 0]))]) hD hS hA [0] rfl
    refine va_calli (va_runV (As := []) (rest := []) ⟨hx, hb, hml, hown, hts⟩ (c_X13_thrown l dC dI q86 q87 q88 q89 q90 q91 q92 q93 q94 q95 q96 q97 q98 q99 q100 q101 q102 q103 q104 q105 H.size  ) (cwV 0 hts gL_law_X13_thrown rfl rfl rfl (by decide +kernel) ⟨Nat.le_of_ble_eq_true rfl, Nat.le_of_ble_eq_true rfl⟩) ⟨zB_blind, va_recv hK hP (ci := 15) (q0 := 0) rfl rfl, (zPre hPc hDc hKc hS hFc hZ hN)⟩ rfl rfl hl.1 rfl (lv_room (Nat.le_of_ble_eq_true rfl)) dL_law_2210 ⟨Nat.le_of_ble_eq_true rfl, Nat.le_of_ble_eq_true rfl⟩) hS (fun q _ h => hFc q h) hFc (fun r u t H1 locs ht hvm hw hB hz1 hk1 hS => ?_)
    subst hw
    obtain ⟨hP1, hK1, hD1⟩ := hB
    rw [ht] at hP1
    have hK1 := va_K.moved hvm.symm hK1
    obtain ⟨hP, hD⟩ := va_join (wr := []) (w1 := []) hP hD [0] [] rfl rfl (by decide) (by decide) hk1 hFc hP1 hD1
    have hK := (hK.sub (tys' := []) [] rfl).app hK1
    generalize H1 = H at hP hS ⊢
    have hP : va_P (dC, dI) vwCl [] H := hP
    have hD : va_D (fun q : Nat => s.heap.size ≤ q) [] := hD
    have hK : va_K (dC, dI) vwCl [] s := hK
    refine W.widen (k := 132) (n := 6698) (Nat.le_of_ble_eq_true rfl) (Nat.le_of_ble_eq_true rfl) ?_
    refine lv_iload hx hb dL_law_2213 (lv_at hl 1 rfl) ?_
    refine lv_icmp_eq (tgt := 2220) hx hb dL_law_2215 (by decide) (fun _ => ?_) (fun h9 => absurd (show (1 : Int32) = (1 : Int32) by decide +kernel) h9)
    refine lv_iload hx hb dL_law_2220 (lv_at hl 1 rfl) ?_
    refine lv_if_ne (tgt := 2237) hx hb dL_law_2222 (by decide) (fun _ => ?_) (fun h9 => absurd h9 (show ¬ (1 : Int32) = (0 : Int32) by decide +kernel))
    refine lv_goto (tgt := 2311) hx hb dL_law_2237 (by decide) ?_
    exact law_exit C0 hS (Nat.le_of_ble_eq_true rfl) (Nat.le_of_ble_eq_true rfl) ls (lv_sub hl [2, 3, 4, 5, 6] rfl)
  · skip
    have hc0 : ¬ (xs 1) < (0 : Int32) := hb0
    refine lv_aload_n hx hb dL_law_2184 rfl (lv_at hl 3 rfl) ?_
    refine lv_aload_n hx hb dL_law_2185 rfl (lv_at hl 4 rfl) ?_
    refine lv_iload hx hb dL_law_2186 (lv_at hl 0 rfl) ?_
    refine lv_iconst (v := 1) hx hb dL_law_2188 (by decide +kernel) ?_
    refine lv_iadd hx hb dL_law_2189 ?_
    refine zt_i (v := 1) (by decide +kernel) ?_
    refine va_sld hx hb hX hbl hbA hS (i := 1) (zin (by decide +kernel)) dL_law_2190 ?_
    refine zt_v (w := .int (xs 1)) rfl ?_
    refine lv_aload_n hx hb dL_law_2191 rfl (lv_at hl 1 rfl) ?_
    have hPc := hP.sub (ws' := [(q0, .inr (13, [.ref q1, .ref q3, .ref q5, .ref q7, .ref q9, .ref q11, .ref q13, .ref q15, .int 0, .ref q17, .ref q21, .ref q25, .ref q26, .ref q27])), (q15, .inr (5, [.ref q16, .int 0, .int 0]))]) [0, 8] rfl
    have hDc := hD.sub (ws' := [(q0, .inr (13, [.ref q1, .ref q3, .ref q5, .ref q7, .ref q9, .ref q11, .ref q13, .ref q15, .int 0, .ref q17, .ref q21, .ref q25, .ref q26, .ref q27])), (q15, .inr (5, [.ref q16, .int 0, .int 0]))]) [0, 8] (by decide) rfl
    have hKc := hK.sub (tys' := []) [] rfl
    have hFc := va_free (wc := [(q0, .inr (13, [.ref q1, .ref q3, .ref q5, .ref q7, .ref q9, .ref q11, .ref q13, .ref q15, .int 0, .ref q17, .ref q21, .ref q25, .ref q26, .ref q27])), (q15, .inr (5, [.ref q16, .int 0, .int 0]))]) hD hS hA [0, 8] rfl
    refine va_calli (vx_runSW (As := [.ref q0, .int (xs 1), .ref q106]) (rest := []) ⟨hx, hb, hml, hown, hts⟩ (c_L_writtenAt_2 l hfl dC dI q0 q106 q1 q3 q5 q7 q9 q11 q13 q15 q17 q21 q25 q26 q27 q16 H.size (xs 1) hc0) (vx_cwSW 3 hts gL_law_L_writtenAt rfl rfl rfl (by decide +kernel) ⟨Nat.le_of_ble_eq_true rfl, Nat.le_of_ble_eq_true rfl⟩) ⟨zB_blind, (zPre hPc hDc hKc hS hFc hZ hN)⟩ rfl rfl hl.1 rfl (lv_room (Nat.le_of_ble_eq_true rfl)) dL_law_2192 ⟨Nat.le_of_ble_eq_true rfl, Nat.le_of_ble_eq_true rfl⟩) hS (fun q _ h => hFc q h) hFc (fun r u t H1 locs ht hvm hw hB hz1 hk1 hS => ?_)
    subst hw
    obtain ⟨hP1, hK1, hD1⟩ := hB
    rw [ht] at hP1
    have hK1 := va_K.moved hvm.symm hK1
    obtain ⟨hP, hD⟩ := va_join (wr := [(q86, .inr (15, [.ref q87, .ref q88, .ref q89, .ref q90, .ref q91, .ref q92, .int 0, .int 1, .ref q93, .int 0, .ref q94, .null, .ref q95, .null, .ref q96, .ref q97, .ref q98, .ref q99, .ref q100, .int 0, .ref q101, .ref q102, .ref q103, .ref q104, .ref q105, .int 0, .int 0]))]) (w1 := []) hP hD [0, 8] [13] rfl rfl (by decide) (by decide) hk1 hFc hP1 hD1
    have hK := (hK.sub (tys' := []) [] rfl).app hK1
    generalize H1 = H at hP hS ⊢
    have hP : va_P (dC, dI) vwCl [(q86, .inr (15, [.ref q87, .ref q88, .ref q89, .ref q90, .ref q91, .ref q92, .int 0, .int 1, .ref q93, .int 0, .ref q94, .null, .ref q95, .null, .ref q96, .ref q97, .ref q98, .ref q99, .ref q100, .int 0, .ref q101, .ref q102, .ref q103, .ref q104, .ref q105, .int 0, .int 0]))] H := hP
    have hD : va_D (fun q : Nat => s.heap.size ≤ q) [(q86, .inr (15, [.ref q87, .ref q88, .ref q89, .ref q90, .ref q91, .ref q92, .int 0, .int 1, .ref q93, .int 0, .ref q94, .null, .ref q95, .null, .ref q96, .ref q97, .ref q98, .ref q99, .ref q100, .int 0, .ref q101, .ref q102, .ref q103, .ref q104, .ref q105, .int 0, .int 0]))] := hD
    have hK : va_K (dC, dI) vwCl [] s := hK
    refine W.widen (k := 132) (n := 6698) (Nat.le_of_ble_eq_true rfl) (Nat.le_of_ble_eq_true rfl) ?_
    refine lv_istore (lv' := [(5, .int 1), (4, .int 0), (3, .ref q106), (2, .ref q86), (1, .ref q0), (0, .ref b)]) hx hb dL_law_2195 hl (by decide) rfl (fun ls hl => ?_)
    refine lv_aload_n hx hb dL_law_2197 rfl (lv_at hl 3 rfl) ?_
    refine lv_aload_n hx hb dL_law_2198 rfl (lv_at hl 5 rfl) ?_
    refine lv_iload hx hb dL_law_2199 (lv_at hl 1 rfl) ?_
    refine lv_iconst (v := 1) hx hb dL_law_2201 (by decide +kernel) ?_
    refine lv_iadd hx hb dL_law_2202 ?_
    refine zt_i (v := 1) (by decide +kernel) ?_
    refine va_sld hx hb hX hbl hbA hS (i := 1) (zin (by decide +kernel)) dL_law_2203 ?_
    refine zt_v (w := .int (xs 1)) rfl ?_
    have hPc := hP.sub (ws' := [(q86, .inr (15, [.ref q87, .ref q88, .ref q89, .ref q90, .ref q91, .ref q92, .int 0, .int 1, .ref q93, .int 0, .ref q94, .null, .ref q95, .null, .ref q96, .ref q97, .ref q98, .ref q99, .ref q100, .int 0, .ref q101, .ref q102, .ref q103, .ref q104, .ref q105, .int 0, .int 0]))]) [0] rfl
    have hDc := hD.sub (ws' := [(q86, .inr (15, [.ref q87, .ref q88, .ref q89, .ref q90, .ref q91, .ref q92, .int 0, .int 1, .ref q93, .int 0, .ref q94, .null, .ref q95, .null, .ref q96, .ref q97, .ref q98, .ref q99, .ref q100, .int 0, .ref q101, .ref q102, .ref q103, .ref q104, .ref q105, .int 0, .int 0]))]) [0] (by decide) rfl
    have hKc := hK.sub (tys' := []) [] rfl
    have hFc := va_free (wc := [(q86, .inr (15, [.ref q87, .ref q88, .ref q89, .ref q90, .ref q91, .ref q92, .int 0, .int 1, .ref q93, .int 0, .ref q94, .null, .ref q95, .null, .ref q96, .ref q97, .ref q98, .ref q99, .ref q100, .int 0, .ref q101, .ref q102, .ref q103, .ref q104, .ref q105, .int 0, .int 0]))]) hD hS hA [0] rfl
    refine va_calli (va_runV (As := [.int (xs 1)]) (rest := []) ⟨hx, hb, hml, hown, hts⟩ (c_X13_writtenAt l dC dI q86 q87 q88 q89 q90 q91 q92 q93 q94 q95 q96 q97 q98 q99 q100 q101 q102 q103 q104 q105 H.size (xs 1) ) (cwV 1 hts gL_law_X13_writtenAt rfl rfl rfl (by decide +kernel) ⟨Nat.le_of_ble_eq_true rfl, Nat.le_of_ble_eq_true rfl⟩) ⟨zB_blind, va_recv hK hP (ci := 15) (q0 := 0) rfl rfl, (zPre hPc hDc hKc hS hFc hZ hN)⟩ rfl rfl hl.1 rfl (lv_room (Nat.le_of_ble_eq_true rfl)) dL_law_2204 ⟨Nat.le_of_ble_eq_true rfl, Nat.le_of_ble_eq_true rfl⟩) hS (fun q _ h => hFc q h) hFc (fun r u t H1 locs ht hvm hw hB hz1 hk1 hS => ?_)
    subst hw
    obtain ⟨hP1, hK1, hD1⟩ := hB
    rw [ht] at hP1
    have hK1 := va_K.moved hvm.symm hK1
    obtain ⟨hP, hD⟩ := va_join (wr := []) (w1 := [(q86, .inr (15, [.ref q87, .ref q88, .ref q89, .ref q90, .ref q91, .ref q92, .int 0, .int 1, .ref q93, .int 0, .ref q94, .null, .ref q95, .null, .ref q96, .ref q97, .ref q98, .ref q99, .ref q100, .int 1, .ref q101, .ref q102, .ref q103, .ref q104, .ref q105, .int 0, .int 0]))]) hP hD [0] [] rfl rfl (by decide) (by decide) hk1 hFc hP1 hD1
    have hK := (hK.sub (tys' := []) [] rfl).app hK1
    generalize H1 = H at hP hS ⊢
    have hP : va_P (dC, dI) vwCl [(q86, .inr (15, [.ref q87, .ref q88, .ref q89, .ref q90, .ref q91, .ref q92, .int 0, .int 1, .ref q93, .int 0, .ref q94, .null, .ref q95, .null, .ref q96, .ref q97, .ref q98, .ref q99, .ref q100, .int 1, .ref q101, .ref q102, .ref q103, .ref q104, .ref q105, .int 0, .int 0]))] H := hP
    have hD : va_D (fun q : Nat => s.heap.size ≤ q) [(q86, .inr (15, [.ref q87, .ref q88, .ref q89, .ref q90, .ref q91, .ref q92, .int 0, .int 1, .ref q93, .int 0, .ref q94, .null, .ref q95, .null, .ref q96, .ref q97, .ref q98, .ref q99, .ref q100, .int 1, .ref q101, .ref q102, .ref q103, .ref q104, .ref q105, .int 0, .int 0]))] := hD
    have hK : va_K (dC, dI) vwCl [] s := hK
    refine W.widen (k := 132) (n := 6698) (Nat.le_of_ble_eq_true rfl) (Nat.le_of_ble_eq_true rfl) ?_
    refine lv_istore (lv' := [(6, .int 0), (5, .int 1), (4, .int 0), (3, .ref q106), (2, .ref q86), (1, .ref q0), (0, .ref b)]) hx hb dL_law_2207 hl (by decide) rfl (fun ls hl => ?_)
    refine lv_aload_n hx hb dL_law_2209 rfl (lv_at hl 4 rfl) ?_
    have hPc := hP.sub (ws' := [(q86, .inr (15, [.ref q87, .ref q88, .ref q89, .ref q90, .ref q91, .ref q92, .int 0, .int 1, .ref q93, .int 0, .ref q94, .null, .ref q95, .null, .ref q96, .ref q97, .ref q98, .ref q99, .ref q100, .int 1, .ref q101, .ref q102, .ref q103, .ref q104, .ref q105, .int 0, .int 0]))]) [0] rfl
    have hDc := hD.sub (ws' := [(q86, .inr (15, [.ref q87, .ref q88, .ref q89, .ref q90, .ref q91, .ref q92, .int 0, .int 1, .ref q93, .int 0, .ref q94, .null, .ref q95, .null, .ref q96, .ref q97, .ref q98, .ref q99, .ref q100, .int 1, .ref q101, .ref q102, .ref q103, .ref q104, .ref q105, .int 0, .int 0]))]) [0] (by decide) rfl
    have hKc := hK.sub (tys' := []) [] rfl
    have hFc := va_free (wc := [(q86, .inr (15, [.ref q87, .ref q88, .ref q89, .ref q90, .ref q91, .ref q92, .int 0, .int 1, .ref q93, .int 0, .ref q94, .null, .ref q95, .null, .ref q96, .ref q97, .ref q98, .ref q99, .ref q100, .int 1, .ref q101, .ref q102, .ref q103, .ref q104, .ref q105, .int 0, .int 0]))]) hD hS hA [0] rfl
    refine va_calli (va_runV (As := []) (rest := []) ⟨hx, hb, hml, hown, hts⟩ (c_X13_thrown l dC dI q86 q87 q88 q89 q90 q91 q92 q93 q94 q95 q96 q97 q98 q99 q100 q101 q102 q103 q104 q105 H.size  ) (cwV 0 hts gL_law_X13_thrown rfl rfl rfl (by decide +kernel) ⟨Nat.le_of_ble_eq_true rfl, Nat.le_of_ble_eq_true rfl⟩) ⟨zB_blind, va_recv hK hP (ci := 15) (q0 := 0) rfl rfl, (zPre hPc hDc hKc hS hFc hZ hN)⟩ rfl rfl hl.1 rfl (lv_room (Nat.le_of_ble_eq_true rfl)) dL_law_2210 ⟨Nat.le_of_ble_eq_true rfl, Nat.le_of_ble_eq_true rfl⟩) hS (fun q _ h => hFc q h) hFc (fun r u t H1 locs ht hvm hw hB hz1 hk1 hS => ?_)
    subst hw
    obtain ⟨hP1, hK1, hD1⟩ := hB
    rw [ht] at hP1
    have hK1 := va_K.moved hvm.symm hK1
    obtain ⟨hP, hD⟩ := va_join (wr := []) (w1 := []) hP hD [0] [] rfl rfl (by decide) (by decide) hk1 hFc hP1 hD1
    have hK := (hK.sub (tys' := []) [] rfl).app hK1
    generalize H1 = H at hP hS ⊢
    have hP : va_P (dC, dI) vwCl [] H := hP
    have hD : va_D (fun q : Nat => s.heap.size ≤ q) [] := hD
    have hK : va_K (dC, dI) vwCl [] s := hK
    refine W.widen (k := 132) (n := 6698) (Nat.le_of_ble_eq_true rfl) (Nat.le_of_ble_eq_true rfl) ?_
    refine lv_iload hx hb dL_law_2213 (lv_at hl 1 rfl) ?_
    refine lv_icmp_eq (tgt := 2220) hx hb dL_law_2215 (by decide) (fun _ => ?_) (fun h9 => absurd (show (1 : Int32) = (1 : Int32) by decide +kernel) h9)
    refine lv_iload hx hb dL_law_2220 (lv_at hl 1 rfl) ?_
    refine lv_if_ne (tgt := 2237) hx hb dL_law_2222 (by decide) (fun _ => ?_) (fun h9 => absurd h9 (show ¬ (1 : Int32) = (0 : Int32) by decide +kernel))
    refine lv_goto (tgt := 2311) hx hb dL_law_2237 (by decide) ?_
    exact law_exit C0 hS (Nat.le_of_ble_eq_true rfl) (Nat.le_of_ble_eq_true rfl) ls (lv_sub hl [2, 3, 4, 5, 6] rfl)
