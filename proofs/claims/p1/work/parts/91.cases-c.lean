/-! the law, call by call, written by program -/
set_option maxHeartbeats 8000000 in
set_option maxRecDepth 100000 in
theorem law_case_17 {p : Program} {l : Launch} {e : Env} {s : State} {m : MethodId} {below : List Frame} {meth : Method} {c : Code} {b : Nat} {xs : Nat → Int32} (hfl : l.stackTraces = false) (C0 : lw_At p s m meth c b 4 xs) {dC : Nat → ClassId} {dI : Nat → Nat → Nat} {q0 q1 q3 q5 q7 q9 q11 q13 q15 q17 q21 q25 q26 q27 q2 q4 q6 q8 q10 q16 q18 q22 q23 q86 q87 q88 q89 q90 q91 q92 q93 q94 q95 q96 q97 q98 q99 q100 q101 q102 q103 q104 q105 q106 : Nat} {k2 k4 k87 k88 k89 k90 k91 k92 k93 k94 k96 k106 : ClassId} {H : Heap} {locs : List Loc} (hK : va_K (dC, dI) vwCl [(k2, .char), (k4, (.object "Seekwell$Text")), (k87, .boolean), (k88, .int), (k89, .int), (k90, .char), (k91, (.array .long)), (k92, (.array .long)), (k93, .int), (k94, .int), (k96, .boolean), (k106, .long)] s) (hP : va_P (dC, dI) vwCl [(q0, .inr (13, [.ref q1, .ref q3, .ref q5, .ref q7, .ref q9, .ref q11, .ref q13, .ref q15, .int 0, .ref q17, .ref q21, .ref q25, .ref q26, .ref q27])), (q1, .inr (7, [.ref q2, .int 0])), (q2, .inl (k2, 512, .inl (fun _ => 0))), (q3, .inr (11, [.ref q4, .int 0, .int 1])), (q4, .inl (k4, 24, .inr (.inr (.inr (.inr (fun _ => none)))))), (q5, .inr (11, [.ref q6, .int 0, .int 1])), (q7, .inr (10, [.ref q8, .int 0])), (q9, .inr (5, [.ref q10, .int 0, .int 0])), (q15, .inr (5, [.ref q16, .int 0, .int 0])), (q17, .inr (9, [.ref q18, .ref q18, .null])), (q21, .inr (9, [.ref q22, .ref q22, .null])), (q22, .inr (8, [.int 0, .int 0, .int 1, .int 0, .int 0, .int 0, .ref q23, .null, .null, .null, .null, .int 0, .int 0, .int 0, .int 0, .null, .null])), (q26, .inr (3, [.null, .null, .int 0, .int 0, .null])), (q86, .inr (15, [.ref q87, .ref q88, .ref q89, .ref q90, .ref q91, .ref q92, .int 0, .int 1, .ref q93, .int 0, .ref q94, .null, .ref q95, .null, .ref q96, .ref q97, .ref q98, .ref q99, .ref q100, .int 0, .ref q101, .ref q102, .ref q103, .ref q104, .ref q105, .int 0, .int 0])), (q87, .inl (k87, 24, .inl (fun _ => 0))), (q88, .inl (k88, 24, .inl (fun _ => 0))), (q89, .inl (k89, 24, .inl (fun _ => 0))), (q90, .inl (k90, 24, .inl (fun _ => 0))), (q91, .inl (k91, 24, .inr (.inr (.inr (.inr (fun _ => none)))))), (q92, .inl (k92, 24, .inr (.inr (.inr (.inr (fun _ => none)))))), (q93, .inl (k93, 4000, .inl (fun _ => 0))), (q94, .inl (k94, 0, .inl (fun _ => 0))), (q96, .inl (k96, 24, .inl (fun _ => 0))), (q106, .inl (k106, 1, .inr (.inl (fun _ => 0))))] H) (hD : va_D (fun q : Nat => s.heap.size ≤ q) [(q0, .inr (13, [.ref q1, .ref q3, .ref q5, .ref q7, .ref q9, .ref q11, .ref q13, .ref q15, .int 0, .ref q17, .ref q21, .ref q25, .ref q26, .ref q27])), (q1, .inr (7, [.ref q2, .int 0])), (q2, .inl (k2, 512, .inl (fun _ => 0))), (q3, .inr (11, [.ref q4, .int 0, .int 1])), (q4, .inl (k4, 24, .inr (.inr (.inr (.inr (fun _ => none)))))), (q5, .inr (11, [.ref q6, .int 0, .int 1])), (q7, .inr (10, [.ref q8, .int 0])), (q9, .inr (5, [.ref q10, .int 0, .int 0])), (q15, .inr (5, [.ref q16, .int 0, .int 0])), (q17, .inr (9, [.ref q18, .ref q18, .null])), (q21, .inr (9, [.ref q22, .ref q22, .null])), (q22, .inr (8, [.int 0, .int 0, .int 1, .int 0, .int 0, .int 0, .ref q23, .null, .null, .null, .null, .int 0, .int 0, .int 0, .int 0, .null, .null])), (q26, .inr (3, [.null, .null, .int 0, .int 0, .null])), (q86, .inr (15, [.ref q87, .ref q88, .ref q89, .ref q90, .ref q91, .ref q92, .int 0, .int 1, .ref q93, .int 0, .ref q94, .null, .ref q95, .null, .ref q96, .ref q97, .ref q98, .ref q99, .ref q100, .int 0, .ref q101, .ref q102, .ref q103, .ref q104, .ref q105, .int 0, .int 0])), (q87, .inl (k87, 24, .inl (fun _ => 0))), (q88, .inl (k88, 24, .inl (fun _ => 0))), (q89, .inl (k89, 24, .inl (fun _ => 0))), (q90, .inl (k90, 24, .inl (fun _ => 0))), (q91, .inl (k91, 24, .inr (.inr (.inr (.inr (fun _ => none)))))), (q92, .inl (k92, 24, .inr (.inr (.inr (.inr (fun _ => none)))))), (q93, .inl (k93, 4000, .inl (fun _ => 0))), (q94, .inl (k94, 0, .inl (fun _ => 0))), (q96, .inl (k96, 24, .inl (fun _ => 0))), (q106, .inl (k106, 1, .inr (.inl (fun _ => 0))))]) (hS : va_S (fun q : Nat => s.heap.size ≤ q) s.heap H locs) (hZ : zZ (fun q : Nat => s.heap.size ≤ q) s s.heap) (hN : zN s) (ls : Array Slot) (hl : lv_has ls 7 [(4, .int 0), (3, .ref q106), (2, .ref q86), (1, .ref q0), (0, .ref b)]) : W p l e room_1 s m #[Value.ref b] below meth c H locs 131 6692 (lw_Z below #[Value.ref b] s) (F0 m 1040 ls []) := by
  obtain ⟨hx, hb, hr, hml, hown, hts, hX, hbl, hlocks, hgv⟩ := id C0
  have hbA : ¬ (fun q : Nat => s.heap.size ≤ q) b := Nat.not_le.mpr hbl
  have hA : ∀ q : Nat, s.heap.size ≤ q → (fun q : Nat => s.heap.size ≤ q) q := fun _ h => h
  refine lv_aload_n hx hb dL_law_1040 rfl (lv_at hl 3 rfl) ?_
  refine lv_aload_n hx hb dL_law_1041 rfl (lv_at hl 1 rfl) ?_
  have hPc := hP.sub (ws' := [(q0, .inr (13, [.ref q1, .ref q3, .ref q5, .ref q7, .ref q9, .ref q11, .ref q13, .ref q15, .int 0, .ref q17, .ref q21, .ref q25, .ref q26, .ref q27])), (q1, .inr (7, [.ref q2, .int 0]))]) [0, 1] rfl
  have hDc := hD.sub (ws' := [(q0, .inr (13, [.ref q1, .ref q3, .ref q5, .ref q7, .ref q9, .ref q11, .ref q13, .ref q15, .int 0, .ref q17, .ref q21, .ref q25, .ref q26, .ref q27])), (q1, .inr (7, [.ref q2, .int 0]))]) [0, 1] (by decide) rfl
  have hKc := hK.sub (tys' := []) [] rfl
  have hFc := va_free (wc := [(q0, .inr (13, [.ref q1, .ref q3, .ref q5, .ref q7, .ref q9, .ref q11, .ref q13, .ref q15, .int 0, .ref q17, .ref q21, .ref q25, .ref q26, .ref q27])), (q1, .inr (7, [.ref q2, .int 0]))]) hD hS hA [0, 1] rfl
  refine va_calli (vx_runSW (As := [.ref q0, .ref q106]) (rest := []) ⟨hx, hb, hml, hown, hts⟩ (c_L_suggest l hfl dC dI q0 q106 q1 q3 q5 q7 q9 q11 q13 q15 q17 q21 q25 q26 q27 q2 H.size  ) (vx_cwSW 2 hts gL_law_L_suggest rfl rfl rfl (by decide +kernel) ⟨Nat.le_of_ble_eq_true rfl, Nat.le_of_ble_eq_true rfl⟩) ⟨zB_blind, (zPre hPc hDc hKc hS hFc hZ hN)⟩ rfl rfl hl.1 rfl (lv_room (Nat.le_of_ble_eq_true rfl)) dL_law_1042 ⟨Nat.le_of_ble_eq_true rfl, Nat.le_of_ble_eq_true rfl⟩) hS (fun q _ h => hFc q h) hFc (fun r u t H1 locs ht hvm hw hB hz1 hk1 hS => ?_)
  subst hw
  obtain ⟨hP1, hK1, hD1⟩ := hB
  rw [ht] at hP1
  have hK1 := va_K.moved hvm.symm hK1
  obtain ⟨hP, hD⟩ := va_join (wr := [(q86, .inr (15, [.ref q87, .ref q88, .ref q89, .ref q90, .ref q91, .ref q92, .int 0, .int 1, .ref q93, .int 0, .ref q94, .null, .ref q95, .null, .ref q96, .ref q97, .ref q98, .ref q99, .ref q100, .int 0, .ref q101, .ref q102, .ref q103, .ref q104, .ref q105, .int 0, .int 0]))]) (w1 := []) hP hD [0, 1] [13] rfl rfl (by decide) (by decide) hk1 hFc hP1 hD1
  have hK := (hK.sub (tys' := []) [] rfl).app hK1
  generalize H1 = H at hP hS ⊢
  have hP : va_P (dC, dI) vwCl [(q86, .inr (15, [.ref q87, .ref q88, .ref q89, .ref q90, .ref q91, .ref q92, .int 0, .int 1, .ref q93, .int 0, .ref q94, .null, .ref q95, .null, .ref q96, .ref q97, .ref q98, .ref q99, .ref q100, .int 0, .ref q101, .ref q102, .ref q103, .ref q104, .ref q105, .int 0, .int 0]))] H := hP
  have hD : va_D (fun q : Nat => s.heap.size ≤ q) [(q86, .inr (15, [.ref q87, .ref q88, .ref q89, .ref q90, .ref q91, .ref q92, .int 0, .int 1, .ref q93, .int 0, .ref q94, .null, .ref q95, .null, .ref q96, .ref q97, .ref q98, .ref q99, .ref q100, .int 0, .ref q101, .ref q102, .ref q103, .ref q104, .ref q105, .int 0, .int 0]))] := hD
  have hK : va_K (dC, dI) vwCl [] s := hK
  refine W.widen (k := 132) (n := 6698) (Nat.le_of_ble_eq_true rfl) (Nat.le_of_ble_eq_true rfl) ?_
  refine lv_istore (lv' := [(5, .int 1), (4, .int 0), (3, .ref q106), (2, .ref q86), (1, .ref q0), (0, .ref b)]) hx hb dL_law_1045 hl (by decide) rfl (fun ls hl => ?_)
  refine lv_aload_n hx hb dL_law_1047 rfl (lv_at hl 3 rfl) ?_
  have hPc := hP.sub (ws' := [(q86, .inr (15, [.ref q87, .ref q88, .ref q89, .ref q90, .ref q91, .ref q92, .int 0, .int 1, .ref q93, .int 0, .ref q94, .null, .ref q95, .null, .ref q96, .ref q97, .ref q98, .ref q99, .ref q100, .int 0, .ref q101, .ref q102, .ref q103, .ref q104, .ref q105, .int 0, .int 0]))]) [0] rfl
  have hDc := hD.sub (ws' := [(q86, .inr (15, [.ref q87, .ref q88, .ref q89, .ref q90, .ref q91, .ref q92, .int 0, .int 1, .ref q93, .int 0, .ref q94, .null, .ref q95, .null, .ref q96, .ref q97, .ref q98, .ref q99, .ref q100, .int 0, .ref q101, .ref q102, .ref q103, .ref q104, .ref q105, .int 0, .int 0]))]) [0] (by decide) rfl
  have hKc := hK.sub (tys' := []) [] rfl
  have hFc := va_free (wc := [(q86, .inr (15, [.ref q87, .ref q88, .ref q89, .ref q90, .ref q91, .ref q92, .int 0, .int 1, .ref q93, .int 0, .ref q94, .null, .ref q95, .null, .ref q96, .ref q97, .ref q98, .ref q99, .ref q100, .int 0, .ref q101, .ref q102, .ref q103, .ref q104, .ref q105, .int 0, .int 0]))]) hD hS hA [0] rfl
  refine va_calli (va_runV (As := []) (rest := []) ⟨hx, hb, hml, hown, hts⟩ (c_X13_suggest l dC dI q86 q87 q88 q89 q90 q91 q92 q93 q94 q95 q96 q97 q98 q99 q100 q101 q102 q103 q104 q105 H.size  ) (cwV 0 hts gL_law_X13_suggest rfl rfl rfl (by decide +kernel) ⟨Nat.le_of_ble_eq_true rfl, Nat.le_of_ble_eq_true rfl⟩) ⟨zB_blind, va_recv hK hP (ci := 15) (q0 := 0) rfl rfl, (zPre hPc hDc hKc hS hFc hZ hN)⟩ rfl rfl hl.1 rfl (lv_room (Nat.le_of_ble_eq_true rfl)) dL_law_1048 ⟨Nat.le_of_ble_eq_true rfl, Nat.le_of_ble_eq_true rfl⟩) hS (fun q _ h => hFc q h) hFc (fun r u t H1 locs ht hvm hw hB hz1 hk1 hS => ?_)
  subst hw
  obtain ⟨hP1, hK1, hD1⟩ := hB
  rw [ht] at hP1
  have hK1 := va_K.moved hvm.symm hK1
  obtain ⟨hP, hD⟩ := va_join (wr := []) (w1 := [(q86, .inr (15, [.ref q87, .ref q88, .ref q89, .ref q90, .ref q91, .ref q92, .int 0, .int 1, .ref q93, .int 0, .ref q94, .null, .ref q95, .null, .ref q96, .ref q97, .ref q98, .ref q99, .ref q100, .int 1, .ref q101, .ref q102, .ref q103, .ref q104, .ref q105, .int 0, .int 0]))]) hP hD [0] [] rfl rfl (by decide) (by decide) hk1 hFc hP1 hD1
  have hK := (hK.sub (tys' := []) [] rfl).app hK1
  generalize H1 = H at hP hS ⊢
  have hP : va_P (dC, dI) vwCl [(q86, .inr (15, [.ref q87, .ref q88, .ref q89, .ref q90, .ref q91, .ref q92, .int 0, .int 1, .ref q93, .int 0, .ref q94, .null, .ref q95, .null, .ref q96, .ref q97, .ref q98, .ref q99, .ref q100, .int 1, .ref q101, .ref q102, .ref q103, .ref q104, .ref q105, .int 0, .int 0]))] H := hP
  have hD : va_D (fun q : Nat => s.heap.size ≤ q) [(q86, .inr (15, [.ref q87, .ref q88, .ref q89, .ref q90, .ref q91, .ref q92, .int 0, .int 1, .ref q93, .int 0, .ref q94, .null, .ref q95, .null, .ref q96, .ref q97, .ref q98, .ref q99, .ref q100, .int 1, .ref q101, .ref q102, .ref q103, .ref q104, .ref q105, .int 0, .int 0]))] := hD
  have hK : va_K (dC, dI) vwCl [] s := hK
  refine W.widen (k := 132) (n := 6698) (Nat.le_of_ble_eq_true rfl) (Nat.le_of_ble_eq_true rfl) ?_
  refine lv_istore (lv' := [(6, .int 0), (5, .int 1), (4, .int 0), (3, .ref q106), (2, .ref q86), (1, .ref q0), (0, .ref b)]) hx hb dL_law_1051 hl (by decide) rfl (fun ls hl => ?_)
  refine lv_aload_n hx hb dL_law_1053 rfl (lv_at hl 4 rfl) ?_
  have hPc := hP.sub (ws' := [(q86, .inr (15, [.ref q87, .ref q88, .ref q89, .ref q90, .ref q91, .ref q92, .int 0, .int 1, .ref q93, .int 0, .ref q94, .null, .ref q95, .null, .ref q96, .ref q97, .ref q98, .ref q99, .ref q100, .int 1, .ref q101, .ref q102, .ref q103, .ref q104, .ref q105, .int 0, .int 0]))]) [0] rfl
  have hDc := hD.sub (ws' := [(q86, .inr (15, [.ref q87, .ref q88, .ref q89, .ref q90, .ref q91, .ref q92, .int 0, .int 1, .ref q93, .int 0, .ref q94, .null, .ref q95, .null, .ref q96, .ref q97, .ref q98, .ref q99, .ref q100, .int 1, .ref q101, .ref q102, .ref q103, .ref q104, .ref q105, .int 0, .int 0]))]) [0] (by decide) rfl
  have hKc := hK.sub (tys' := []) [] rfl
  have hFc := va_free (wc := [(q86, .inr (15, [.ref q87, .ref q88, .ref q89, .ref q90, .ref q91, .ref q92, .int 0, .int 1, .ref q93, .int 0, .ref q94, .null, .ref q95, .null, .ref q96, .ref q97, .ref q98, .ref q99, .ref q100, .int 1, .ref q101, .ref q102, .ref q103, .ref q104, .ref q105, .int 0, .int 0]))]) hD hS hA [0] rfl
  refine va_calli (va_runV (As := []) (rest := []) ⟨hx, hb, hml, hown, hts⟩ (c_X13_thrown l dC dI q86 q87 q88 q89 q90 q91 q92 q93 q94 q95 q96 q97 q98 q99 q100 q101 q102 q103 q104 q105 H.size  ) (cwV 0 hts gL_law_X13_thrown rfl rfl rfl (by decide +kernel) ⟨Nat.le_of_ble_eq_true rfl, Nat.le_of_ble_eq_true rfl⟩) ⟨zB_blind, va_recv hK hP (ci := 15) (q0 := 0) rfl rfl, (zPre hPc hDc hKc hS hFc hZ hN)⟩ rfl rfl hl.1 rfl (lv_room (Nat.le_of_ble_eq_true rfl)) dL_law_1054 ⟨Nat.le_of_ble_eq_true rfl, Nat.le_of_ble_eq_true rfl⟩) hS (fun q _ h => hFc q h) hFc (fun r u t H1 locs ht hvm hw hB hz1 hk1 hS => ?_)
  subst hw
  obtain ⟨hP1, hK1, hD1⟩ := hB
  rw [ht] at hP1
  have hK1 := va_K.moved hvm.symm hK1
  obtain ⟨hP, hD⟩ := va_join (wr := []) (w1 := []) hP hD [0] [] rfl rfl (by decide) (by decide) hk1 hFc hP1 hD1
  have hK := (hK.sub (tys' := []) [] rfl).app hK1
  generalize H1 = H at hP hS ⊢
  have hP : va_P (dC, dI) vwCl [] H := hP
  have hD : va_D (fun q : Nat => s.heap.size ≤ q) [] := hD
  have hK : va_K (dC, dI) vwCl [] s := hK
  refine W.widen (k := 132) (n := 6698) (Nat.le_of_ble_eq_true rfl) (Nat.le_of_ble_eq_true rfl) ?_
  refine lv_iload hx hb dL_law_1057 (lv_at hl 1 rfl) ?_
  refine lv_icmp_eq (tgt := 1064) hx hb dL_law_1059 (by decide) (fun _ => ?_) (fun h9 => absurd (show (1 : Int32) = (1 : Int32) by decide +kernel) h9)
  refine lv_iload hx hb dL_law_1064 (lv_at hl 1 rfl) ?_
  refine lv_if_ne (tgt := 1081) hx hb dL_law_1066 (by decide) (fun _ => ?_) (fun h9 => absurd h9 (show ¬ (1 : Int32) = (0 : Int32) by decide +kernel))
  refine lv_goto (tgt := 2311) hx hb dL_law_1081 (by decide) ?_
  exact law_exit C0 hS (Nat.le_of_ble_eq_true rfl) (Nat.le_of_ble_eq_true rfl) ls (lv_sub hl [2, 3, 4, 5, 6] rfl)
set_option maxHeartbeats 8000000 in
set_option maxRecDepth 100000 in
theorem law_case_18 {p : Program} {l : Launch} {e : Env} {s : State} {m : MethodId} {below : List Frame} {meth : Method} {c : Code} {b : Nat} {xs : Nat → Int32} (hfl : l.stackTraces = false) (C0 : lw_At p s m meth c b 4 xs) {dC : Nat → ClassId} {dI : Nat → Nat → Nat} {q0 q1 q3 q5 q7 q9 q11 q13 q15 q17 q21 q25 q26 q27 q2 q4 q6 q8 q10 q16 q18 q22 q23 q86 q87 q88 q89 q90 q91 q92 q93 q94 q95 q96 q97 q98 q99 q100 q101 q102 q103 q104 q105 q106 : Nat} {k2 k4 k87 k88 k89 k90 k91 k92 k93 k94 k96 k106 : ClassId} {H : Heap} {locs : List Loc} (hK : va_K (dC, dI) vwCl [(k2, .char), (k4, (.object "Seekwell$Text")), (k87, .boolean), (k88, .int), (k89, .int), (k90, .char), (k91, (.array .long)), (k92, (.array .long)), (k93, .int), (k94, .int), (k96, .boolean), (k106, .long)] s) (hP : va_P (dC, dI) vwCl [(q0, .inr (13, [.ref q1, .ref q3, .ref q5, .ref q7, .ref q9, .ref q11, .ref q13, .ref q15, .int 0, .ref q17, .ref q21, .ref q25, .ref q26, .ref q27])), (q1, .inr (7, [.ref q2, .int 0])), (q2, .inl (k2, 512, .inl (fun _ => 0))), (q3, .inr (11, [.ref q4, .int 0, .int 1])), (q4, .inl (k4, 24, .inr (.inr (.inr (.inr (fun _ => none)))))), (q5, .inr (11, [.ref q6, .int 0, .int 1])), (q7, .inr (10, [.ref q8, .int 0])), (q9, .inr (5, [.ref q10, .int 0, .int 0])), (q15, .inr (5, [.ref q16, .int 0, .int 0])), (q17, .inr (9, [.ref q18, .ref q18, .null])), (q21, .inr (9, [.ref q22, .ref q22, .null])), (q22, .inr (8, [.int 0, .int 0, .int 1, .int 0, .int 0, .int 0, .ref q23, .null, .null, .null, .null, .int 0, .int 0, .int 0, .int 0, .null, .null])), (q26, .inr (3, [.null, .null, .int 0, .int 0, .null])), (q86, .inr (15, [.ref q87, .ref q88, .ref q89, .ref q90, .ref q91, .ref q92, .int 0, .int 1, .ref q93, .int 0, .ref q94, .null, .ref q95, .null, .ref q96, .ref q97, .ref q98, .ref q99, .ref q100, .int 0, .ref q101, .ref q102, .ref q103, .ref q104, .ref q105, .int 0, .int 0])), (q87, .inl (k87, 24, .inl (fun _ => 0))), (q88, .inl (k88, 24, .inl (fun _ => 0))), (q89, .inl (k89, 24, .inl (fun _ => 0))), (q90, .inl (k90, 24, .inl (fun _ => 0))), (q91, .inl (k91, 24, .inr (.inr (.inr (.inr (fun _ => none)))))), (q92, .inl (k92, 24, .inr (.inr (.inr (.inr (fun _ => none)))))), (q93, .inl (k93, 4000, .inl (fun _ => 0))), (q94, .inl (k94, 0, .inl (fun _ => 0))), (q96, .inl (k96, 24, .inl (fun _ => 0))), (q106, .inl (k106, 1, .inr (.inl (fun _ => 0))))] H) (hD : va_D (fun q : Nat => s.heap.size ≤ q) [(q0, .inr (13, [.ref q1, .ref q3, .ref q5, .ref q7, .ref q9, .ref q11, .ref q13, .ref q15, .int 0, .ref q17, .ref q21, .ref q25, .ref q26, .ref q27])), (q1, .inr (7, [.ref q2, .int 0])), (q2, .inl (k2, 512, .inl (fun _ => 0))), (q3, .inr (11, [.ref q4, .int 0, .int 1])), (q4, .inl (k4, 24, .inr (.inr (.inr (.inr (fun _ => none)))))), (q5, .inr (11, [.ref q6, .int 0, .int 1])), (q7, .inr (10, [.ref q8, .int 0])), (q9, .inr (5, [.ref q10, .int 0, .int 0])), (q15, .inr (5, [.ref q16, .int 0, .int 0])), (q17, .inr (9, [.ref q18, .ref q18, .null])), (q21, .inr (9, [.ref q22, .ref q22, .null])), (q22, .inr (8, [.int 0, .int 0, .int 1, .int 0, .int 0, .int 0, .ref q23, .null, .null, .null, .null, .int 0, .int 0, .int 0, .int 0, .null, .null])), (q26, .inr (3, [.null, .null, .int 0, .int 0, .null])), (q86, .inr (15, [.ref q87, .ref q88, .ref q89, .ref q90, .ref q91, .ref q92, .int 0, .int 1, .ref q93, .int 0, .ref q94, .null, .ref q95, .null, .ref q96, .ref q97, .ref q98, .ref q99, .ref q100, .int 0, .ref q101, .ref q102, .ref q103, .ref q104, .ref q105, .int 0, .int 0])), (q87, .inl (k87, 24, .inl (fun _ => 0))), (q88, .inl (k88, 24, .inl (fun _ => 0))), (q89, .inl (k89, 24, .inl (fun _ => 0))), (q90, .inl (k90, 24, .inl (fun _ => 0))), (q91, .inl (k91, 24, .inr (.inr (.inr (.inr (fun _ => none)))))), (q92, .inl (k92, 24, .inr (.inr (.inr (.inr (fun _ => none)))))), (q93, .inl (k93, 4000, .inl (fun _ => 0))), (q94, .inl (k94, 0, .inl (fun _ => 0))), (q96, .inl (k96, 24, .inl (fun _ => 0))), (q106, .inl (k106, 1, .inr (.inl (fun _ => 0))))]) (hS : va_S (fun q : Nat => s.heap.size ≤ q) s.heap H locs) (hZ : zZ (fun q : Nat => s.heap.size ≤ q) s s.heap) (hN : zN s) (ls : Array Slot) (hl : lv_has ls 7 [(4, .int 0), (3, .ref q106), (2, .ref q86), (1, .ref q0), (0, .ref b)]) : W p l e room_1 s m #[Value.ref b] below meth c H locs 131 6692 (lw_Z below #[Value.ref b] s) (F0 m 1084 ls []) := by
  obtain ⟨hx, hb, hr, hml, hown, hts, hX, hbl, hlocks, hgv⟩ := id C0
  have hbA : ¬ (fun q : Nat => s.heap.size ≤ q) b := Nat.not_le.mpr hbl
  have hA : ∀ q : Nat, s.heap.size ≤ q → (fun q : Nat => s.heap.size ≤ q) q := fun _ h => h
  refine lv_aload_n hx hb dL_law_1084 rfl (lv_at hl 3 rfl) ?_
  have hPc := hP.sub (ws' := [(q0, .inr (13, [.ref q1, .ref q3, .ref q5, .ref q7, .ref q9, .ref q11, .ref q13, .ref q15, .int 0, .ref q17, .ref q21, .ref q25, .ref q26, .ref q27])), (q3, .inr (11, [.ref q4, .int 0, .int 1]))]) [0, 3] rfl
  have hDc := hD.sub (ws' := [(q0, .inr (13, [.ref q1, .ref q3, .ref q5, .ref q7, .ref q9, .ref q11, .ref q13, .ref q15, .int 0, .ref q17, .ref q21, .ref q25, .ref q26, .ref q27])), (q3, .inr (11, [.ref q4, .int 0, .int 1]))]) [0, 3] (by decide) rfl
  have hKc := hK.sub (tys' := []) [] rfl
  have hFc := va_free (wc := [(q0, .inr (13, [.ref q1, .ref q3, .ref q5, .ref q7, .ref q9, .ref q11, .ref q13, .ref q15, .int 0, .ref q17, .ref q21, .ref q25, .ref q26, .ref q27])), (q3, .inr (11, [.ref q4, .int 0, .int 1]))]) hD hS hA [0, 3] rfl
  refine va_calli (va_runV (As := []) (rest := []) ⟨hx, hb, hml, hown, hts⟩ (c_X11_parts l dC dI q0 q1 q3 q5 q7 q9 q11 q13 q15 q17 q21 q25 q26 q27 q4 H.size  ) (cwV 0 hts gL_law_X11_parts rfl rfl rfl (by decide +kernel) ⟨Nat.le_of_ble_eq_true rfl, Nat.le_of_ble_eq_true rfl⟩) ⟨zB_blind, va_recv hK hP (ci := 13) (q0 := 0) rfl rfl, (zPre hPc hDc hKc hS hFc hZ hN)⟩ rfl rfl hl.1 rfl (lv_room (Nat.le_of_ble_eq_true rfl)) dL_law_1085 ⟨Nat.le_of_ble_eq_true rfl, Nat.le_of_ble_eq_true rfl⟩) hS (fun q _ h => hFc q h) hFc (fun r u t H1 locs ht hvm hw hB hz1 hk1 hS => ?_)
  subst hw
  obtain ⟨hP1, hK1, hD1⟩ := hB
  rw [ht] at hP1
  have hK1 := va_K.moved hvm.symm hK1
  obtain ⟨hP, hD⟩ := va_join (wr := [(q86, .inr (15, [.ref q87, .ref q88, .ref q89, .ref q90, .ref q91, .ref q92, .int 0, .int 1, .ref q93, .int 0, .ref q94, .null, .ref q95, .null, .ref q96, .ref q97, .ref q98, .ref q99, .ref q100, .int 0, .ref q101, .ref q102, .ref q103, .ref q104, .ref q105, .int 0, .int 0]))]) (w1 := []) hP hD [0, 3] [13] rfl rfl (by decide) (by decide) hk1 hFc hP1 hD1
  have hK := (hK.sub (tys' := []) [] rfl).app hK1
  generalize H1 = H at hP hS ⊢
  have hP : va_P (dC, dI) vwCl [(q86, .inr (15, [.ref q87, .ref q88, .ref q89, .ref q90, .ref q91, .ref q92, .int 0, .int 1, .ref q93, .int 0, .ref q94, .null, .ref q95, .null, .ref q96, .ref q97, .ref q98, .ref q99, .ref q100, .int 0, .ref q101, .ref q102, .ref q103, .ref q104, .ref q105, .int 0, .int 0]))] H := hP
  have hD : va_D (fun q : Nat => s.heap.size ≤ q) [(q86, .inr (15, [.ref q87, .ref q88, .ref q89, .ref q90, .ref q91, .ref q92, .int 0, .int 1, .ref q93, .int 0, .ref q94, .null, .ref q95, .null, .ref q96, .ref q97, .ref q98, .ref q99, .ref q100, .int 0, .ref q101, .ref q102, .ref q103, .ref q104, .ref q105, .int 0, .int 0]))] := hD
  have hK : va_K (dC, dI) vwCl [] s := hK
  refine W.widen (k := 131) (n := 6692) (Nat.le_of_ble_eq_true rfl) (Nat.le_of_ble_eq_true rfl) ?_
  refine lv_aload_n hx hb dL_law_1088 rfl (lv_at hl 2 rfl) ?_
  have hPc := hP.sub (ws' := [(q86, .inr (15, [.ref q87, .ref q88, .ref q89, .ref q90, .ref q91, .ref q92, .int 0, .int 1, .ref q93, .int 0, .ref q94, .null, .ref q95, .null, .ref q96, .ref q97, .ref q98, .ref q99, .ref q100, .int 0, .ref q101, .ref q102, .ref q103, .ref q104, .ref q105, .int 0, .int 0]))]) [0] rfl
  have hDc := hD.sub (ws' := [(q86, .inr (15, [.ref q87, .ref q88, .ref q89, .ref q90, .ref q91, .ref q92, .int 0, .int 1, .ref q93, .int 0, .ref q94, .null, .ref q95, .null, .ref q96, .ref q97, .ref q98, .ref q99, .ref q100, .int 0, .ref q101, .ref q102, .ref q103, .ref q104, .ref q105, .int 0, .int 0]))]) [0] (by decide) rfl
  have hKc := hK.sub (tys' := []) [] rfl
  have hFc := va_free (wc := [(q86, .inr (15, [.ref q87, .ref q88, .ref q89, .ref q90, .ref q91, .ref q92, .int 0, .int 1, .ref q93, .int 0, .ref q94, .null, .ref q95, .null, .ref q96, .ref q97, .ref q98, .ref q99, .ref q100, .int 0, .ref q101, .ref q102, .ref q103, .ref q104, .ref q105, .int 0, .int 0]))]) hD hS hA [0] rfl
  refine va_calli (va_runV (As := []) (rest := [.int 1]) ⟨hx, hb, hml, hown, hts⟩ (c_X13_parts l dC dI q86 q87 q88 q89 q90 q91 q92 q93 q94 q95 q96 q97 q98 q99 q100 q101 q102 q103 q104 q105 H.size  ) (cwV 0 hts gL_law_X13_parts rfl rfl rfl (by decide +kernel) ⟨Nat.le_of_ble_eq_true rfl, Nat.le_of_ble_eq_true rfl⟩) ⟨zB_blind, va_recv hK hP (ci := 15) (q0 := 0) rfl rfl, (zPre hPc hDc hKc hS hFc hZ hN)⟩ rfl rfl hl.1 rfl (lv_room (Nat.le_of_ble_eq_true rfl)) dL_law_1089 ⟨Nat.le_of_ble_eq_true rfl, Nat.le_of_ble_eq_true rfl⟩) hS (fun q _ h => hFc q h) hFc (fun r u t H1 locs ht hvm hw hB hz1 hk1 hS => ?_)
  subst hw
  obtain ⟨hP1, hK1, hD1⟩ := hB
  rw [ht] at hP1
  have hK1 := va_K.moved hvm.symm hK1
  obtain ⟨hP, hD⟩ := va_join (wr := []) (w1 := []) hP hD [0] [] rfl rfl (by decide) (by decide) hk1 hFc hP1 hD1
  have hK := (hK.sub (tys' := []) [] rfl).app hK1
  generalize H1 = H at hP hS ⊢
  have hP : va_P (dC, dI) vwCl [] H := hP
  have hD : va_D (fun q : Nat => s.heap.size ≤ q) [] := hD
  have hK : va_K (dC, dI) vwCl [] s := hK
  refine W.widen (k := 131) (n := 6692) (Nat.le_of_ble_eq_true rfl) (Nat.le_of_ble_eq_true rfl) ?_
  refine lv_icmp_eq (tgt := 2311) hx hb dL_law_1092 (by decide) (fun _ => ?_) (fun h9 => absurd (show (1 : Int32) = (1 : Int32) by decide +kernel) h9)
  exact law_exit C0 hS (Nat.le_of_ble_eq_true rfl) (Nat.le_of_ble_eq_true rfl) ls (lv_sub hl [0, 1, 2, 3, 4] rfl)
set_option maxHeartbeats 8000000 in
set_option maxRecDepth 100000 in
theorem law_case_19 {p : Program} {l : Launch} {e : Env} {s : State} {m : MethodId} {below : List Frame} {meth : Method} {c : Code} {b : Nat} {xs : Nat → Int32} (hfl : l.stackTraces = false) (C0 : lw_At p s m meth c b 4 xs) {dC : Nat → ClassId} {dI : Nat → Nat → Nat} {q0 q1 q3 q5 q7 q9 q11 q13 q15 q17 q21 q25 q26 q27 q2 q4 q6 q8 q10 q16 q18 q22 q23 q86 q87 q88 q89 q90 q91 q92 q93 q94 q95 q96 q97 q98 q99 q100 q101 q102 q103 q104 q105 q106 : Nat} {k2 k4 k87 k88 k89 k90 k91 k92 k93 k94 k96 k106 : ClassId} {H : Heap} {locs : List Loc} (hK : va_K (dC, dI) vwCl [(k2, .char), (k4, (.object "Seekwell$Text")), (k87, .boolean), (k88, .int), (k89, .int), (k90, .char), (k91, (.array .long)), (k92, (.array .long)), (k93, .int), (k94, .int), (k96, .boolean), (k106, .long)] s) (hP : va_P (dC, dI) vwCl [(q0, .inr (13, [.ref q1, .ref q3, .ref q5, .ref q7, .ref q9, .ref q11, .ref q13, .ref q15, .int 0, .ref q17, .ref q21, .ref q25, .ref q26, .ref q27])), (q1, .inr (7, [.ref q2, .int 0])), (q2, .inl (k2, 512, .inl (fun _ => 0))), (q3, .inr (11, [.ref q4, .int 0, .int 1])), (q4, .inl (k4, 24, .inr (.inr (.inr (.inr (fun _ => none)))))), (q5, .inr (11, [.ref q6, .int 0, .int 1])), (q7, .inr (10, [.ref q8, .int 0])), (q9, .inr (5, [.ref q10, .int 0, .int 0])), (q15, .inr (5, [.ref q16, .int 0, .int 0])), (q17, .inr (9, [.ref q18, .ref q18, .null])), (q21, .inr (9, [.ref q22, .ref q22, .null])), (q22, .inr (8, [.int 0, .int 0, .int 1, .int 0, .int 0, .int 0, .ref q23, .null, .null, .null, .null, .int 0, .int 0, .int 0, .int 0, .null, .null])), (q26, .inr (3, [.null, .null, .int 0, .int 0, .null])), (q86, .inr (15, [.ref q87, .ref q88, .ref q89, .ref q90, .ref q91, .ref q92, .int 0, .int 1, .ref q93, .int 0, .ref q94, .null, .ref q95, .null, .ref q96, .ref q97, .ref q98, .ref q99, .ref q100, .int 0, .ref q101, .ref q102, .ref q103, .ref q104, .ref q105, .int 0, .int 0])), (q87, .inl (k87, 24, .inl (fun _ => 0))), (q88, .inl (k88, 24, .inl (fun _ => 0))), (q89, .inl (k89, 24, .inl (fun _ => 0))), (q90, .inl (k90, 24, .inl (fun _ => 0))), (q91, .inl (k91, 24, .inr (.inr (.inr (.inr (fun _ => none)))))), (q92, .inl (k92, 24, .inr (.inr (.inr (.inr (fun _ => none)))))), (q93, .inl (k93, 4000, .inl (fun _ => 0))), (q94, .inl (k94, 0, .inl (fun _ => 0))), (q96, .inl (k96, 24, .inl (fun _ => 0))), (q106, .inl (k106, 1, .inr (.inl (fun _ => 0))))] H) (hD : va_D (fun q : Nat => s.heap.size ≤ q) [(q0, .inr (13, [.ref q1, .ref q3, .ref q5, .ref q7, .ref q9, .ref q11, .ref q13, .ref q15, .int 0, .ref q17, .ref q21, .ref q25, .ref q26, .ref q27])), (q1, .inr (7, [.ref q2, .int 0])), (q2, .inl (k2, 512, .inl (fun _ => 0))), (q3, .inr (11, [.ref q4, .int 0, .int 1])), (q4, .inl (k4, 24, .inr (.inr (.inr (.inr (fun _ => none)))))), (q5, .inr (11, [.ref q6, .int 0, .int 1])), (q7, .inr (10, [.ref q8, .int 0])), (q9, .inr (5, [.ref q10, .int 0, .int 0])), (q15, .inr (5, [.ref q16, .int 0, .int 0])), (q17, .inr (9, [.ref q18, .ref q18, .null])), (q21, .inr (9, [.ref q22, .ref q22, .null])), (q22, .inr (8, [.int 0, .int 0, .int 1, .int 0, .int 0, .int 0, .ref q23, .null, .null, .null, .null, .int 0, .int 0, .int 0, .int 0, .null, .null])), (q26, .inr (3, [.null, .null, .int 0, .int 0, .null])), (q86, .inr (15, [.ref q87, .ref q88, .ref q89, .ref q90, .ref q91, .ref q92, .int 0, .int 1, .ref q93, .int 0, .ref q94, .null, .ref q95, .null, .ref q96, .ref q97, .ref q98, .ref q99, .ref q100, .int 0, .ref q101, .ref q102, .ref q103, .ref q104, .ref q105, .int 0, .int 0])), (q87, .inl (k87, 24, .inl (fun _ => 0))), (q88, .inl (k88, 24, .inl (fun _ => 0))), (q89, .inl (k89, 24, .inl (fun _ => 0))), (q90, .inl (k90, 24, .inl (fun _ => 0))), (q91, .inl (k91, 24, .inr (.inr (.inr (.inr (fun _ => none)))))), (q92, .inl (k92, 24, .inr (.inr (.inr (.inr (fun _ => none)))))), (q93, .inl (k93, 4000, .inl (fun _ => 0))), (q94, .inl (k94, 0, .inl (fun _ => 0))), (q96, .inl (k96, 24, .inl (fun _ => 0))), (q106, .inl (k106, 1, .inr (.inl (fun _ => 0))))]) (hS : va_S (fun q : Nat => s.heap.size ≤ q) s.heap H locs) (hZ : zZ (fun q : Nat => s.heap.size ≤ q) s s.heap) (hN : zN s) (ls : Array Slot) (hl : lv_has ls 7 [(4, .int 0), (3, .ref q106), (2, .ref q86), (1, .ref q0), (0, .ref b)]) : W p l e room_1 s m #[Value.ref b] below meth c H locs 131 6692 (lw_Z below #[Value.ref b] s) (F0 m 1097 ls []) := by
  obtain ⟨hx, hb, hr, hml, hown, hts, hX, hbl, hlocks, hgv⟩ := id C0
  have hbA : ¬ (fun q : Nat => s.heap.size ≤ q) b := Nat.not_le.mpr hbl
  have hA : ∀ q : Nat, s.heap.size ≤ q → (fun q : Nat => s.heap.size ≤ q) q := fun _ h => h
  by_cases hb0 : (xs 1) < (0 : Int32)
  · skip
    have hc0 : (xs 1) < (0 : Int32) := hb0
    refine lv_aload_n hx hb dL_law_1097 rfl (lv_at hl 3 rfl) ?_
    refine lv_aload_n hx hb dL_law_1098 rfl (lv_at hl 4 rfl) ?_
    refine lv_iload hx hb dL_law_1099 (lv_at hl 0 rfl) ?_
    refine lv_iconst (v := 1) hx hb dL_law_1101 (by decide +kernel) ?_
    refine lv_iadd hx hb dL_law_1102 ?_
    refine zt_i (v := 1) (by decide +kernel) ?_
    refine va_sld hx hb hX hbl hbA hS (i := 1) (zin (by decide +kernel)) dL_law_1103 ?_
    refine zt_v (w := .int (xs 1)) rfl ?_
    refine lv_aload_n hx hb dL_law_1104 rfl (lv_at hl 1 rfl) ?_
    have hPc := hP.sub (ws' := [(q0, .inr (13, [.ref q1, .ref q3, .ref q5, .ref q7, .ref q9, .ref q11, .ref q13, .ref q15, .int 0, .ref q17, .ref q21, .ref q25, .ref q26, .ref q27]))]) [0] rfl
    have hDc := hD.sub (ws' := [(q0, .inr (13, [.ref q1, .ref q3, .ref q5, .ref q7, .ref q9, .ref q11, .ref q13, .ref q15, .int 0, .ref q17, .ref q21, .ref q25, .ref q26, .ref q27]))]) [0] (by decide) rfl
    have hKc := hK.sub (tys' := []) [] rfl
    have hFc := va_free (wc := [(q0, .inr (13, [.ref q1, .ref q3, .ref q5, .ref q7, .ref q9, .ref q11, .ref q13, .ref q15, .int 0, .ref q17, .ref q21, .ref q25, .ref q26, .ref q27]))]) hD hS hA [0] rfl
    refine va_calli (vx_runSW (As := [.ref q0, .int (xs 1), .ref q106]) (rest := []) ⟨hx, hb, hml, hown, hts⟩ (c_L_partSize l hfl dC dI q0 q106 q1 q3 q5 q7 q9 q11 q13 q15 q17 q21 q25 q26 q27 H.size (xs 1) hc0) (vx_cwSW 3 hts gL_law_L_partSize rfl rfl rfl (by decide +kernel) ⟨Nat.le_of_ble_eq_true rfl, Nat.le_of_ble_eq_true rfl⟩) ⟨zB_blind, (zPre hPc hDc hKc hS hFc hZ hN)⟩ rfl rfl hl.1 rfl (lv_room (Nat.le_of_ble_eq_true rfl)) dL_law_1105 ⟨Nat.le_of_ble_eq_true rfl, Nat.le_of_ble_eq_true rfl⟩) hS (fun q _ h => hFc q h) hFc (fun r u t H1 locs ht hvm hw hB hz1 hk1 hS => ?_)
    subst hw
    obtain ⟨hP1, hK1, hD1⟩ := hB
    rw [ht] at hP1
    have hK1 := va_K.moved hvm.symm hK1
    obtain ⟨hP, hD⟩ := va_join (wr := [(q86, .inr (15, [.ref q87, .ref q88, .ref q89, .ref q90, .ref q91, .ref q92, .int 0, .int 1, .ref q93, .int 0, .ref q94, .null, .ref q95, .null, .ref q96, .ref q97, .ref q98, .ref q99, .ref q100, .int 0, .ref q101, .ref q102, .ref q103, .ref q104, .ref q105, .int 0, .int 0]))]) (w1 := []) hP hD [0] [13] rfl rfl (by decide) (by decide) hk1 hFc hP1 hD1
    have hK := (hK.sub (tys' := []) [] rfl).app hK1
    generalize H1 = H at hP hS ⊢
    have hP : va_P (dC, dI) vwCl [(q86, .inr (15, [.ref q87, .ref q88, .ref q89, .ref q90, .ref q91, .ref q92, .int 0, .int 1, .ref q93, .int 0, .ref q94, .null, .ref q95, .null, .ref q96, .ref q97, .ref q98, .ref q99, .ref q100, .int 0, .ref q101, .ref q102, .ref q103, .ref q104, .ref q105, .int 0, .int 0]))] H := hP
    have hD : va_D (fun q : Nat => s.heap.size ≤ q) [(q86, .inr (15, [.ref q87, .ref q88, .ref q89, .ref q90, .ref q91, .ref q92, .int 0, .int 1, .ref q93, .int 0, .ref q94, .null, .ref q95, .null, .ref q96, .ref q97, .ref q98, .ref q99, .ref q100, .int 0, .ref q101, .ref q102, .ref q103, .ref q104, .ref q105, .int 0, .int 0]))] := hD
    have hK : va_K (dC, dI) vwCl [] s := hK
    refine W.widen (k := 132) (n := 6698) (Nat.le_of_ble_eq_true rfl) (Nat.le_of_ble_eq_true rfl) ?_
    refine lv_istore (lv' := [(5, .int 1), (4, .int 0), (3, .ref q106), (2, .ref q86), (1, .ref q0), (0, .ref b)]) hx hb dL_law_1108 hl (by decide) rfl (fun ls hl => ?_)
    refine lv_aload_n hx hb dL_law_1110 rfl (lv_at hl 3 rfl) ?_
    refine lv_aload_n hx hb dL_law_1111 rfl (lv_at hl 5 rfl) ?_
    refine lv_iload hx hb dL_law_1112 (lv_at hl 1 rfl) ?_
    refine lv_iconst (v := 1) hx hb dL_law_1114 (by decide +kernel) ?_
    refine lv_iadd hx hb dL_law_1115 ?_
    refine zt_i (v := 1) (by decide +kernel) ?_
    refine va_sld hx hb hX hbl hbA hS (i := 1) (zin (by decide +kernel)) dL_law_1116 ?_
    refine zt_v (w := .int (xs 1)) rfl ?_
    have hPc := hP.sub (ws' := [(q86, .inr (15, [.ref q87, .ref q88, .ref q89, .ref q90, .ref q91, .ref q92, .int 0, .int 1, .ref q93, .int 0, .ref q94, .null, .ref q95, .null, .ref q96, .ref q97, .ref q98, .ref q99, .ref q100, .int 0, .ref q101, .ref q102, .ref q103, .ref q104, .ref q105, .int 0, .int 0]))]) [0] rfl
    have hDc := hD.sub (ws' := [(q86, .inr (15, [.ref q87, .ref q88, .ref q89, .ref q90, .ref q91, .ref q92, .int 0, .int 1, .ref q93, .int 0, .ref q94, .null, .ref q95, .null, .ref q96, .ref q97, .ref q98, .ref q99, .ref q100, .int 0, .ref q101, .ref q102, .ref q103, .ref q104, .ref q105, .int 0, .int 0]))]) [0] (by decide) rfl
    have hKc := hK.sub (tys' := []) [] rfl
    have hFc := va_free (wc := [(q86, .inr (15, [.ref q87, .ref q88, .ref q89, .ref q90, .ref q91, .ref q92, .int 0, .int 1, .ref q93, .int 0, .ref q94, .null, .ref q95, .null, .ref q96, .ref q97, .ref q98, .ref q99, .ref q100, .int 0, .ref q101, .ref q102, .ref q103, .ref q104, .ref q105, .int 0, .int 0]))]) hD hS hA [0] rfl
    refine va_calli (va_runV (As := [.int (xs 1)]) (rest := []) ⟨hx, hb, hml, hown, hts⟩ (c_X13_partSize l dC dI q86 q87 q88 q89 q90 q91 q92 q93 q94 q95 q96 q97 q98 q99 q100 q101 q102 q103 q104 q105 H.size (xs 1) hc0) (cwV 1 hts gL_law_X13_partSize rfl rfl rfl (by decide +kernel) ⟨Nat.le_of_ble_eq_true rfl, Nat.le_of_ble_eq_true rfl⟩) ⟨zB_blind, va_recv hK hP (ci := 15) (q0 := 0) rfl rfl, (zPre hPc hDc hKc hS hFc hZ hN)⟩ rfl rfl hl.1 rfl (lv_room (Nat.le_of_ble_eq_true rfl)) dL_law_1117 ⟨Nat.le_of_ble_eq_true rfl, Nat.le_of_ble_eq_true rfl⟩) hS (fun q _ h => hFc q h) hFc (fun r u t H1 locs ht hvm hw hB hz1 hk1 hS => ?_)
    subst hw
    obtain ⟨hP1, hK1, hD1⟩ := hB
    rw [ht] at hP1
    have hK1 := va_K.moved hvm.symm hK1
    obtain ⟨hP, hD⟩ := va_join (wr := []) (w1 := [(q86, .inr (15, [.ref q87, .ref q88, .ref q89, .ref q90, .ref q91, .ref q92, .int 0, .int 1, .ref q93, .int 0, .ref q94, .null, .ref q95, .null, .ref q96, .ref q97, .ref q98, .ref q99, .ref q100, .int 1, .ref q101, .ref q102, .ref q103, .ref q104, .ref q105, .int 0, .int 0]))]) hP hD [0] [] rfl rfl (by decide) (by decide) hk1 hFc hP1 hD1
    have hK := (hK.sub (tys' := []) [] rfl).app hK1
    generalize H1 = H at hP hS ⊢
    have hP : va_P (dC, dI) vwCl [(q86, .inr (15, [.ref q87, .ref q88, .ref q89, .ref q90, .ref q91, .ref q92, .int 0, .int 1, .ref q93, .int 0, .ref q94, .null, .ref q95, .null, .ref q96, .ref q97, .ref q98, .ref q99, .ref q100, .int 1, .ref q101, .ref q102, .ref q103, .ref q104, .ref q105, .int 0, .int 0]))] H := hP
    have hD : va_D (fun q : Nat => s.heap.size ≤ q) [(q86, .inr (15, [.ref q87, .ref q88, .ref q89, .ref q90, .ref q91, .ref q92, .int 0, .int 1, .ref q93, .int 0, .ref q94, .null, .ref q95, .null, .ref q96, .ref q97, .ref q98, .ref q99, .ref q100, .int 1, .ref q101, .ref q102, .ref q103, .ref q104, .ref q105, .int 0, .int 0]))] := hD
    have hK : va_K (dC, dI) vwCl [] s := hK
    refine W.widen (k := 132) (n := 6698) (Nat.le_of_ble_eq_true rfl) (Nat.le_of_ble_eq_true rfl) ?_
    refine lv_istore (lv' := [(6, .int 0), (5, .int 1), (4, .int 0), (3, .ref q106), (2, .ref q86), (1, .ref q0), (0, .ref b)]) hx hb dL_law_1120 hl (by decide) rfl (fun ls hl => ?_)
    refine lv_aload_n hx hb dL_law_1122 rfl (lv_at hl 4 rfl) ?_
    have hPc := hP.sub (ws' := [(q86, .inr (15, [.ref q87, .ref q88, .ref q89, .ref q90, .ref q91, .ref q92, .int 0, .int 1, .ref q93, .int 0, .ref q94, .null, .ref q95, .null, .ref q96, .ref q97, .ref q98, .ref q99, .ref q100, .int 1, .ref q101, .ref q102, .ref q103, .ref q104, .ref q105, .int 0, .int 0]))]) [0] rfl
    have hDc := hD.sub (ws' := [(q86, .inr (15, [.ref q87, .ref q88, .ref q89, .ref q90, .ref q91, .ref q92, .int 0, .int 1, .ref q93, .int 0, .ref q94, .null, .ref q95, .null, .ref q96, .ref q97, .ref q98, .ref q99, .ref q100, .int 1, .ref q101, .ref q102, .ref q103, .ref q104, .ref q105, .int 0, .int 0]))]) [0] (by decide) rfl
    have hKc := hK.sub (tys' := []) [] rfl
    have hFc := va_free (wc := [(q86, .inr (15, [.ref q87, .ref q88, .ref q89, .ref q90, .ref q91, .ref q92, .int 0, .int 1, .ref q93, .int 0, .ref q94, .null, .ref q95, .null, .ref q96, .ref q97, .ref q98, .ref q99, .ref q100, .int 1, .ref q101, .ref q102, .ref q103, .ref q104, .ref q105, .int 0, .int 0]))]) hD hS hA [0] rfl
    refine va_calli (va_runV (As := []) (rest := []) ⟨hx, hb, hml, hown, hts⟩ (c_X13_thrown l dC dI q86 q87 q88 q89 q90 q91 q92 q93 q94 q95 q96 q97 q98 q99 q100 q101 q102 q103 q104 q105 H.size  ) (cwV 0 hts gL_law_X13_thrown rfl rfl rfl (by decide +kernel) ⟨Nat.le_of_ble_eq_true rfl, Nat.le_of_ble_eq_true rfl⟩) ⟨zB_blind, va_recv hK hP (ci := 15) (q0 := 0) rfl rfl, (zPre hPc hDc hKc hS hFc hZ hN)⟩ rfl rfl hl.1 rfl (lv_room (Nat.le_of_ble_eq_true rfl)) dL_law_1123 ⟨Nat.le_of_ble_eq_true rfl, Nat.le_of_ble_eq_true rfl⟩) hS (fun q _ h => hFc q h) hFc (fun r u t H1 locs ht hvm hw hB hz1 hk1 hS => ?_)
    subst hw
    obtain ⟨hP1, hK1, hD1⟩ := hB
    rw [ht] at hP1
    have hK1 := va_K.moved hvm.symm hK1
    obtain ⟨hP, hD⟩ := va_join (wr := []) (w1 := []) hP hD [0] [] rfl rfl (by decide) (by decide) hk1 hFc hP1 hD1
    have hK := (hK.sub (tys' := []) [] rfl).app hK1
    generalize H1 = H at hP hS ⊢
    have hP : va_P (dC, dI) vwCl [] H := hP
    have hD : va_D (fun q : Nat => s.heap.size ≤ q) [] := hD
    have hK : va_K (dC, dI) vwCl [] s := hK
    refine W.widen (k := 132) (n := 6698) (Nat.le_of_ble_eq_true rfl) (Nat.le_of_ble_eq_true rfl) ?_
    refine lv_iload hx hb dL_law_1126 (lv_at hl 1 rfl) ?_
    refine lv_icmp_eq (tgt := 1133) hx hb dL_law_1128 (by decide) (fun _ => ?_) (fun h9 => absurd (show (1 : Int32) = (1 : Int32) by decide +kernel) h9)
    refine lv_iload hx hb dL_law_1133 (lv_at hl 1 rfl) ?_
    refine lv_if_ne (tgt := 1150) hx hb dL_law_1135 (by decide) (fun _ => ?_) (fun h9 => absurd h9 (show ¬ (1 : Int32) = (0 : Int32) by decide +kernel))
    refine lv_goto (tgt := 2311) hx hb dL_law_1150 (by decide) ?_
    exact law_exit C0 hS (Nat.le_of_ble_eq_true rfl) (Nat.le_of_ble_eq_true rfl) ls (lv_sub hl [2, 3, 4, 5, 6] rfl)
  · skip
    by_cases hb1 : (xs 1) < (1 : Int32)
    · skip
      have hc0 : ¬ (xs 1) < (0 : Int32) := hb0
      have hc1 : (xs 1) < (1 : Int32) := hb1
      have hc2 : ¬ (0 : Int32) < (xs 1) := zd_5 hb0 hb1
      refine lv_aload_n hx hb dL_law_1097 rfl (lv_at hl 3 rfl) ?_
      refine lv_aload_n hx hb dL_law_1098 rfl (lv_at hl 4 rfl) ?_
      refine lv_iload hx hb dL_law_1099 (lv_at hl 0 rfl) ?_
      refine lv_iconst (v := 1) hx hb dL_law_1101 (by decide +kernel) ?_
      refine lv_iadd hx hb dL_law_1102 ?_
      refine zt_i (v := 1) (by decide +kernel) ?_
      refine va_sld hx hb hX hbl hbA hS (i := 1) (zin (by decide +kernel)) dL_law_1103 ?_
      refine zt_v (w := .int (xs 1)) rfl ?_
      refine lv_aload_n hx hb dL_law_1104 rfl (lv_at hl 1 rfl) ?_
      have hPc := hP.sub (ws' := [(q0, .inr (13, [.ref q1, .ref q3, .ref q5, .ref q7, .ref q9, .ref q11, .ref q13, .ref q15, .int 0, .ref q17, .ref q21, .ref q25, .ref q26, .ref q27])), (q3, .inr (11, [.ref q4, .int 0, .int 1])), (q106, .inl (k106, 1, .inr (.inl (fun _ => 0))))]) [0, 3, 23] rfl
      have hDc := hD.sub (ws' := [(q0, .inr (13, [.ref q1, .ref q3, .ref q5, .ref q7, .ref q9, .ref q11, .ref q13, .ref q15, .int 0, .ref q17, .ref q21, .ref q25, .ref q26, .ref q27])), (q3, .inr (11, [.ref q4, .int 0, .int 1])), (q106, .inl (k106, 1, .inr (.inl (fun _ => 0))))]) [0, 3, 23] (by decide) rfl
      have hKc := hK.sub (tys' := [(k106, .long)]) [11] rfl
      have hFc := va_free (wc := [(q0, .inr (13, [.ref q1, .ref q3, .ref q5, .ref q7, .ref q9, .ref q11, .ref q13, .ref q15, .int 0, .ref q17, .ref q21, .ref q25, .ref q26, .ref q27])), (q3, .inr (11, [.ref q4, .int 0, .int 1])), (q106, .inl (k106, 1, .inr (.inl (fun _ => 0))))]) hD hS hA [0, 3, 23] rfl
      refine va_calli (vx_runSW (As := [.ref q0, .int (xs 1), .ref q106]) (rest := []) ⟨hx, hb, hml, hown, hts⟩ (c_L_partSize_2 l dC dI q0 q106 q1 q3 q5 q7 q9 q11 q13 q15 q17 q21 q25 q26 q27 q4 k106 H.size (xs 1) hc0 hc1) (vx_cwSW 3 hts gL_law_L_partSize rfl rfl rfl (by decide +kernel) ⟨Nat.le_of_ble_eq_true rfl, Nat.le_of_ble_eq_true rfl⟩) ⟨zB_blind, (zPre hPc hDc hKc hS hFc hZ hN)⟩ rfl rfl hl.1 rfl (lv_room (Nat.le_of_ble_eq_true rfl)) dL_law_1105 ⟨Nat.le_of_ble_eq_true rfl, Nat.le_of_ble_eq_true rfl⟩) hS (fun q _ h => hFc q h) hFc (fun r u t H1 locs ht hvm hw hB hz1 hk1 hS => ?_)
      subst hw
      obtain ⟨hP1, hK1, hD1⟩ := hB
      rw [ht] at hP1
      have hK1 := va_K.moved hvm.symm hK1
      obtain ⟨hP, hD⟩ := va_join (wr := [(q86, .inr (15, [.ref q87, .ref q88, .ref q89, .ref q90, .ref q91, .ref q92, .int 0, .int 1, .ref q93, .int 0, .ref q94, .null, .ref q95, .null, .ref q96, .ref q97, .ref q98, .ref q99, .ref q100, .int 0, .ref q101, .ref q102, .ref q103, .ref q104, .ref q105, .int 0, .int 0]))]) (w1 := [(q106, .inl (k106, 1, .inr (.inl (vp_updL (fun _ => 0) (0 : Int32).toNatClampNeg 0))))]) hP hD [0, 3, 23] [13] rfl rfl (by decide) (by decide) hk1 hFc hP1 hD1
      have hK := (hK.sub (tys' := []) [] rfl).app hK1
      generalize H1 = H at hP hS ⊢
      have hP : va_P (dC, dI) vwCl [(q86, .inr (15, [.ref q87, .ref q88, .ref q89, .ref q90, .ref q91, .ref q92, .int 0, .int 1, .ref q93, .int 0, .ref q94, .null, .ref q95, .null, .ref q96, .ref q97, .ref q98, .ref q99, .ref q100, .int 0, .ref q101, .ref q102, .ref q103, .ref q104, .ref q105, .int 0, .int 0])), (q106, .inl (k106, 1, .inr (.inl (vp_updL (fun _ => 0) (0 : Int32).toNatClampNeg 0))))] H := hP
      have hD : va_D (fun q : Nat => s.heap.size ≤ q) [(q86, .inr (15, [.ref q87, .ref q88, .ref q89, .ref q90, .ref q91, .ref q92, .int 0, .int 1, .ref q93, .int 0, .ref q94, .null, .ref q95, .null, .ref q96, .ref q97, .ref q98, .ref q99, .ref q100, .int 0, .ref q101, .ref q102, .ref q103, .ref q104, .ref q105, .int 0, .int 0])), (q106, .inl (k106, 1, .inr (.inl (vp_updL (fun _ => 0) (0 : Int32).toNatClampNeg 0))))] := hD
      have hK : va_K (dC, dI) vwCl [(k106, .long)] s := hK
      refine W.widen (k := 131) (n := 6692) (Nat.le_of_ble_eq_true rfl) (Nat.le_of_ble_eq_true rfl) ?_
      refine lv_istore (lv' := [(5, .int 0), (4, .int 0), (3, .ref q106), (2, .ref q86), (1, .ref q0), (0, .ref b)]) hx hb dL_law_1108 hl (by decide) rfl (fun ls hl => ?_)
      refine lv_aload_n hx hb dL_law_1110 rfl (lv_at hl 3 rfl) ?_
      refine lv_aload_n hx hb dL_law_1111 rfl (lv_at hl 5 rfl) ?_
      refine lv_iload hx hb dL_law_1112 (lv_at hl 1 rfl) ?_
      refine lv_iconst (v := 1) hx hb dL_law_1114 (by decide +kernel) ?_
      refine lv_iadd hx hb dL_law_1115 ?_
      refine zt_i (v := 1) (by decide +kernel) ?_
      refine va_sld hx hb hX hbl hbA hS (i := 1) (zin (by decide +kernel)) dL_law_1116 ?_
      refine zt_v (w := .int (xs 1)) rfl ?_
      have hPc := hP.sub (ws' := [(q86, .inr (15, [.ref q87, .ref q88, .ref q89, .ref q90, .ref q91, .ref q92, .int 0, .int 1, .ref q93, .int 0, .ref q94, .null, .ref q95, .null, .ref q96, .ref q97, .ref q98, .ref q99, .ref q100, .int 0, .ref q101, .ref q102, .ref q103, .ref q104, .ref q105, .int 0, .int 0]))]) [0] rfl
      have hDc := hD.sub (ws' := [(q86, .inr (15, [.ref q87, .ref q88, .ref q89, .ref q90, .ref q91, .ref q92, .int 0, .int 1, .ref q93, .int 0, .ref q94, .null, .ref q95, .null, .ref q96, .ref q97, .ref q98, .ref q99, .ref q100, .int 0, .ref q101, .ref q102, .ref q103, .ref q104, .ref q105, .int 0, .int 0]))]) [0] (by decide) rfl
      have hKc := hK.sub (tys' := []) [] rfl
      have hFc := va_free (wc := [(q86, .inr (15, [.ref q87, .ref q88, .ref q89, .ref q90, .ref q91, .ref q92, .int 0, .int 1, .ref q93, .int 0, .ref q94, .null, .ref q95, .null, .ref q96, .ref q97, .ref q98, .ref q99, .ref q100, .int 0, .ref q101, .ref q102, .ref q103, .ref q104, .ref q105, .int 0, .int 0]))]) hD hS hA [0] rfl
      refine va_calli (va_runV (As := [.int (xs 1)]) (rest := []) ⟨hx, hb, hml, hown, hts⟩ (c_X13_partSize_2 l dC dI q86 q87 q88 q89 q90 q91 q92 q93 q94 q95 q96 q97 q98 q99 q100 q101 q102 q103 q104 q105 H.size (xs 1) hc0 hc2) (cwV 1 hts gL_law_X13_partSize rfl rfl rfl (by decide +kernel) ⟨Nat.le_of_ble_eq_true rfl, Nat.le_of_ble_eq_true rfl⟩) ⟨zB_blind, va_recv hK hP (ci := 15) (q0 := 0) rfl rfl, (zPre hPc hDc hKc hS hFc hZ hN)⟩ rfl rfl hl.1 rfl (lv_room (Nat.le_of_ble_eq_true rfl)) dL_law_1117 ⟨Nat.le_of_ble_eq_true rfl, Nat.le_of_ble_eq_true rfl⟩) hS (fun q _ h => hFc q h) hFc (fun r u t H1 locs ht hvm hw hB hz1 hk1 hS => ?_)
      subst hw
      obtain ⟨hP1, hK1, hD1⟩ := hB
      rw [ht] at hP1
      have hK1 := va_K.moved hvm.symm hK1
      obtain ⟨hP, hD⟩ := va_join (wr := [(q106, .inl (k106, 1, .inr (.inl (vp_updL (fun _ => 0) (0 : Int32).toNatClampNeg 0))))]) (w1 := [(q86, .inr (15, [.ref q87, .ref q88, .ref q89, .ref q90, .ref q91, .ref q92, .int 0, .int 1, .ref q93, .int 0, .ref q94, .null, .ref q95, .null, .ref q96, .ref q97, .ref q98, .ref q99, .ref q100, .int 0, .ref q101, .ref q102, .ref q103, .ref q104, .ref q105, .int 0, .int 0]))]) hP hD [0] [1] rfl rfl (by decide) (by decide) hk1 hFc hP1 hD1
      have hK := (hK.sub (tys' := [(k106, .long)]) [0] rfl).app hK1
      generalize H1 = H at hP hS ⊢
      have hP : va_P (dC, dI) vwCl [(q106, .inl (k106, 1, .inr (.inl (vp_updL (fun _ => 0) (0 : Int32).toNatClampNeg 0)))), (q86, .inr (15, [.ref q87, .ref q88, .ref q89, .ref q90, .ref q91, .ref q92, .int 0, .int 1, .ref q93, .int 0, .ref q94, .null, .ref q95, .null, .ref q96, .ref q97, .ref q98, .ref q99, .ref q100, .int 0, .ref q101, .ref q102, .ref q103, .ref q104, .ref q105, .int 0, .int 0]))] H := hP
      have hD : va_D (fun q : Nat => s.heap.size ≤ q) [(q106, .inl (k106, 1, .inr (.inl (vp_updL (fun _ => 0) (0 : Int32).toNatClampNeg 0)))), (q86, .inr (15, [.ref q87, .ref q88, .ref q89, .ref q90, .ref q91, .ref q92, .int 0, .int 1, .ref q93, .int 0, .ref q94, .null, .ref q95, .null, .ref q96, .ref q97, .ref q98, .ref q99, .ref q100, .int 0, .ref q101, .ref q102, .ref q103, .ref q104, .ref q105, .int 0, .int 0]))] := hD
      have hK : va_K (dC, dI) vwCl [(k106, .long)] s := hK
      refine W.widen (k := 131) (n := 6692) (Nat.le_of_ble_eq_true rfl) (Nat.le_of_ble_eq_true rfl) ?_
      refine lv_istore (lv' := [(6, .int 0), (5, .int 0), (4, .int 0), (3, .ref q106), (2, .ref q86), (1, .ref q0), (0, .ref b)]) hx hb dL_law_1120 hl (by decide) rfl (fun ls hl => ?_)
      refine lv_aload_n hx hb dL_law_1122 rfl (lv_at hl 4 rfl) ?_
      have hPc := hP.sub (ws' := [(q86, .inr (15, [.ref q87, .ref q88, .ref q89, .ref q90, .ref q91, .ref q92, .int 0, .int 1, .ref q93, .int 0, .ref q94, .null, .ref q95, .null, .ref q96, .ref q97, .ref q98, .ref q99, .ref q100, .int 0, .ref q101, .ref q102, .ref q103, .ref q104, .ref q105, .int 0, .int 0]))]) [1] rfl
      have hDc := hD.sub (ws' := [(q86, .inr (15, [.ref q87, .ref q88, .ref q89, .ref q90, .ref q91, .ref q92, .int 0, .int 1, .ref q93, .int 0, .ref q94, .null, .ref q95, .null, .ref q96, .ref q97, .ref q98, .ref q99, .ref q100, .int 0, .ref q101, .ref q102, .ref q103, .ref q104, .ref q105, .int 0, .int 0]))]) [1] (by decide) rfl
      have hKc := hK.sub (tys' := []) [] rfl
      have hFc := va_free (wc := [(q86, .inr (15, [.ref q87, .ref q88, .ref q89, .ref q90, .ref q91, .ref q92, .int 0, .int 1, .ref q93, .int 0, .ref q94, .null, .ref q95, .null, .ref q96, .ref q97, .ref q98, .ref q99, .ref q100, .int 0, .ref q101, .ref q102, .ref q103, .ref q104, .ref q105, .int 0, .int 0]))]) hD hS hA [1] rfl
      refine va_calli (va_runV (As := []) (rest := []) ⟨hx, hb, hml, hown, hts⟩ (c_X13_thrown_4 l dC dI q86 q87 q88 q89 q90 q91 q92 q93 q94 q95 q96 q97 q98 q99 q100 q101 q102 q103 q104 q105 H.size  ) (cwV 0 hts gL_law_X13_thrown rfl rfl rfl (by decide +kernel) ⟨Nat.le_of_ble_eq_true rfl, Nat.le_of_ble_eq_true rfl⟩) ⟨zB_blind, va_recv hK hP (ci := 15) (q0 := 1) rfl rfl, (zPre hPc hDc hKc hS hFc hZ hN)⟩ rfl rfl hl.1 rfl (lv_room (Nat.le_of_ble_eq_true rfl)) dL_law_1123 ⟨Nat.le_of_ble_eq_true rfl, Nat.le_of_ble_eq_true rfl⟩) hS (fun q _ h => hFc q h) hFc (fun r u t H1 locs ht hvm hw hB hz1 hk1 hS => ?_)
      subst hw
      obtain ⟨hP1, hK1, hD1⟩ := hB
      rw [ht] at hP1
      have hK1 := va_K.moved hvm.symm hK1
      obtain ⟨hP, hD⟩ := va_join (wr := [(q106, .inl (k106, 1, .inr (.inl (vp_updL (fun _ => 0) (0 : Int32).toNatClampNeg 0))))]) (w1 := []) hP hD [1] [0] rfl rfl (by decide) (by decide) hk1 hFc hP1 hD1
      have hK := (hK.sub (tys' := [(k106, .long)]) [0] rfl).app hK1
      generalize H1 = H at hP hS ⊢
      have hP : va_P (dC, dI) vwCl [(q106, .inl (k106, 1, .inr (.inl (vp_updL (fun _ => 0) (0 : Int32).toNatClampNeg 0))))] H := hP
      have hD : va_D (fun q : Nat => s.heap.size ≤ q) [(q106, .inl (k106, 1, .inr (.inl (vp_updL (fun _ => 0) (0 : Int32).toNatClampNeg 0))))] := hD
      have hK : va_K (dC, dI) vwCl [(k106, .long)] s := hK
      refine W.widen (k := 131) (n := 6692) (Nat.le_of_ble_eq_true rfl) (Nat.le_of_ble_eq_true rfl) ?_
      refine lv_iload hx hb dL_law_1126 (lv_at hl 1 rfl) ?_
      refine lv_icmp_eq (tgt := 1133) hx hb dL_law_1128 (by decide) (fun _ => ?_) (fun h9 => absurd (show (0 : Int32) = (0 : Int32) by decide +kernel) h9)
      refine lv_iload hx hb dL_law_1133 (lv_at hl 1 rfl) ?_
      refine lv_if_ne (tgt := 1150) hx hb dL_law_1135 (by decide) (fun h9 => absurd (show (0 : Int32) = (0 : Int32) by decide +kernel) h9) (fun _ => ?_)
      refine lv_aload_n hx hb dL_law_1138 rfl (lv_at hl 3 rfl) ?_
      refine lv_iconst (v := 0) hx hb dL_law_1139 (by decide +kernel) ?_
      refine va_lald (D := (dC, dI)) hx hb hK hP 0 0 rfl rfl (i := 0) (zin (by decide +kernel)) dL_law_1140 ?_
      refine zt_v (w := .long 0) rfl ?_
      refine lv_iload hx hb dL_law_1141 (lv_at hl 0 rfl) ?_
      refine lv_i2l (v := 0) hx hb dL_law_1143 (by decide +kernel) ?_
      refine W.lcmp hx hb dL_law_1144 ?_
      refine zt_i (v := 0) (by decide +kernel) ?_
      refine lv_if_eq (tgt := 1150) hx hb dL_law_1145 (by decide) (fun _ => ?_) (fun h9 => absurd (show (0 : Int32) = (0 : Int32) by decide +kernel) h9)
      refine lv_goto (tgt := 2311) hx hb dL_law_1150 (by decide) ?_
      exact law_exit C0 hS (Nat.le_of_ble_eq_true rfl) (Nat.le_of_ble_eq_true rfl) ls (lv_sub hl [2, 3, 4, 5, 6] rfl)
    · skip
      have hc0 : ¬ (xs 1) < (0 : Int32) := hb0
      have hc1 : ¬ (xs 1) < (1 : Int32) := hb1
      have hc2 : (0 : Int32) < (xs 1) := zd_6 hb0 hb1
      refine lv_aload_n hx hb dL_law_1097 rfl (lv_at hl 3 rfl) ?_
      refine lv_aload_n hx hb dL_law_1098 rfl (lv_at hl 4 rfl) ?_
      refine lv_iload hx hb dL_law_1099 (lv_at hl 0 rfl) ?_
      refine lv_iconst (v := 1) hx hb dL_law_1101 (by decide +kernel) ?_
      refine lv_iadd hx hb dL_law_1102 ?_
      refine zt_i (v := 1) (by decide +kernel) ?_
      refine va_sld hx hb hX hbl hbA hS (i := 1) (zin (by decide +kernel)) dL_law_1103 ?_
      refine zt_v (w := .int (xs 1)) rfl ?_
      refine lv_aload_n hx hb dL_law_1104 rfl (lv_at hl 1 rfl) ?_
      have hPc := hP.sub (ws' := [(q0, .inr (13, [.ref q1, .ref q3, .ref q5, .ref q7, .ref q9, .ref q11, .ref q13, .ref q15, .int 0, .ref q17, .ref q21, .ref q25, .ref q26, .ref q27])), (q3, .inr (11, [.ref q4, .int 0, .int 1]))]) [0, 3] rfl
      have hDc := hD.sub (ws' := [(q0, .inr (13, [.ref q1, .ref q3, .ref q5, .ref q7, .ref q9, .ref q11, .ref q13, .ref q15, .int 0, .ref q17, .ref q21, .ref q25, .ref q26, .ref q27])), (q3, .inr (11, [.ref q4, .int 0, .int 1]))]) [0, 3] (by decide) rfl
      have hKc := hK.sub (tys' := []) [] rfl
      have hFc := va_free (wc := [(q0, .inr (13, [.ref q1, .ref q3, .ref q5, .ref q7, .ref q9, .ref q11, .ref q13, .ref q15, .int 0, .ref q17, .ref q21, .ref q25, .ref q26, .ref q27])), (q3, .inr (11, [.ref q4, .int 0, .int 1]))]) hD hS hA [0, 3] rfl
      refine va_calli (vx_runSW (As := [.ref q0, .int (xs 1), .ref q106]) (rest := []) ⟨hx, hb, hml, hown, hts⟩ (c_L_partSize_3 l hfl dC dI q0 q106 q1 q3 q5 q7 q9 q11 q13 q15 q17 q21 q25 q26 q27 q4 H.size (xs 1) hc0 hc1) (vx_cwSW 3 hts gL_law_L_partSize rfl rfl rfl (by decide +kernel) ⟨Nat.le_of_ble_eq_true rfl, Nat.le_of_ble_eq_true rfl⟩) ⟨zB_blind, (zPre hPc hDc hKc hS hFc hZ hN)⟩ rfl rfl hl.1 rfl (lv_room (Nat.le_of_ble_eq_true rfl)) dL_law_1105 ⟨Nat.le_of_ble_eq_true rfl, Nat.le_of_ble_eq_true rfl⟩) hS (fun q _ h => hFc q h) hFc (fun r u t H1 locs ht hvm hw hB hz1 hk1 hS => ?_)
      subst hw
      obtain ⟨hP1, hK1, hD1⟩ := hB
      rw [ht] at hP1
      have hK1 := va_K.moved hvm.symm hK1
      obtain ⟨hP, hD⟩ := va_join (wr := [(q86, .inr (15, [.ref q87, .ref q88, .ref q89, .ref q90, .ref q91, .ref q92, .int 0, .int 1, .ref q93, .int 0, .ref q94, .null, .ref q95, .null, .ref q96, .ref q97, .ref q98, .ref q99, .ref q100, .int 0, .ref q101, .ref q102, .ref q103, .ref q104, .ref q105, .int 0, .int 0]))]) (w1 := []) hP hD [0, 3] [13] rfl rfl (by decide) (by decide) hk1 hFc hP1 hD1
      have hK := (hK.sub (tys' := []) [] rfl).app hK1
      generalize H1 = H at hP hS ⊢
      have hP : va_P (dC, dI) vwCl [(q86, .inr (15, [.ref q87, .ref q88, .ref q89, .ref q90, .ref q91, .ref q92, .int 0, .int 1, .ref q93, .int 0, .ref q94, .null, .ref q95, .null, .ref q96, .ref q97, .ref q98, .ref q99, .ref q100, .int 0, .ref q101, .ref q102, .ref q103, .ref q104, .ref q105, .int 0, .int 0]))] H := hP
      have hD : va_D (fun q : Nat => s.heap.size ≤ q) [(q86, .inr (15, [.ref q87, .ref q88, .ref q89, .ref q90, .ref q91, .ref q92, .int 0, .int 1, .ref q93, .int 0, .ref q94, .null, .ref q95, .null, .ref q96, .ref q97, .ref q98, .ref q99, .ref q100, .int 0, .ref q101, .ref q102, .ref q103, .ref q104, .ref q105, .int 0, .int 0]))] := hD
      have hK : va_K (dC, dI) vwCl [] s := hK
      refine W.widen (k := 132) (n := 6698) (Nat.le_of_ble_eq_true rfl) (Nat.le_of_ble_eq_true rfl) ?_
      refine lv_istore (lv' := [(5, .int 1), (4, .int 0), (3, .ref q106), (2, .ref q86), (1, .ref q0), (0, .ref b)]) hx hb dL_law_1108 hl (by decide) rfl (fun ls hl => ?_)
      refine lv_aload_n hx hb dL_law_1110 rfl (lv_at hl 3 rfl) ?_
      refine lv_aload_n hx hb dL_law_1111 rfl (lv_at hl 5 rfl) ?_
      refine lv_iload hx hb dL_law_1112 (lv_at hl 1 rfl) ?_
      refine lv_iconst (v := 1) hx hb dL_law_1114 (by decide +kernel) ?_
      refine lv_iadd hx hb dL_law_1115 ?_
      refine zt_i (v := 1) (by decide +kernel) ?_
      refine va_sld hx hb hX hbl hbA hS (i := 1) (zin (by decide +kernel)) dL_law_1116 ?_
      refine zt_v (w := .int (xs 1)) rfl ?_
      have hPc := hP.sub (ws' := [(q86, .inr (15, [.ref q87, .ref q88, .ref q89, .ref q90, .ref q91, .ref q92, .int 0, .int 1, .ref q93, .int 0, .ref q94, .null, .ref q95, .null, .ref q96, .ref q97, .ref q98, .ref q99, .ref q100, .int 0, .ref q101, .ref q102, .ref q103, .ref q104, .ref q105, .int 0, .int 0]))]) [0] rfl
      have hDc := hD.sub (ws' := [(q86, .inr (15, [.ref q87, .ref q88, .ref q89, .ref q90, .ref q91, .ref q92, .int 0, .int 1, .ref q93, .int 0, .ref q94, .null, .ref q95, .null, .ref q96, .ref q97, .ref q98, .ref q99, .ref q100, .int 0, .ref q101, .ref q102, .ref q103, .ref q104, .ref q105, .int 0, .int 0]))]) [0] (by decide) rfl
      have hKc := hK.sub (tys' := []) [] rfl
      have hFc := va_free (wc := [(q86, .inr (15, [.ref q87, .ref q88, .ref q89, .ref q90, .ref q91, .ref q92, .int 0, .int 1, .ref q93, .int 0, .ref q94, .null, .ref q95, .null, .ref q96, .ref q97, .ref q98, .ref q99, .ref q100, .int 0, .ref q101, .ref q102, .ref q103, .ref q104, .ref q105, .int 0, .int 0]))]) hD hS hA [0] rfl
      refine va_calli (va_runV (As := [.int (xs 1)]) (rest := []) ⟨hx, hb, hml, hown, hts⟩ (c_X13_partSize_3 l dC dI q86 q87 q88 q89 q90 q91 q92 q93 q94 q95 q96 q97 q98 q99 q100 q101 q102 q103 q104 q105 H.size (xs 1) hc0 hc2) (cwV 1 hts gL_law_X13_partSize rfl rfl rfl (by decide +kernel) ⟨Nat.le_of_ble_eq_true rfl, Nat.le_of_ble_eq_true rfl⟩) ⟨zB_blind, va_recv hK hP (ci := 15) (q0 := 0) rfl rfl, (zPre hPc hDc hKc hS hFc hZ hN)⟩ rfl rfl hl.1 rfl (lv_room (Nat.le_of_ble_eq_true rfl)) dL_law_1117 ⟨Nat.le_of_ble_eq_true rfl, Nat.le_of_ble_eq_true rfl⟩) hS (fun q _ h => hFc q h) hFc (fun r u t H1 locs ht hvm hw hB hz1 hk1 hS => ?_)
      subst hw
      obtain ⟨hP1, hK1, hD1⟩ := hB
      rw [ht] at hP1
      have hK1 := va_K.moved hvm.symm hK1
      obtain ⟨hP, hD⟩ := va_join (wr := []) (w1 := [(q86, .inr (15, [.ref q87, .ref q88, .ref q89, .ref q90, .ref q91, .ref q92, .int 0, .int 1, .ref q93, .int 0, .ref q94, .null, .ref q95, .null, .ref q96, .ref q97, .ref q98, .ref q99, .ref q100, .int 1, .ref q101, .ref q102, .ref q103, .ref q104, .ref q105, .int 0, .int 0]))]) hP hD [0] [] rfl rfl (by decide) (by decide) hk1 hFc hP1 hD1
      have hK := (hK.sub (tys' := []) [] rfl).app hK1
      generalize H1 = H at hP hS ⊢
      have hP : va_P (dC, dI) vwCl [(q86, .inr (15, [.ref q87, .ref q88, .ref q89, .ref q90, .ref q91, .ref q92, .int 0, .int 1, .ref q93, .int 0, .ref q94, .null, .ref q95, .null, .ref q96, .ref q97, .ref q98, .ref q99, .ref q100, .int 1, .ref q101, .ref q102, .ref q103, .ref q104, .ref q105, .int 0, .int 0]))] H := hP
      have hD : va_D (fun q : Nat => s.heap.size ≤ q) [(q86, .inr (15, [.ref q87, .ref q88, .ref q89, .ref q90, .ref q91, .ref q92, .int 0, .int 1, .ref q93, .int 0, .ref q94, .null, .ref q95, .null, .ref q96, .ref q97, .ref q98, .ref q99, .ref q100, .int 1, .ref q101, .ref q102, .ref q103, .ref q104, .ref q105, .int 0, .int 0]))] := hD
      have hK : va_K (dC, dI) vwCl [] s := hK
      refine W.widen (k := 132) (n := 6698) (Nat.le_of_ble_eq_true rfl) (Nat.le_of_ble_eq_true rfl) ?_
      refine lv_istore (lv' := [(6, .int 0), (5, .int 1), (4, .int 0), (3, .ref q106), (2, .ref q86), (1, .ref q0), (0, .ref b)]) hx hb dL_law_1120 hl (by decide) rfl (fun ls hl => ?_)
      refine lv_aload_n hx hb dL_law_1122 rfl (lv_at hl 4 rfl) ?_
      have hPc := hP.sub (ws' := [(q86, .inr (15, [.ref q87, .ref q88, .ref q89, .ref q90, .ref q91, .ref q92, .int 0, .int 1, .ref q93, .int 0, .ref q94, .null, .ref q95, .null, .ref q96, .ref q97, .ref q98, .ref q99, .ref q100, .int 1, .ref q101, .ref q102, .ref q103, .ref q104, .ref q105, .int 0, .int 0]))]) [0] rfl
      have hDc := hD.sub (ws' := [(q86, .inr (15, [.ref q87, .ref q88, .ref q89, .ref q90, .ref q91, .ref q92, .int 0, .int 1, .ref q93, .int 0, .ref q94, .null, .ref q95, .null, .ref q96, .ref q97, .ref q98, .ref q99, .ref q100, .int 1, .ref q101, .ref q102, .ref q103, .ref q104, .ref q105, .int 0, .int 0]))]) [0] (by decide) rfl
      have hKc := hK.sub (tys' := []) [] rfl
      have hFc := va_free (wc := [(q86, .inr (15, [.ref q87, .ref q88, .ref q89, .ref q90, .ref q91, .ref q92, .int 0, .int 1, .ref q93, .int 0, .ref q94, .null, .ref q95, .null, .ref q96, .ref q97, .ref q98, .ref q99, .ref q100, .int 1, .ref q101, .ref q102, .ref q103, .ref q104, .ref q105, .int 0, .int 0]))]) hD hS hA [0] rfl
      refine va_calli (va_runV (As := []) (rest := []) ⟨hx, hb, hml, hown, hts⟩ (c_X13_thrown l dC dI q86 q87 q88 q89 q90 q91 q92 q93 q94 q95 q96 q97 q98 q99 q100 q101 q102 q103 q104 q105 H.size  ) (cwV 0 hts gL_law_X13_thrown rfl rfl rfl (by decide +kernel) ⟨Nat.le_of_ble_eq_true rfl, Nat.le_of_ble_eq_true rfl⟩) ⟨zB_blind, va_recv hK hP (ci := 15) (q0 := 0) rfl rfl, (zPre hPc hDc hKc hS hFc hZ hN)⟩ rfl rfl hl.1 rfl (lv_room (Nat.le_of_ble_eq_true rfl)) dL_law_1123 ⟨Nat.le_of_ble_eq_true rfl, Nat.le_of_ble_eq_true rfl⟩) hS (fun q _ h => hFc q h) hFc (fun r u t H1 locs ht hvm hw hB hz1 hk1 hS => ?_)
      subst hw
      obtain ⟨hP1, hK1, hD1⟩ := hB
      rw [ht] at hP1
      have hK1 := va_K.moved hvm.symm hK1
      obtain ⟨hP, hD⟩ := va_join (wr := []) (w1 := []) hP hD [0] [] rfl rfl (by decide) (by decide) hk1 hFc hP1 hD1
      have hK := (hK.sub (tys' := []) [] rfl).app hK1
      generalize H1 = H at hP hS ⊢
      have hP : va_P (dC, dI) vwCl [] H := hP
      have hD : va_D (fun q : Nat => s.heap.size ≤ q) [] := hD
      have hK : va_K (dC, dI) vwCl [] s := hK
      refine W.widen (k := 132) (n := 6698) (Nat.le_of_ble_eq_true rfl) (Nat.le_of_ble_eq_true rfl) ?_
      refine lv_iload hx hb dL_law_1126 (lv_at hl 1 rfl) ?_
      refine lv_icmp_eq (tgt := 1133) hx hb dL_law_1128 (by decide) (fun _ => ?_) (fun h9 => absurd (show (1 : Int32) = (1 : Int32) by decide +kernel) h9)
      refine lv_iload hx hb dL_law_1133 (lv_at hl 1 rfl) ?_
      refine lv_if_ne (tgt := 1150) hx hb dL_law_1135 (by decide) (fun _ => ?_) (fun h9 => absurd h9 (show ¬ (1 : Int32) = (0 : Int32) by decide +kernel))
      refine lv_goto (tgt := 2311) hx hb dL_law_1150 (by decide) ?_
      exact law_exit C0 hS (Nat.le_of_ble_eq_true rfl) (Nat.le_of_ble_eq_true rfl) ls (lv_sub hl [2, 3, 4, 5, 6] rfl)
set_option maxHeartbeats 8000000 in
set_option maxRecDepth 100000 in
theorem law_case_20 {p : Program} {l : Launch} {e : Env} {s : State} {m : MethodId} {below : List Frame} {meth : Method} {c : Code} {b : Nat} {xs : Nat → Int32} (hfl : l.stackTraces = false) (C0 : lw_At p s m meth c b 4 xs) {dC : Nat → ClassId} {dI : Nat → Nat → Nat} {q0 q1 q3 q5 q7 q9 q11 q13 q15 q17 q21 q25 q26 q27 q2 q4 q6 q8 q10 q16 q18 q22 q23 q86 q87 q88 q89 q90 q91 q92 q93 q94 q95 q96 q97 q98 q99 q100 q101 q102 q103 q104 q105 q106 : Nat} {k2 k4 k87 k88 k89 k90 k91 k92 k93 k94 k96 k106 : ClassId} {H : Heap} {locs : List Loc} (hK : va_K (dC, dI) vwCl [(k2, .char), (k4, (.object "Seekwell$Text")), (k87, .boolean), (k88, .int), (k89, .int), (k90, .char), (k91, (.array .long)), (k92, (.array .long)), (k93, .int), (k94, .int), (k96, .boolean), (k106, .long)] s) (hP : va_P (dC, dI) vwCl [(q0, .inr (13, [.ref q1, .ref q3, .ref q5, .ref q7, .ref q9, .ref q11, .ref q13, .ref q15, .int 0, .ref q17, .ref q21, .ref q25, .ref q26, .ref q27])), (q1, .inr (7, [.ref q2, .int 0])), (q2, .inl (k2, 512, .inl (fun _ => 0))), (q3, .inr (11, [.ref q4, .int 0, .int 1])), (q4, .inl (k4, 24, .inr (.inr (.inr (.inr (fun _ => none)))))), (q5, .inr (11, [.ref q6, .int 0, .int 1])), (q7, .inr (10, [.ref q8, .int 0])), (q9, .inr (5, [.ref q10, .int 0, .int 0])), (q15, .inr (5, [.ref q16, .int 0, .int 0])), (q17, .inr (9, [.ref q18, .ref q18, .null])), (q21, .inr (9, [.ref q22, .ref q22, .null])), (q22, .inr (8, [.int 0, .int 0, .int 1, .int 0, .int 0, .int 0, .ref q23, .null, .null, .null, .null, .int 0, .int 0, .int 0, .int 0, .null, .null])), (q26, .inr (3, [.null, .null, .int 0, .int 0, .null])), (q86, .inr (15, [.ref q87, .ref q88, .ref q89, .ref q90, .ref q91, .ref q92, .int 0, .int 1, .ref q93, .int 0, .ref q94, .null, .ref q95, .null, .ref q96, .ref q97, .ref q98, .ref q99, .ref q100, .int 0, .ref q101, .ref q102, .ref q103, .ref q104, .ref q105, .int 0, .int 0])), (q87, .inl (k87, 24, .inl (fun _ => 0))), (q88, .inl (k88, 24, .inl (fun _ => 0))), (q89, .inl (k89, 24, .inl (fun _ => 0))), (q90, .inl (k90, 24, .inl (fun _ => 0))), (q91, .inl (k91, 24, .inr (.inr (.inr (.inr (fun _ => none)))))), (q92, .inl (k92, 24, .inr (.inr (.inr (.inr (fun _ => none)))))), (q93, .inl (k93, 4000, .inl (fun _ => 0))), (q94, .inl (k94, 0, .inl (fun _ => 0))), (q96, .inl (k96, 24, .inl (fun _ => 0))), (q106, .inl (k106, 1, .inr (.inl (fun _ => 0))))] H) (hD : va_D (fun q : Nat => s.heap.size ≤ q) [(q0, .inr (13, [.ref q1, .ref q3, .ref q5, .ref q7, .ref q9, .ref q11, .ref q13, .ref q15, .int 0, .ref q17, .ref q21, .ref q25, .ref q26, .ref q27])), (q1, .inr (7, [.ref q2, .int 0])), (q2, .inl (k2, 512, .inl (fun _ => 0))), (q3, .inr (11, [.ref q4, .int 0, .int 1])), (q4, .inl (k4, 24, .inr (.inr (.inr (.inr (fun _ => none)))))), (q5, .inr (11, [.ref q6, .int 0, .int 1])), (q7, .inr (10, [.ref q8, .int 0])), (q9, .inr (5, [.ref q10, .int 0, .int 0])), (q15, .inr (5, [.ref q16, .int 0, .int 0])), (q17, .inr (9, [.ref q18, .ref q18, .null])), (q21, .inr (9, [.ref q22, .ref q22, .null])), (q22, .inr (8, [.int 0, .int 0, .int 1, .int 0, .int 0, .int 0, .ref q23, .null, .null, .null, .null, .int 0, .int 0, .int 0, .int 0, .null, .null])), (q26, .inr (3, [.null, .null, .int 0, .int 0, .null])), (q86, .inr (15, [.ref q87, .ref q88, .ref q89, .ref q90, .ref q91, .ref q92, .int 0, .int 1, .ref q93, .int 0, .ref q94, .null, .ref q95, .null, .ref q96, .ref q97, .ref q98, .ref q99, .ref q100, .int 0, .ref q101, .ref q102, .ref q103, .ref q104, .ref q105, .int 0, .int 0])), (q87, .inl (k87, 24, .inl (fun _ => 0))), (q88, .inl (k88, 24, .inl (fun _ => 0))), (q89, .inl (k89, 24, .inl (fun _ => 0))), (q90, .inl (k90, 24, .inl (fun _ => 0))), (q91, .inl (k91, 24, .inr (.inr (.inr (.inr (fun _ => none)))))), (q92, .inl (k92, 24, .inr (.inr (.inr (.inr (fun _ => none)))))), (q93, .inl (k93, 4000, .inl (fun _ => 0))), (q94, .inl (k94, 0, .inl (fun _ => 0))), (q96, .inl (k96, 24, .inl (fun _ => 0))), (q106, .inl (k106, 1, .inr (.inl (fun _ => 0))))]) (hS : va_S (fun q : Nat => s.heap.size ≤ q) s.heap H locs) (hZ : zZ (fun q : Nat => s.heap.size ≤ q) s s.heap) (hN : zN s) (ls : Array Slot) (hl : lv_has ls 7 [(4, .int 0), (3, .ref q106), (2, .ref q86), (1, .ref q0), (0, .ref b)]) : W p l e room_1 s m #[Value.ref b] below meth c H locs 131 6692 (lw_Z below #[Value.ref b] s) (F0 m 1153 ls []) := by
  obtain ⟨hx, hb, hr, hml, hown, hts, hX, hbl, hlocks, hgv⟩ := id C0
  have hbA : ¬ (fun q : Nat => s.heap.size ≤ q) b := Nat.not_le.mpr hbl
  have hA : ∀ q : Nat, s.heap.size ≤ q → (fun q : Nat => s.heap.size ≤ q) q := fun _ h => h
  refine lv_aload_n hx hb dL_law_1153 rfl (lv_at hl 3 rfl) ?_
  refine lv_aload_n hx hb dL_law_1154 rfl (lv_at hl 1 rfl) ?_
  have hPc := hP.sub (ws' := [(q0, .inr (13, [.ref q1, .ref q3, .ref q5, .ref q7, .ref q9, .ref q11, .ref q13, .ref q15, .int 0, .ref q17, .ref q21, .ref q25, .ref q26, .ref q27])), (q3, .inr (11, [.ref q4, .int 0, .int 1]))]) [0, 3] rfl
  have hDc := hD.sub (ws' := [(q0, .inr (13, [.ref q1, .ref q3, .ref q5, .ref q7, .ref q9, .ref q11, .ref q13, .ref q15, .int 0, .ref q17, .ref q21, .ref q25, .ref q26, .ref q27])), (q3, .inr (11, [.ref q4, .int 0, .int 1]))]) [0, 3] (by decide) rfl
  have hKc := hK.sub (tys' := []) [] rfl
  have hFc := va_free (wc := [(q0, .inr (13, [.ref q1, .ref q3, .ref q5, .ref q7, .ref q9, .ref q11, .ref q13, .ref q15, .int 0, .ref q17, .ref q21, .ref q25, .ref q26, .ref q27])), (q3, .inr (11, [.ref q4, .int 0, .int 1]))]) hD hS hA [0, 3] rfl
  refine va_calli (vx_runSW (As := [.ref q0, .ref q106]) (rest := []) ⟨hx, hb, hml, hown, hts⟩ (c_L_seal l hfl dC dI q0 q106 q1 q3 q5 q7 q9 q11 q13 q15 q17 q21 q25 q26 q27 q4 H.size  ) (vx_cwSW 2 hts gL_law_L_seal rfl rfl rfl (by decide +kernel) ⟨Nat.le_of_ble_eq_true rfl, Nat.le_of_ble_eq_true rfl⟩) ⟨zB_blind, (zPre hPc hDc hKc hS hFc hZ hN)⟩ rfl rfl hl.1 rfl (lv_room (Nat.le_of_ble_eq_true rfl)) dL_law_1155 ⟨Nat.le_of_ble_eq_true rfl, Nat.le_of_ble_eq_true rfl⟩) hS (fun q _ h => hFc q h) hFc (fun r u t H1 locs ht hvm hw hB hz1 hk1 hS => ?_)
  subst hw
  obtain ⟨hP1, hK1, hD1⟩ := hB
  rw [ht] at hP1
  have hK1 := va_K.moved hvm.symm hK1
  obtain ⟨hP, hD⟩ := va_join (wr := [(q86, .inr (15, [.ref q87, .ref q88, .ref q89, .ref q90, .ref q91, .ref q92, .int 0, .int 1, .ref q93, .int 0, .ref q94, .null, .ref q95, .null, .ref q96, .ref q97, .ref q98, .ref q99, .ref q100, .int 0, .ref q101, .ref q102, .ref q103, .ref q104, .ref q105, .int 0, .int 0]))]) (w1 := []) hP hD [0, 3] [13] rfl rfl (by decide) (by decide) hk1 hFc hP1 hD1
  have hK := (hK.sub (tys' := []) [] rfl).app hK1
  generalize H1 = H at hP hS ⊢
  have hP : va_P (dC, dI) vwCl [(q86, .inr (15, [.ref q87, .ref q88, .ref q89, .ref q90, .ref q91, .ref q92, .int 0, .int 1, .ref q93, .int 0, .ref q94, .null, .ref q95, .null, .ref q96, .ref q97, .ref q98, .ref q99, .ref q100, .int 0, .ref q101, .ref q102, .ref q103, .ref q104, .ref q105, .int 0, .int 0]))] H := hP
  have hD : va_D (fun q : Nat => s.heap.size ≤ q) [(q86, .inr (15, [.ref q87, .ref q88, .ref q89, .ref q90, .ref q91, .ref q92, .int 0, .int 1, .ref q93, .int 0, .ref q94, .null, .ref q95, .null, .ref q96, .ref q97, .ref q98, .ref q99, .ref q100, .int 0, .ref q101, .ref q102, .ref q103, .ref q104, .ref q105, .int 0, .int 0]))] := hD
  have hK : va_K (dC, dI) vwCl [] s := hK
  refine W.widen (k := 132) (n := 6698) (Nat.le_of_ble_eq_true rfl) (Nat.le_of_ble_eq_true rfl) ?_
  refine lv_istore (lv' := [(5, .int 1), (4, .int 0), (3, .ref q106), (2, .ref q86), (1, .ref q0), (0, .ref b)]) hx hb dL_law_1158 hl (by decide) rfl (fun ls hl => ?_)
  refine lv_aload_n hx hb dL_law_1160 rfl (lv_at hl 3 rfl) ?_
  have hPc := hP.sub (ws' := [(q86, .inr (15, [.ref q87, .ref q88, .ref q89, .ref q90, .ref q91, .ref q92, .int 0, .int 1, .ref q93, .int 0, .ref q94, .null, .ref q95, .null, .ref q96, .ref q97, .ref q98, .ref q99, .ref q100, .int 0, .ref q101, .ref q102, .ref q103, .ref q104, .ref q105, .int 0, .int 0]))]) [0] rfl
  have hDc := hD.sub (ws' := [(q86, .inr (15, [.ref q87, .ref q88, .ref q89, .ref q90, .ref q91, .ref q92, .int 0, .int 1, .ref q93, .int 0, .ref q94, .null, .ref q95, .null, .ref q96, .ref q97, .ref q98, .ref q99, .ref q100, .int 0, .ref q101, .ref q102, .ref q103, .ref q104, .ref q105, .int 0, .int 0]))]) [0] (by decide) rfl
  have hKc := hK.sub (tys' := []) [] rfl
  have hFc := va_free (wc := [(q86, .inr (15, [.ref q87, .ref q88, .ref q89, .ref q90, .ref q91, .ref q92, .int 0, .int 1, .ref q93, .int 0, .ref q94, .null, .ref q95, .null, .ref q96, .ref q97, .ref q98, .ref q99, .ref q100, .int 0, .ref q101, .ref q102, .ref q103, .ref q104, .ref q105, .int 0, .int 0]))]) hD hS hA [0] rfl
  refine va_calli (va_runV (As := []) (rest := []) ⟨hx, hb, hml, hown, hts⟩ (c_X13_seal l dC dI q86 q87 q88 q89 q90 q91 q92 q93 q94 q95 q96 q97 q98 q99 q100 q101 q102 q103 q104 q105 H.size  ) (cwV 0 hts gL_law_X13_seal rfl rfl rfl (by decide +kernel) ⟨Nat.le_of_ble_eq_true rfl, Nat.le_of_ble_eq_true rfl⟩) ⟨zB_blind, va_recv hK hP (ci := 15) (q0 := 0) rfl rfl, (zPre hPc hDc hKc hS hFc hZ hN)⟩ rfl rfl hl.1 rfl (lv_room (Nat.le_of_ble_eq_true rfl)) dL_law_1161 ⟨Nat.le_of_ble_eq_true rfl, Nat.le_of_ble_eq_true rfl⟩) hS (fun q _ h => hFc q h) hFc (fun r u t H1 locs ht hvm hw hB hz1 hk1 hS => ?_)
  subst hw
  obtain ⟨hP1, hK1, hD1⟩ := hB
  rw [ht] at hP1
  have hK1 := va_K.moved hvm.symm hK1
  obtain ⟨hP, hD⟩ := va_join (wr := []) (w1 := [(q86, .inr (15, [.ref q87, .ref q88, .ref q89, .ref q90, .ref q91, .ref q92, .int 0, .int 1, .ref q93, .int 0, .ref q94, .null, .ref q95, .null, .ref q96, .ref q97, .ref q98, .ref q99, .ref q100, .int 1, .ref q101, .ref q102, .ref q103, .ref q104, .ref q105, .int 0, .int 0]))]) hP hD [0] [] rfl rfl (by decide) (by decide) hk1 hFc hP1 hD1
  have hK := (hK.sub (tys' := []) [] rfl).app hK1
  generalize H1 = H at hP hS ⊢
  have hP : va_P (dC, dI) vwCl [(q86, .inr (15, [.ref q87, .ref q88, .ref q89, .ref q90, .ref q91, .ref q92, .int 0, .int 1, .ref q93, .int 0, .ref q94, .null, .ref q95, .null, .ref q96, .ref q97, .ref q98, .ref q99, .ref q100, .int 1, .ref q101, .ref q102, .ref q103, .ref q104, .ref q105, .int 0, .int 0]))] H := hP
  have hD : va_D (fun q : Nat => s.heap.size ≤ q) [(q86, .inr (15, [.ref q87, .ref q88, .ref q89, .ref q90, .ref q91, .ref q92, .int 0, .int 1, .ref q93, .int 0, .ref q94, .null, .ref q95, .null, .ref q96, .ref q97, .ref q98, .ref q99, .ref q100, .int 1, .ref q101, .ref q102, .ref q103, .ref q104, .ref q105, .int 0, .int 0]))] := hD
  have hK : va_K (dC, dI) vwCl [] s := hK
  refine W.widen (k := 132) (n := 6698) (Nat.le_of_ble_eq_true rfl) (Nat.le_of_ble_eq_true rfl) ?_
  refine lv_istore (lv' := [(6, .int 0), (5, .int 1), (4, .int 0), (3, .ref q106), (2, .ref q86), (1, .ref q0), (0, .ref b)]) hx hb dL_law_1164 hl (by decide) rfl (fun ls hl => ?_)
  refine lv_aload_n hx hb dL_law_1166 rfl (lv_at hl 4 rfl) ?_
  have hPc := hP.sub (ws' := [(q86, .inr (15, [.ref q87, .ref q88, .ref q89, .ref q90, .ref q91, .ref q92, .int 0, .int 1, .ref q93, .int 0, .ref q94, .null, .ref q95, .null, .ref q96, .ref q97, .ref q98, .ref q99, .ref q100, .int 1, .ref q101, .ref q102, .ref q103, .ref q104, .ref q105, .int 0, .int 0]))]) [0] rfl
  have hDc := hD.sub (ws' := [(q86, .inr (15, [.ref q87, .ref q88, .ref q89, .ref q90, .ref q91, .ref q92, .int 0, .int 1, .ref q93, .int 0, .ref q94, .null, .ref q95, .null, .ref q96, .ref q97, .ref q98, .ref q99, .ref q100, .int 1, .ref q101, .ref q102, .ref q103, .ref q104, .ref q105, .int 0, .int 0]))]) [0] (by decide) rfl
  have hKc := hK.sub (tys' := []) [] rfl
  have hFc := va_free (wc := [(q86, .inr (15, [.ref q87, .ref q88, .ref q89, .ref q90, .ref q91, .ref q92, .int 0, .int 1, .ref q93, .int 0, .ref q94, .null, .ref q95, .null, .ref q96, .ref q97, .ref q98, .ref q99, .ref q100, .int 1, .ref q101, .ref q102, .ref q103, .ref q104, .ref q105, .int 0, .int 0]))]) hD hS hA [0] rfl
  refine va_calli (va_runV (As := []) (rest := []) ⟨hx, hb, hml, hown, hts⟩ (c_X13_thrown l dC dI q86 q87 q88 q89 q90 q91 q92 q93 q94 q95 q96 q97 q98 q99 q100 q101 q102 q103 q104 q105 H.size  ) (cwV 0 hts gL_law_X13_thrown rfl rfl rfl (by decide +kernel) ⟨Nat.le_of_ble_eq_true rfl, Nat.le_of_ble_eq_true rfl⟩) ⟨zB_blind, va_recv hK hP (ci := 15) (q0 := 0) rfl rfl, (zPre hPc hDc hKc hS hFc hZ hN)⟩ rfl rfl hl.1 rfl (lv_room (Nat.le_of_ble_eq_true rfl)) dL_law_1167 ⟨Nat.le_of_ble_eq_true rfl, Nat.le_of_ble_eq_true rfl⟩) hS (fun q _ h => hFc q h) hFc (fun r u t H1 locs ht hvm hw hB hz1 hk1 hS => ?_)
  subst hw
  obtain ⟨hP1, hK1, hD1⟩ := hB
  rw [ht] at hP1
  have hK1 := va_K.moved hvm.symm hK1
  obtain ⟨hP, hD⟩ := va_join (wr := []) (w1 := []) hP hD [0] [] rfl rfl (by decide) (by decide) hk1 hFc hP1 hD1
  have hK := (hK.sub (tys' := []) [] rfl).app hK1
  generalize H1 = H at hP hS ⊢
  have hP : va_P (dC, dI) vwCl [] H := hP
  have hD : va_D (fun q : Nat => s.heap.size ≤ q) [] := hD
  have hK : va_K (dC, dI) vwCl [] s := hK
  refine W.widen (k := 132) (n := 6698) (Nat.le_of_ble_eq_true rfl) (Nat.le_of_ble_eq_true rfl) ?_
  refine lv_iload hx hb dL_law_1170 (lv_at hl 1 rfl) ?_
  refine lv_icmp_eq (tgt := 1177) hx hb dL_law_1172 (by decide) (fun _ => ?_) (fun h9 => absurd (show (1 : Int32) = (1 : Int32) by decide +kernel) h9)
  refine lv_iload hx hb dL_law_1177 (lv_at hl 1 rfl) ?_
  refine lv_if_ne (tgt := 1194) hx hb dL_law_1179 (by decide) (fun _ => ?_) (fun h9 => absurd h9 (show ¬ (1 : Int32) = (0 : Int32) by decide +kernel))
  refine lv_goto (tgt := 2311) hx hb dL_law_1194 (by decide) ?_
  exact law_exit C0 hS (Nat.le_of_ble_eq_true rfl) (Nat.le_of_ble_eq_true rfl) ls (lv_sub hl [2, 3, 4, 5, 6] rfl)
set_option maxHeartbeats 8000000 in
set_option maxRecDepth 100000 in
theorem law_case_21 {p : Program} {l : Launch} {e : Env} {s : State} {m : MethodId} {below : List Frame} {meth : Method} {c : Code} {b : Nat} {xs : Nat → Int32} (hfl : l.stackTraces = false) (C0 : lw_At p s m meth c b 4 xs) {dC : Nat → ClassId} {dI : Nat → Nat → Nat} {q0 q1 q3 q5 q7 q9 q11 q13 q15 q17 q21 q25 q26 q27 q2 q4 q6 q8 q10 q16 q18 q22 q23 q86 q87 q88 q89 q90 q91 q92 q93 q94 q95 q96 q97 q98 q99 q100 q101 q102 q103 q104 q105 q106 : Nat} {k2 k4 k87 k88 k89 k90 k91 k92 k93 k94 k96 k106 : ClassId} {H : Heap} {locs : List Loc} (hK : va_K (dC, dI) vwCl [(k2, .char), (k4, (.object "Seekwell$Text")), (k87, .boolean), (k88, .int), (k89, .int), (k90, .char), (k91, (.array .long)), (k92, (.array .long)), (k93, .int), (k94, .int), (k96, .boolean), (k106, .long)] s) (hP : va_P (dC, dI) vwCl [(q0, .inr (13, [.ref q1, .ref q3, .ref q5, .ref q7, .ref q9, .ref q11, .ref q13, .ref q15, .int 0, .ref q17, .ref q21, .ref q25, .ref q26, .ref q27])), (q1, .inr (7, [.ref q2, .int 0])), (q2, .inl (k2, 512, .inl (fun _ => 0))), (q3, .inr (11, [.ref q4, .int 0, .int 1])), (q4, .inl (k4, 24, .inr (.inr (.inr (.inr (fun _ => none)))))), (q5, .inr (11, [.ref q6, .int 0, .int 1])), (q7, .inr (10, [.ref q8, .int 0])), (q9, .inr (5, [.ref q10, .int 0, .int 0])), (q15, .inr (5, [.ref q16, .int 0, .int 0])), (q17, .inr (9, [.ref q18, .ref q18, .null])), (q21, .inr (9, [.ref q22, .ref q22, .null])), (q22, .inr (8, [.int 0, .int 0, .int 1, .int 0, .int 0, .int 0, .ref q23, .null, .null, .null, .null, .int 0, .int 0, .int 0, .int 0, .null, .null])), (q26, .inr (3, [.null, .null, .int 0, .int 0, .null])), (q86, .inr (15, [.ref q87, .ref q88, .ref q89, .ref q90, .ref q91, .ref q92, .int 0, .int 1, .ref q93, .int 0, .ref q94, .null, .ref q95, .null, .ref q96, .ref q97, .ref q98, .ref q99, .ref q100, .int 0, .ref q101, .ref q102, .ref q103, .ref q104, .ref q105, .int 0, .int 0])), (q87, .inl (k87, 24, .inl (fun _ => 0))), (q88, .inl (k88, 24, .inl (fun _ => 0))), (q89, .inl (k89, 24, .inl (fun _ => 0))), (q90, .inl (k90, 24, .inl (fun _ => 0))), (q91, .inl (k91, 24, .inr (.inr (.inr (.inr (fun _ => none)))))), (q92, .inl (k92, 24, .inr (.inr (.inr (.inr (fun _ => none)))))), (q93, .inl (k93, 4000, .inl (fun _ => 0))), (q94, .inl (k94, 0, .inl (fun _ => 0))), (q96, .inl (k96, 24, .inl (fun _ => 0))), (q106, .inl (k106, 1, .inr (.inl (fun _ => 0))))] H) (hD : va_D (fun q : Nat => s.heap.size ≤ q) [(q0, .inr (13, [.ref q1, .ref q3, .ref q5, .ref q7, .ref q9, .ref q11, .ref q13, .ref q15, .int 0, .ref q17, .ref q21, .ref q25, .ref q26, .ref q27])), (q1, .inr (7, [.ref q2, .int 0])), (q2, .inl (k2, 512, .inl (fun _ => 0))), (q3, .inr (11, [.ref q4, .int 0, .int 1])), (q4, .inl (k4, 24, .inr (.inr (.inr (.inr (fun _ => none)))))), (q5, .inr (11, [.ref q6, .int 0, .int 1])), (q7, .inr (10, [.ref q8, .int 0])), (q9, .inr (5, [.ref q10, .int 0, .int 0])), (q15, .inr (5, [.ref q16, .int 0, .int 0])), (q17, .inr (9, [.ref q18, .ref q18, .null])), (q21, .inr (9, [.ref q22, .ref q22, .null])), (q22, .inr (8, [.int 0, .int 0, .int 1, .int 0, .int 0, .int 0, .ref q23, .null, .null, .null, .null, .int 0, .int 0, .int 0, .int 0, .null, .null])), (q26, .inr (3, [.null, .null, .int 0, .int 0, .null])), (q86, .inr (15, [.ref q87, .ref q88, .ref q89, .ref q90, .ref q91, .ref q92, .int 0, .int 1, .ref q93, .int 0, .ref q94, .null, .ref q95, .null, .ref q96, .ref q97, .ref q98, .ref q99, .ref q100, .int 0, .ref q101, .ref q102, .ref q103, .ref q104, .ref q105, .int 0, .int 0])), (q87, .inl (k87, 24, .inl (fun _ => 0))), (q88, .inl (k88, 24, .inl (fun _ => 0))), (q89, .inl (k89, 24, .inl (fun _ => 0))), (q90, .inl (k90, 24, .inl (fun _ => 0))), (q91, .inl (k91, 24, .inr (.inr (.inr (.inr (fun _ => none)))))), (q92, .inl (k92, 24, .inr (.inr (.inr (.inr (fun _ => none)))))), (q93, .inl (k93, 4000, .inl (fun _ => 0))), (q94, .inl (k94, 0, .inl (fun _ => 0))), (q96, .inl (k96, 24, .inl (fun _ => 0))), (q106, .inl (k106, 1, .inr (.inl (fun _ => 0))))]) (hS : va_S (fun q : Nat => s.heap.size ≤ q) s.heap H locs) (hZ : zZ (fun q : Nat => s.heap.size ≤ q) s s.heap) (hN : zN s) (ls : Array Slot) (hl : lv_has ls 7 [(4, .int 0), (3, .ref q106), (2, .ref q86), (1, .ref q0), (0, .ref b)]) : W p l e room_1 s m #[Value.ref b] below meth c H locs 131 6692 (lw_Z below #[Value.ref b] s) (F0 m 1197 ls []) := by
  obtain ⟨hx, hb, hr, hml, hown, hts, hX, hbl, hlocks, hgv⟩ := id C0
  have hbA : ¬ (fun q : Nat => s.heap.size ≤ q) b := Nat.not_le.mpr hbl
  have hA : ∀ q : Nat, s.heap.size ≤ q → (fun q : Nat => s.heap.size ≤ q) q := fun _ h => h
  by_cases hb0 : (xs 1) < (0 : Int32)
  · skip
    have hc0 : (xs 1) < (0 : Int32) := hb0
    refine lv_aload_n hx hb dL_law_1197 rfl (lv_at hl 3 rfl) ?_
    refine lv_aload_n hx hb dL_law_1198 rfl (lv_at hl 4 rfl) ?_
    refine lv_iload hx hb dL_law_1199 (lv_at hl 0 rfl) ?_
    refine lv_iconst (v := 1) hx hb dL_law_1201 (by decide +kernel) ?_
    refine lv_iadd hx hb dL_law_1202 ?_
    refine zt_i (v := 1) (by decide +kernel) ?_
    refine va_sld hx hb hX hbl hbA hS (i := 1) (zin (by decide +kernel)) dL_law_1203 ?_
    refine zt_v (w := .int (xs 1)) rfl ?_
    refine lv_aload_n hx hb dL_law_1204 rfl (lv_at hl 1 rfl) ?_
    have hPc := hP.sub (ws' := [(q0, .inr (13, [.ref q1, .ref q3, .ref q5, .ref q7, .ref q9, .ref q11, .ref q13, .ref q15, .int 0, .ref q17, .ref q21, .ref q25, .ref q26, .ref q27]))]) [0] rfl
    have hDc := hD.sub (ws' := [(q0, .inr (13, [.ref q1, .ref q3, .ref q5, .ref q7, .ref q9, .ref q11, .ref q13, .ref q15, .int 0, .ref q17, .ref q21, .ref q25, .ref q26, .ref q27]))]) [0] (by decide) rfl
    have hKc := hK.sub (tys' := []) [] rfl
    have hFc := va_free (wc := [(q0, .inr (13, [.ref q1, .ref q3, .ref q5, .ref q7, .ref q9, .ref q11, .ref q13, .ref q15, .int 0, .ref q17, .ref q21, .ref q25, .ref q26, .ref q27]))]) hD hS hA [0] rfl
    refine va_calli (vx_runSW (As := [.ref q0, .int (xs 1), .ref q106]) (rest := []) ⟨hx, hb, hml, hown, hts⟩ (c_L_join l hfl dC dI q0 q106 q1 q3 q5 q7 q9 q11 q13 q15 q17 q21 q25 q26 q27 H.size (xs 1) hc0) (vx_cwSW 3 hts gL_law_L_join rfl rfl rfl (by decide +kernel) ⟨Nat.le_of_ble_eq_true rfl, Nat.le_of_ble_eq_true rfl⟩) ⟨zB_blind, (zPre hPc hDc hKc hS hFc hZ hN)⟩ rfl rfl hl.1 rfl (lv_room (Nat.le_of_ble_eq_true rfl)) dL_law_1205 ⟨Nat.le_of_ble_eq_true rfl, Nat.le_of_ble_eq_true rfl⟩) hS (fun q _ h => hFc q h) hFc (fun r u t H1 locs ht hvm hw hB hz1 hk1 hS => ?_)
    subst hw
    obtain ⟨hP1, hK1, hD1⟩ := hB
    rw [ht] at hP1
    have hK1 := va_K.moved hvm.symm hK1
    obtain ⟨hP, hD⟩ := va_join (wr := [(q86, .inr (15, [.ref q87, .ref q88, .ref q89, .ref q90, .ref q91, .ref q92, .int 0, .int 1, .ref q93, .int 0, .ref q94, .null, .ref q95, .null, .ref q96, .ref q97, .ref q98, .ref q99, .ref q100, .int 0, .ref q101, .ref q102, .ref q103, .ref q104, .ref q105, .int 0, .int 0]))]) (w1 := []) hP hD [0] [13] rfl rfl (by decide) (by decide) hk1 hFc hP1 hD1
    have hK := (hK.sub (tys' := []) [] rfl).app hK1
    generalize H1 = H at hP hS ⊢
    have hP : va_P (dC, dI) vwCl [(q86, .inr (15, [.ref q87, .ref q88, .ref q89, .ref q90, .ref q91, .ref q92, .int 0, .int 1, .ref q93, .int 0, .ref q94, .null, .ref q95, .null, .ref q96, .ref q97, .ref q98, .ref q99, .ref q100, .int 0, .ref q101, .ref q102, .ref q103, .ref q104, .ref q105, .int 0, .int 0]))] H := hP
    have hD : va_D (fun q : Nat => s.heap.size ≤ q) [(q86, .inr (15, [.ref q87, .ref q88, .ref q89, .ref q90, .ref q91, .ref q92, .int 0, .int 1, .ref q93, .int 0, .ref q94, .null, .ref q95, .null, .ref q96, .ref q97, .ref q98, .ref q99, .ref q100, .int 0, .ref q101, .ref q102, .ref q103, .ref q104, .ref q105, .int 0, .int 0]))] := hD
    have hK : va_K (dC, dI) vwCl [] s := hK
    refine W.widen (k := 132) (n := 6698) (Nat.le_of_ble_eq_true rfl) (Nat.le_of_ble_eq_true rfl) ?_
    refine lv_istore (lv' := [(5, .int 1), (4, .int 0), (3, .ref q106), (2, .ref q86), (1, .ref q0), (0, .ref b)]) hx hb dL_law_1208 hl (by decide) rfl (fun ls hl => ?_)
    refine lv_aload_n hx hb dL_law_1210 rfl (lv_at hl 3 rfl) ?_
    refine lv_aload_n hx hb dL_law_1211 rfl (lv_at hl 5 rfl) ?_
    refine lv_iload hx hb dL_law_1212 (lv_at hl 1 rfl) ?_
    refine lv_iconst (v := 1) hx hb dL_law_1214 (by decide +kernel) ?_
    refine lv_iadd hx hb dL_law_1215 ?_
    refine zt_i (v := 1) (by decide +kernel) ?_
    refine va_sld hx hb hX hbl hbA hS (i := 1) (zin (by decide +kernel)) dL_law_1216 ?_
    refine zt_v (w := .int (xs 1)) rfl ?_
    have hPc := hP.sub (ws' := [(q86, .inr (15, [.ref q87, .ref q88, .ref q89, .ref q90, .ref q91, .ref q92, .int 0, .int 1, .ref q93, .int 0, .ref q94, .null, .ref q95, .null, .ref q96, .ref q97, .ref q98, .ref q99, .ref q100, .int 0, .ref q101, .ref q102, .ref q103, .ref q104, .ref q105, .int 0, .int 0]))]) [0] rfl
    have hDc := hD.sub (ws' := [(q86, .inr (15, [.ref q87, .ref q88, .ref q89, .ref q90, .ref q91, .ref q92, .int 0, .int 1, .ref q93, .int 0, .ref q94, .null, .ref q95, .null, .ref q96, .ref q97, .ref q98, .ref q99, .ref q100, .int 0, .ref q101, .ref q102, .ref q103, .ref q104, .ref q105, .int 0, .int 0]))]) [0] (by decide) rfl
    have hKc := hK.sub (tys' := []) [] rfl
    have hFc := va_free (wc := [(q86, .inr (15, [.ref q87, .ref q88, .ref q89, .ref q90, .ref q91, .ref q92, .int 0, .int 1, .ref q93, .int 0, .ref q94, .null, .ref q95, .null, .ref q96, .ref q97, .ref q98, .ref q99, .ref q100, .int 0, .ref q101, .ref q102, .ref q103, .ref q104, .ref q105, .int 0, .int 0]))]) hD hS hA [0] rfl
    refine va_calli (va_runV (As := [.int (xs 1)]) (rest := []) ⟨hx, hb, hml, hown, hts⟩ (c_X13_join l dC dI q86 q87 q88 q89 q90 q91 q92 q93 q94 q95 q96 q97 q98 q99 q100 q101 q102 q103 q104 q105 H.size (xs 1) hc0) (cwV 1 hts gL_law_X13_join rfl rfl rfl (by decide +kernel) ⟨Nat.le_of_ble_eq_true rfl, Nat.le_of_ble_eq_true rfl⟩) ⟨zB_blind, va_recv hK hP (ci := 15) (q0 := 0) rfl rfl, (zPre hPc hDc hKc hS hFc hZ hN)⟩ rfl rfl hl.1 rfl (lv_room (Nat.le_of_ble_eq_true rfl)) dL_law_1217 ⟨Nat.le_of_ble_eq_true rfl, Nat.le_of_ble_eq_true rfl⟩) hS (fun q _ h => hFc q h) hFc (fun r u t H1 locs ht hvm hw hB hz1 hk1 hS => ?_)
    subst hw
    obtain ⟨hP1, hK1, hD1⟩ := hB
    rw [ht] at hP1
    have hK1 := va_K.moved hvm.symm hK1
    obtain ⟨hP, hD⟩ := va_join (wr := []) (w1 := [(q86, .inr (15, [.ref q87, .ref q88, .ref q89, .ref q90, .ref q91, .ref q92, .int 0, .int 1, .ref q93, .int 0, .ref q94, .null, .ref q95, .null, .ref q96, .ref q97, .ref q98, .ref q99, .ref q100, .int 1, .ref q101, .ref q102, .ref q103, .ref q104, .ref q105, .int 0, .int 0]))]) hP hD [0] [] rfl rfl (by decide) (by decide) hk1 hFc hP1 hD1
    have hK := (hK.sub (tys' := []) [] rfl).app hK1
    generalize H1 = H at hP hS ⊢
    have hP : va_P (dC, dI) vwCl [(q86, .inr (15, [.ref q87, .ref q88, .ref q89, .ref q90, .ref q91, .ref q92, .int 0, .int 1, .ref q93, .int 0, .ref q94, .null, .ref q95, .null, .ref q96, .ref q97, .ref q98, .ref q99, .ref q100, .int 1, .ref q101, .ref q102, .ref q103, .ref q104, .ref q105, .int 0, .int 0]))] H := hP
    have hD : va_D (fun q : Nat => s.heap.size ≤ q) [(q86, .inr (15, [.ref q87, .ref q88, .ref q89, .ref q90, .ref q91, .ref q92, .int 0, .int 1, .ref q93, .int 0, .ref q94, .null, .ref q95, .null, .ref q96, .ref q97, .ref q98, .ref q99, .ref q100, .int 1, .ref q101, .ref q102, .ref q103, .ref q104, .ref q105, .int 0, .int 0]))] := hD
    have hK : va_K (dC, dI) vwCl [] s := hK
    refine W.widen (k := 132) (n := 6698) (Nat.le_of_ble_eq_true rfl) (Nat.le_of_ble_eq_true rfl) ?_
    refine lv_istore (lv' := [(6, .int 0), (5, .int 1), (4, .int 0), (3, .ref q106), (2, .ref q86), (1, .ref q0), (0, .ref b)]) hx hb dL_law_1220 hl (by decide) rfl (fun ls hl => ?_)
    refine lv_aload_n hx hb dL_law_1222 rfl (lv_at hl 4 rfl) ?_
    have hPc := hP.sub (ws' := [(q86, .inr (15, [.ref q87, .ref q88, .ref q89, .ref q90, .ref q91, .ref q92, .int 0, .int 1, .ref q93, .int 0, .ref q94, .null, .ref q95, .null, .ref q96, .ref q97, .ref q98, .ref q99, .ref q100, .int 1, .ref q101, .ref q102, .ref q103, .ref q104, .ref q105, .int 0, .int 0]))]) [0] rfl
    have hDc := hD.sub (ws' := [(q86, .inr (15, [.ref q87, .ref q88, .ref q89, .ref q90, .ref q91, .ref q92, .int 0, .int 1, .ref q93, .int 0, .ref q94, .null, .ref q95, .null, .ref q96, .ref q97, .ref q98, .ref q99, .ref q100, .int 1, .ref q101, .ref q102, .ref q103, .ref q104, .ref q105, .int 0, .int 0]))]) [0] (by decide) rfl
    have hKc := hK.sub (tys' := []) [] rfl
    have hFc := va_free (wc := [(q86, .inr (15, [.ref q87, .ref q88, .ref q89, .ref q90, .ref q91, .ref q92, .int 0, .int 1, .ref q93, .int 0, .ref q94, .null, .ref q95, .null, .ref q96, .ref q97, .ref q98, .ref q99, .ref q100, .int 1, .ref q101, .ref q102, .ref q103, .ref q104, .ref q105, .int 0, .int 0]))]) hD hS hA [0] rfl
    refine va_calli (va_runV (As := []) (rest := []) ⟨hx, hb, hml, hown, hts⟩ (c_X13_thrown l dC dI q86 q87 q88 q89 q90 q91 q92 q93 q94 q95 q96 q97 q98 q99 q100 q101 q102 q103 q104 q105 H.size  ) (cwV 0 hts gL_law_X13_thrown rfl rfl rfl (by decide +kernel) ⟨Nat.le_of_ble_eq_true rfl, Nat.le_of_ble_eq_true rfl⟩) ⟨zB_blind, va_recv hK hP (ci := 15) (q0 := 0) rfl rfl, (zPre hPc hDc hKc hS hFc hZ hN)⟩ rfl rfl hl.1 rfl (lv_room (Nat.le_of_ble_eq_true rfl)) dL_law_1223 ⟨Nat.le_of_ble_eq_true rfl, Nat.le_of_ble_eq_true rfl⟩) hS (fun q _ h => hFc q h) hFc (fun r u t H1 locs ht hvm hw hB hz1 hk1 hS => ?_)
    subst hw
    obtain ⟨hP1, hK1, hD1⟩ := hB
    rw [ht] at hP1
    have hK1 := va_K.moved hvm.symm hK1
    obtain ⟨hP, hD⟩ := va_join (wr := []) (w1 := []) hP hD [0] [] rfl rfl (by decide) (by decide) hk1 hFc hP1 hD1
    have hK := (hK.sub (tys' := []) [] rfl).app hK1
    generalize H1 = H at hP hS ⊢
    have hP : va_P (dC, dI) vwCl [] H := hP
    have hD : va_D (fun q : Nat => s.heap.size ≤ q) [] := hD
    have hK : va_K (dC, dI) vwCl [] s := hK
    refine W.widen (k := 132) (n := 6698) (Nat.le_of_ble_eq_true rfl) (Nat.le_of_ble_eq_true rfl) ?_
    refine lv_iload hx hb dL_law_1226 (lv_at hl 1 rfl) ?_
    refine lv_icmp_eq (tgt := 1233) hx hb dL_law_1228 (by decide) (fun _ => ?_) (fun h9 => absurd (show (1 : Int32) = (1 : Int32) by decide +kernel) h9)
    refine lv_iload hx hb dL_law_1233 (lv_at hl 1 rfl) ?_
    refine lv_if_ne (tgt := 1250) hx hb dL_law_1235 (by decide) (fun _ => ?_) (fun h9 => absurd h9 (show ¬ (1 : Int32) = (0 : Int32) by decide +kernel))
    refine lv_goto (tgt := 2311) hx hb dL_law_1250 (by decide) ?_
    exact law_exit C0 hS (Nat.le_of_ble_eq_true rfl) (Nat.le_of_ble_eq_true rfl) ls (lv_sub hl [2, 3, 4, 5, 6] rfl)
  · skip
    have hc0 : ¬ (xs 1) < (0 : Int32) := hb0
    have hc1 : ((-1) : Int32) < (xs 1) := zd_3 hb0
    refine lv_aload_n hx hb dL_law_1197 rfl (lv_at hl 3 rfl) ?_
    refine lv_aload_n hx hb dL_law_1198 rfl (lv_at hl 4 rfl) ?_
    refine lv_iload hx hb dL_law_1199 (lv_at hl 0 rfl) ?_
    refine lv_iconst (v := 1) hx hb dL_law_1201 (by decide +kernel) ?_
    refine lv_iadd hx hb dL_law_1202 ?_
    refine zt_i (v := 1) (by decide +kernel) ?_
    refine va_sld hx hb hX hbl hbA hS (i := 1) (zin (by decide +kernel)) dL_law_1203 ?_
    refine zt_v (w := .int (xs 1)) rfl ?_
    refine lv_aload_n hx hb dL_law_1204 rfl (lv_at hl 1 rfl) ?_
    have hPc := hP.sub (ws' := [(q0, .inr (13, [.ref q1, .ref q3, .ref q5, .ref q7, .ref q9, .ref q11, .ref q13, .ref q15, .int 0, .ref q17, .ref q21, .ref q25, .ref q26, .ref q27])), (q3, .inr (11, [.ref q4, .int 0, .int 1]))]) [0, 3] rfl
    have hDc := hD.sub (ws' := [(q0, .inr (13, [.ref q1, .ref q3, .ref q5, .ref q7, .ref q9, .ref q11, .ref q13, .ref q15, .int 0, .ref q17, .ref q21, .ref q25, .ref q26, .ref q27])), (q3, .inr (11, [.ref q4, .int 0, .int 1]))]) [0, 3] (by decide) rfl
    have hKc := hK.sub (tys' := []) [] rfl
    have hFc := va_free (wc := [(q0, .inr (13, [.ref q1, .ref q3, .ref q5, .ref q7, .ref q9, .ref q11, .ref q13, .ref q15, .int 0, .ref q17, .ref q21, .ref q25, .ref q26, .ref q27])), (q3, .inr (11, [.ref q4, .int 0, .int 1]))]) hD hS hA [0, 3] rfl
    refine va_calli (vx_runSW (As := [.ref q0, .int (xs 1), .ref q106]) (rest := []) ⟨hx, hb, hml, hown, hts⟩ (c_L_join_2 l hfl dC dI q0 q106 q1 q3 q5 q7 q9 q11 q13 q15 q17 q21 q25 q26 q27 q4 H.size (xs 1) hc0) (vx_cwSW 3 hts gL_law_L_join rfl rfl rfl (by decide +kernel) ⟨Nat.le_of_ble_eq_true rfl, Nat.le_of_ble_eq_true rfl⟩) ⟨zB_blind, (zPre hPc hDc hKc hS hFc hZ hN)⟩ rfl rfl hl.1 rfl (lv_room (Nat.le_of_ble_eq_true rfl)) dL_law_1205 ⟨Nat.le_of_ble_eq_true rfl, Nat.le_of_ble_eq_true rfl⟩) hS (fun q _ h => hFc q h) hFc (fun r u t H1 locs ht hvm hw hB hz1 hk1 hS => ?_)
    subst hw
    obtain ⟨hP1, hK1, hD1⟩ := hB
    rw [ht] at hP1
    have hK1 := va_K.moved hvm.symm hK1
    obtain ⟨hP, hD⟩ := va_join (wr := [(q86, .inr (15, [.ref q87, .ref q88, .ref q89, .ref q90, .ref q91, .ref q92, .int 0, .int 1, .ref q93, .int 0, .ref q94, .null, .ref q95, .null, .ref q96, .ref q97, .ref q98, .ref q99, .ref q100, .int 0, .ref q101, .ref q102, .ref q103, .ref q104, .ref q105, .int 0, .int 0]))]) (w1 := []) hP hD [0, 3] [13] rfl rfl (by decide) (by decide) hk1 hFc hP1 hD1
    have hK := (hK.sub (tys' := []) [] rfl).app hK1
    generalize H1 = H at hP hS ⊢
    have hP : va_P (dC, dI) vwCl [(q86, .inr (15, [.ref q87, .ref q88, .ref q89, .ref q90, .ref q91, .ref q92, .int 0, .int 1, .ref q93, .int 0, .ref q94, .null, .ref q95, .null, .ref q96, .ref q97, .ref q98, .ref q99, .ref q100, .int 0, .ref q101, .ref q102, .ref q103, .ref q104, .ref q105, .int 0, .int 0]))] H := hP
    have hD : va_D (fun q : Nat => s.heap.size ≤ q) [(q86, .inr (15, [.ref q87, .ref q88, .ref q89, .ref q90, .ref q91, .ref q92, .int 0, .int 1, .ref q93, .int 0, .ref q94, .null, .ref q95, .null, .ref q96, .ref q97, .ref q98, .ref q99, .ref q100, .int 0, .ref q101, .ref q102, .ref q103, .ref q104, .ref q105, .int 0, .int 0]))] := hD
    have hK : va_K (dC, dI) vwCl [] s := hK
    refine W.widen (k := 132) (n := 6698) (Nat.le_of_ble_eq_true rfl) (Nat.le_of_ble_eq_true rfl) ?_
    refine lv_istore (lv' := [(5, .int 1), (4, .int 0), (3, .ref q106), (2, .ref q86), (1, .ref q0), (0, .ref b)]) hx hb dL_law_1208 hl (by decide) rfl (fun ls hl => ?_)
    refine lv_aload_n hx hb dL_law_1210 rfl (lv_at hl 3 rfl) ?_
    refine lv_aload_n hx hb dL_law_1211 rfl (lv_at hl 5 rfl) ?_
    refine lv_iload hx hb dL_law_1212 (lv_at hl 1 rfl) ?_
    refine lv_iconst (v := 1) hx hb dL_law_1214 (by decide +kernel) ?_
    refine lv_iadd hx hb dL_law_1215 ?_
    refine zt_i (v := 1) (by decide +kernel) ?_
    refine va_sld hx hb hX hbl hbA hS (i := 1) (zin (by decide +kernel)) dL_law_1216 ?_
    refine zt_v (w := .int (xs 1)) rfl ?_
    have hPc := hP.sub (ws' := [(q86, .inr (15, [.ref q87, .ref q88, .ref q89, .ref q90, .ref q91, .ref q92, .int 0, .int 1, .ref q93, .int 0, .ref q94, .null, .ref q95, .null, .ref q96, .ref q97, .ref q98, .ref q99, .ref q100, .int 0, .ref q101, .ref q102, .ref q103, .ref q104, .ref q105, .int 0, .int 0]))]) [0] rfl
    have hDc := hD.sub (ws' := [(q86, .inr (15, [.ref q87, .ref q88, .ref q89, .ref q90, .ref q91, .ref q92, .int 0, .int 1, .ref q93, .int 0, .ref q94, .null, .ref q95, .null, .ref q96, .ref q97, .ref q98, .ref q99, .ref q100, .int 0, .ref q101, .ref q102, .ref q103, .ref q104, .ref q105, .int 0, .int 0]))]) [0] (by decide) rfl
    have hKc := hK.sub (tys' := []) [] rfl
    have hFc := va_free (wc := [(q86, .inr (15, [.ref q87, .ref q88, .ref q89, .ref q90, .ref q91, .ref q92, .int 0, .int 1, .ref q93, .int 0, .ref q94, .null, .ref q95, .null, .ref q96, .ref q97, .ref q98, .ref q99, .ref q100, .int 0, .ref q101, .ref q102, .ref q103, .ref q104, .ref q105, .int 0, .int 0]))]) hD hS hA [0] rfl
    refine va_calli (va_runV (As := [.int (xs 1)]) (rest := []) ⟨hx, hb, hml, hown, hts⟩ (c_X13_join_2 l dC dI q86 q87 q88 q89 q90 q91 q92 q93 q94 q95 q96 q97 q98 q99 q100 q101 q102 q103 q104 q105 H.size (xs 1) hc0 hc1) (cwV 1 hts gL_law_X13_join rfl rfl rfl (by decide +kernel) ⟨Nat.le_of_ble_eq_true rfl, Nat.le_of_ble_eq_true rfl⟩) ⟨zB_blind, va_recv hK hP (ci := 15) (q0 := 0) rfl rfl, (zPre hPc hDc hKc hS hFc hZ hN)⟩ rfl rfl hl.1 rfl (lv_room (Nat.le_of_ble_eq_true rfl)) dL_law_1217 ⟨Nat.le_of_ble_eq_true rfl, Nat.le_of_ble_eq_true rfl⟩) hS (fun q _ h => hFc q h) hFc (fun r u t H1 locs ht hvm hw hB hz1 hk1 hS => ?_)
    subst hw
    obtain ⟨hP1, hK1, hD1⟩ := hB
    rw [ht] at hP1
    have hK1 := va_K.moved hvm.symm hK1
    obtain ⟨hP, hD⟩ := va_join (wr := []) (w1 := [(q86, .inr (15, [.ref q87, .ref q88, .ref q89, .ref q90, .ref q91, .ref q92, .int 0, .int 1, .ref q93, .int 0, .ref q94, .null, .ref q95, .null, .ref q96, .ref q97, .ref q98, .ref q99, .ref q100, .int 1, .ref q101, .ref q102, .ref q103, .ref q104, .ref q105, .int 0, .int 0]))]) hP hD [0] [] rfl rfl (by decide) (by decide) hk1 hFc hP1 hD1
    have hK := (hK.sub (tys' := []) [] rfl).app hK1
    generalize H1 = H at hP hS ⊢
    have hP : va_P (dC, dI) vwCl [(q86, .inr (15, [.ref q87, .ref q88, .ref q89, .ref q90, .ref q91, .ref q92, .int 0, .int 1, .ref q93, .int 0, .ref q94, .null, .ref q95, .null, .ref q96, .ref q97, .ref q98, .ref q99, .ref q100, .int 1, .ref q101, .ref q102, .ref q103, .ref q104, .ref q105, .int 0, .int 0]))] H := hP
    have hD : va_D (fun q : Nat => s.heap.size ≤ q) [(q86, .inr (15, [.ref q87, .ref q88, .ref q89, .ref q90, .ref q91, .ref q92, .int 0, .int 1, .ref q93, .int 0, .ref q94, .null, .ref q95, .null, .ref q96, .ref q97, .ref q98, .ref q99, .ref q100, .int 1, .ref q101, .ref q102, .ref q103, .ref q104, .ref q105, .int 0, .int 0]))] := hD
    have hK : va_K (dC, dI) vwCl [] s := hK
    refine W.widen (k := 132) (n := 6698) (Nat.le_of_ble_eq_true rfl) (Nat.le_of_ble_eq_true rfl) ?_
    refine lv_istore (lv' := [(6, .int 0), (5, .int 1), (4, .int 0), (3, .ref q106), (2, .ref q86), (1, .ref q0), (0, .ref b)]) hx hb dL_law_1220 hl (by decide) rfl (fun ls hl => ?_)
    refine lv_aload_n hx hb dL_law_1222 rfl (lv_at hl 4 rfl) ?_
    have hPc := hP.sub (ws' := [(q86, .inr (15, [.ref q87, .ref q88, .ref q89, .ref q90, .ref q91, .ref q92, .int 0, .int 1, .ref q93, .int 0, .ref q94, .null, .ref q95, .null, .ref q96, .ref q97, .ref q98, .ref q99, .ref q100, .int 1, .ref q101, .ref q102, .ref q103, .ref q104, .ref q105, .int 0, .int 0]))]) [0] rfl
    have hDc := hD.sub (ws' := [(q86, .inr (15, [.ref q87, .ref q88, .ref q89, .ref q90, .ref q91, .ref q92, .int 0, .int 1, .ref q93, .int 0, .ref q94, .null, .ref q95, .null, .ref q96, .ref q97, .ref q98, .ref q99, .ref q100, .int 1, .ref q101, .ref q102, .ref q103, .ref q104, .ref q105, .int 0, .int 0]))]) [0] (by decide) rfl
    have hKc := hK.sub (tys' := []) [] rfl
    have hFc := va_free (wc := [(q86, .inr (15, [.ref q87, .ref q88, .ref q89, .ref q90, .ref q91, .ref q92, .int 0, .int 1, .ref q93, .int 0, .ref q94, .null, .ref q95, .null, .ref q96, .ref q97, .ref q98, .ref q99, .ref q100, .int 1, .ref q101, .ref q102, .ref q103, .ref q104, .ref q105, .int 0, .int 0]))]) hD hS hA [0] rfl
    refine va_calli (va_runV (As := []) (rest := []) ⟨hx, hb, hml, hown, hts⟩ (c_X13_thrown l dC dI q86 q87 q88 q89 q90 q91 q92 q93 q94 q95 q96 q97 q98 q99 q100 q101 q102 q103 q104 q105 H.size  ) (cwV 0 hts gL_law_X13_thrown rfl rfl rfl (by decide +kernel) ⟨Nat.le_of_ble_eq_true rfl, Nat.le_of_ble_eq_true rfl⟩) ⟨zB_blind, va_recv hK hP (ci := 15) (q0 := 0) rfl rfl, (zPre hPc hDc hKc hS hFc hZ hN)⟩ rfl rfl hl.1 rfl (lv_room (Nat.le_of_ble_eq_true rfl)) dL_law_1223 ⟨Nat.le_of_ble_eq_true rfl, Nat.le_of_ble_eq_true rfl⟩) hS (fun q _ h => hFc q h) hFc (fun r u t H1 locs ht hvm hw hB hz1 hk1 hS => ?_)
    subst hw
    obtain ⟨hP1, hK1, hD1⟩ := hB
    rw [ht] at hP1
    have hK1 := va_K.moved hvm.symm hK1
    obtain ⟨hP, hD⟩ := va_join (wr := []) (w1 := []) hP hD [0] [] rfl rfl (by decide) (by decide) hk1 hFc hP1 hD1
    have hK := (hK.sub (tys' := []) [] rfl).app hK1
    generalize H1 = H at hP hS ⊢
    have hP : va_P (dC, dI) vwCl [] H := hP
    have hD : va_D (fun q : Nat => s.heap.size ≤ q) [] := hD
    have hK : va_K (dC, dI) vwCl [] s := hK
    refine W.widen (k := 132) (n := 6698) (Nat.le_of_ble_eq_true rfl) (Nat.le_of_ble_eq_true rfl) ?_
    refine lv_iload hx hb dL_law_1226 (lv_at hl 1 rfl) ?_
    refine lv_icmp_eq (tgt := 1233) hx hb dL_law_1228 (by decide) (fun _ => ?_) (fun h9 => absurd (show (1 : Int32) = (1 : Int32) by decide +kernel) h9)
    refine lv_iload hx hb dL_law_1233 (lv_at hl 1 rfl) ?_
    refine lv_if_ne (tgt := 1250) hx hb dL_law_1235 (by decide) (fun _ => ?_) (fun h9 => absurd h9 (show ¬ (1 : Int32) = (0 : Int32) by decide +kernel))
    refine lv_goto (tgt := 2311) hx hb dL_law_1250 (by decide) ?_
    exact law_exit C0 hS (Nat.le_of_ble_eq_true rfl) (Nat.le_of_ble_eq_true rfl) ls (lv_sub hl [2, 3, 4, 5, 6] rfl)
set_option maxHeartbeats 8000000 in
set_option maxRecDepth 100000 in
theorem law_case_22 {p : Program} {l : Launch} {e : Env} {s : State} {m : MethodId} {below : List Frame} {meth : Method} {c : Code} {b : Nat} {xs : Nat → Int32} (hfl : l.stackTraces = false) (C0 : lw_At p s m meth c b 4 xs) {dC : Nat → ClassId} {dI : Nat → Nat → Nat} {q0 q1 q3 q5 q7 q9 q11 q13 q15 q17 q21 q25 q26 q27 q2 q4 q6 q8 q10 q16 q18 q22 q23 q86 q87 q88 q89 q90 q91 q92 q93 q94 q95 q96 q97 q98 q99 q100 q101 q102 q103 q104 q105 q106 : Nat} {k2 k4 k87 k88 k89 k90 k91 k92 k93 k94 k96 k106 : ClassId} {H : Heap} {locs : List Loc} (hK : va_K (dC, dI) vwCl [(k2, .char), (k4, (.object "Seekwell$Text")), (k87, .boolean), (k88, .int), (k89, .int), (k90, .char), (k91, (.array .long)), (k92, (.array .long)), (k93, .int), (k94, .int), (k96, .boolean), (k106, .long)] s) (hP : va_P (dC, dI) vwCl [(q0, .inr (13, [.ref q1, .ref q3, .ref q5, .ref q7, .ref q9, .ref q11, .ref q13, .ref q15, .int 0, .ref q17, .ref q21, .ref q25, .ref q26, .ref q27])), (q1, .inr (7, [.ref q2, .int 0])), (q2, .inl (k2, 512, .inl (fun _ => 0))), (q3, .inr (11, [.ref q4, .int 0, .int 1])), (q4, .inl (k4, 24, .inr (.inr (.inr (.inr (fun _ => none)))))), (q5, .inr (11, [.ref q6, .int 0, .int 1])), (q7, .inr (10, [.ref q8, .int 0])), (q9, .inr (5, [.ref q10, .int 0, .int 0])), (q15, .inr (5, [.ref q16, .int 0, .int 0])), (q17, .inr (9, [.ref q18, .ref q18, .null])), (q21, .inr (9, [.ref q22, .ref q22, .null])), (q22, .inr (8, [.int 0, .int 0, .int 1, .int 0, .int 0, .int 0, .ref q23, .null, .null, .null, .null, .int 0, .int 0, .int 0, .int 0, .null, .null])), (q26, .inr (3, [.null, .null, .int 0, .int 0, .null])), (q86, .inr (15, [.ref q87, .ref q88, .ref q89, .ref q90, .ref q91, .ref q92, .int 0, .int 1, .ref q93, .int 0, .ref q94, .null, .ref q95, .null, .ref q96, .ref q97, .ref q98, .ref q99, .ref q100, .int 0, .ref q101, .ref q102, .ref q103, .ref q104, .ref q105, .int 0, .int 0])), (q87, .inl (k87, 24, .inl (fun _ => 0))), (q88, .inl (k88, 24, .inl (fun _ => 0))), (q89, .inl (k89, 24, .inl (fun _ => 0))), (q90, .inl (k90, 24, .inl (fun _ => 0))), (q91, .inl (k91, 24, .inr (.inr (.inr (.inr (fun _ => none)))))), (q92, .inl (k92, 24, .inr (.inr (.inr (.inr (fun _ => none)))))), (q93, .inl (k93, 4000, .inl (fun _ => 0))), (q94, .inl (k94, 0, .inl (fun _ => 0))), (q96, .inl (k96, 24, .inl (fun _ => 0))), (q106, .inl (k106, 1, .inr (.inl (fun _ => 0))))] H) (hD : va_D (fun q : Nat => s.heap.size ≤ q) [(q0, .inr (13, [.ref q1, .ref q3, .ref q5, .ref q7, .ref q9, .ref q11, .ref q13, .ref q15, .int 0, .ref q17, .ref q21, .ref q25, .ref q26, .ref q27])), (q1, .inr (7, [.ref q2, .int 0])), (q2, .inl (k2, 512, .inl (fun _ => 0))), (q3, .inr (11, [.ref q4, .int 0, .int 1])), (q4, .inl (k4, 24, .inr (.inr (.inr (.inr (fun _ => none)))))), (q5, .inr (11, [.ref q6, .int 0, .int 1])), (q7, .inr (10, [.ref q8, .int 0])), (q9, .inr (5, [.ref q10, .int 0, .int 0])), (q15, .inr (5, [.ref q16, .int 0, .int 0])), (q17, .inr (9, [.ref q18, .ref q18, .null])), (q21, .inr (9, [.ref q22, .ref q22, .null])), (q22, .inr (8, [.int 0, .int 0, .int 1, .int 0, .int 0, .int 0, .ref q23, .null, .null, .null, .null, .int 0, .int 0, .int 0, .int 0, .null, .null])), (q26, .inr (3, [.null, .null, .int 0, .int 0, .null])), (q86, .inr (15, [.ref q87, .ref q88, .ref q89, .ref q90, .ref q91, .ref q92, .int 0, .int 1, .ref q93, .int 0, .ref q94, .null, .ref q95, .null, .ref q96, .ref q97, .ref q98, .ref q99, .ref q100, .int 0, .ref q101, .ref q102, .ref q103, .ref q104, .ref q105, .int 0, .int 0])), (q87, .inl (k87, 24, .inl (fun _ => 0))), (q88, .inl (k88, 24, .inl (fun _ => 0))), (q89, .inl (k89, 24, .inl (fun _ => 0))), (q90, .inl (k90, 24, .inl (fun _ => 0))), (q91, .inl (k91, 24, .inr (.inr (.inr (.inr (fun _ => none)))))), (q92, .inl (k92, 24, .inr (.inr (.inr (.inr (fun _ => none)))))), (q93, .inl (k93, 4000, .inl (fun _ => 0))), (q94, .inl (k94, 0, .inl (fun _ => 0))), (q96, .inl (k96, 24, .inl (fun _ => 0))), (q106, .inl (k106, 1, .inr (.inl (fun _ => 0))))]) (hS : va_S (fun q : Nat => s.heap.size ≤ q) s.heap H locs) (hZ : zZ (fun q : Nat => s.heap.size ≤ q) s s.heap) (hN : zN s) (ls : Array Slot) (hl : lv_has ls 7 [(4, .int 0), (3, .ref q106), (2, .ref q86), (1, .ref q0), (0, .ref b)]) : W p l e room_1 s m #[Value.ref b] below meth c H locs 131 6692 (lw_Z below #[Value.ref b] s) (F0 m 1253 ls []) := by
  obtain ⟨hx, hb, hr, hml, hown, hts, hX, hbl, hlocks, hgv⟩ := id C0
  have hbA : ¬ (fun q : Nat => s.heap.size ≤ q) b := Nat.not_le.mpr hbl
  have hA : ∀ q : Nat, s.heap.size ≤ q → (fun q : Nat => s.heap.size ≤ q) q := fun _ h => h
  by_cases hb0 : (xs 1) < (0 : Int32)
  · skip
    have hc0 : (xs 1) < (0 : Int32) := hb0
    refine lv_aload_n hx hb dL_law_1253 rfl (lv_at hl 3 rfl) ?_
    refine lv_aload_n hx hb dL_law_1254 rfl (lv_at hl 4 rfl) ?_
    refine lv_iload hx hb dL_law_1255 (lv_at hl 0 rfl) ?_
    refine lv_iconst (v := 1) hx hb dL_law_1257 (by decide +kernel) ?_
    refine lv_iadd hx hb dL_law_1258 ?_
    refine zt_i (v := 1) (by decide +kernel) ?_
    refine va_sld hx hb hX hbl hbA hS (i := 1) (zin (by decide +kernel)) dL_law_1259 ?_
    refine zt_v (w := .int (xs 1)) rfl ?_
    refine lv_aload_n hx hb dL_law_1260 rfl (lv_at hl 1 rfl) ?_
    have hPc := hP.sub (ws' := [(q0, .inr (13, [.ref q1, .ref q3, .ref q5, .ref q7, .ref q9, .ref q11, .ref q13, .ref q15, .int 0, .ref q17, .ref q21, .ref q25, .ref q26, .ref q27]))]) [0] rfl
    have hDc := hD.sub (ws' := [(q0, .inr (13, [.ref q1, .ref q3, .ref q5, .ref q7, .ref q9, .ref q11, .ref q13, .ref q15, .int 0, .ref q17, .ref q21, .ref q25, .ref q26, .ref q27]))]) [0] (by decide) rfl
    have hKc := hK.sub (tys' := []) [] rfl
    have hFc := va_free (wc := [(q0, .inr (13, [.ref q1, .ref q3, .ref q5, .ref q7, .ref q9, .ref q11, .ref q13, .ref q15, .int 0, .ref q17, .ref q21, .ref q25, .ref q26, .ref q27]))]) hD hS hA [0] rfl
    refine va_calli (vx_runSW (As := [.ref q0, .int (xs 1), .ref q106]) (rest := []) ⟨hx, hb, hml, hown, hts⟩ (c_L_packed l hfl dC dI q0 q106 q1 q3 q5 q7 q9 q11 q13 q15 q17 q21 q25 q26 q27 H.size (xs 1) hc0) (vx_cwSW 3 hts gL_law_L_packed rfl rfl rfl (by decide +kernel) ⟨Nat.le_of_ble_eq_true rfl, Nat.le_of_ble_eq_true rfl⟩) ⟨zB_blind, (zPre hPc hDc hKc hS hFc hZ hN)⟩ rfl rfl hl.1 rfl (lv_room (Nat.le_of_ble_eq_true rfl)) dL_law_1261 ⟨Nat.le_of_ble_eq_true rfl, Nat.le_of_ble_eq_true rfl⟩) hS (fun q _ h => hFc q h) hFc (fun r u t H1 locs ht hvm hw hB hz1 hk1 hS => ?_)
    subst hw
    obtain ⟨hP1, hK1, hD1⟩ := hB
    rw [ht] at hP1
    have hK1 := va_K.moved hvm.symm hK1
    obtain ⟨hP, hD⟩ := va_join (wr := [(q86, .inr (15, [.ref q87, .ref q88, .ref q89, .ref q90, .ref q91, .ref q92, .int 0, .int 1, .ref q93, .int 0, .ref q94, .null, .ref q95, .null, .ref q96, .ref q97, .ref q98, .ref q99, .ref q100, .int 0, .ref q101, .ref q102, .ref q103, .ref q104, .ref q105, .int 0, .int 0]))]) (w1 := []) hP hD [0] [13] rfl rfl (by decide) (by decide) hk1 hFc hP1 hD1
    have hK := (hK.sub (tys' := []) [] rfl).app hK1
    generalize H1 = H at hP hS ⊢
    have hP : va_P (dC, dI) vwCl [(q86, .inr (15, [.ref q87, .ref q88, .ref q89, .ref q90, .ref q91, .ref q92, .int 0, .int 1, .ref q93, .int 0, .ref q94, .null, .ref q95, .null, .ref q96, .ref q97, .ref q98, .ref q99, .ref q100, .int 0, .ref q101, .ref q102, .ref q103, .ref q104, .ref q105, .int 0, .int 0]))] H := hP
    have hD : va_D (fun q : Nat => s.heap.size ≤ q) [(q86, .inr (15, [.ref q87, .ref q88, .ref q89, .ref q90, .ref q91, .ref q92, .int 0, .int 1, .ref q93, .int 0, .ref q94, .null, .ref q95, .null, .ref q96, .ref q97, .ref q98, .ref q99, .ref q100, .int 0, .ref q101, .ref q102, .ref q103, .ref q104, .ref q105, .int 0, .int 0]))] := hD
    have hK : va_K (dC, dI) vwCl [] s := hK
    refine W.widen (k := 132) (n := 6698) (Nat.le_of_ble_eq_true rfl) (Nat.le_of_ble_eq_true rfl) ?_
    refine lv_istore (lv' := [(5, .int 1), (4, .int 0), (3, .ref q106), (2, .ref q86), (1, .ref q0), (0, .ref b)]) hx hb dL_law_1264 hl (by decide) rfl (fun ls hl => ?_)
    refine lv_aload_n hx hb dL_law_1266 rfl (lv_at hl 3 rfl) ?_
    refine lv_aload_n hx hb dL_law_1267 rfl (lv_at hl 5 rfl) ?_
    refine lv_iload hx hb dL_law_1268 (lv_at hl 1 rfl) ?_
    refine lv_iconst (v := 1) hx hb dL_law_1270 (by decide +kernel) ?_
    refine lv_iadd hx hb dL_law_1271 ?_
    refine zt_i (v := 1) (by decide +kernel) ?_
    refine va_sld hx hb hX hbl hbA hS (i := 1) (zin (by decide +kernel)) dL_law_1272 ?_
    refine zt_v (w := .int (xs 1)) rfl ?_
    have hPc := hP.sub (ws' := [(q86, .inr (15, [.ref q87, .ref q88, .ref q89, .ref q90, .ref q91, .ref q92, .int 0, .int 1, .ref q93, .int 0, .ref q94, .null, .ref q95, .null, .ref q96, .ref q97, .ref q98, .ref q99, .ref q100, .int 0, .ref q101, .ref q102, .ref q103, .ref q104, .ref q105, .int 0, .int 0]))]) [0] rfl
    have hDc := hD.sub (ws' := [(q86, .inr (15, [.ref q87, .ref q88, .ref q89, .ref q90, .ref q91, .ref q92, .int 0, .int 1, .ref q93, .int 0, .ref q94, .null, .ref q95, .null, .ref q96, .ref q97, .ref q98, .ref q99, .ref q100, .int 0, .ref q101, .ref q102, .ref q103, .ref q104, .ref q105, .int 0, .int 0]))]) [0] (by decide) rfl
    have hKc := hK.sub (tys' := []) [] rfl
    have hFc := va_free (wc := [(q86, .inr (15, [.ref q87, .ref q88, .ref q89, .ref q90, .ref q91, .ref q92, .int 0, .int 1, .ref q93, .int 0, .ref q94, .null, .ref q95, .null, .ref q96, .ref q97, .ref q98, .ref q99, .ref q100, .int 0, .ref q101, .ref q102, .ref q103, .ref q104, .ref q105, .int 0, .int 0]))]) hD hS hA [0] rfl
    refine va_calli (va_runV (As := [.int (xs 1)]) (rest := []) ⟨hx, hb, hml, hown, hts⟩ (c_X13_packed l dC dI q86 q87 q88 q89 q90 q91 q92 q93 q94 q95 q96 q97 q98 q99 q100 q101 q102 q103 q104 q105 H.size (xs 1) hc0) (cwV 1 hts gL_law_X13_packed rfl rfl rfl (by decide +kernel) ⟨Nat.le_of_ble_eq_true rfl, Nat.le_of_ble_eq_true rfl⟩) ⟨zB_blind, va_recv hK hP (ci := 15) (q0 := 0) rfl rfl, (zPre hPc hDc hKc hS hFc hZ hN)⟩ rfl rfl hl.1 rfl (lv_room (Nat.le_of_ble_eq_true rfl)) dL_law_1273 ⟨Nat.le_of_ble_eq_true rfl, Nat.le_of_ble_eq_true rfl⟩) hS (fun q _ h => hFc q h) hFc (fun r u t H1 locs ht hvm hw hB hz1 hk1 hS => ?_)
    subst hw
    obtain ⟨hP1, hK1, hD1⟩ := hB
    rw [ht] at hP1
    have hK1 := va_K.moved hvm.symm hK1
    obtain ⟨hP, hD⟩ := va_join (wr := []) (w1 := [(q86, .inr (15, [.ref q87, .ref q88, .ref q89, .ref q90, .ref q91, .ref q92, .int 0, .int 1, .ref q93, .int 0, .ref q94, .null, .ref q95, .null, .ref q96, .ref q97, .ref q98, .ref q99, .ref q100, .int 1, .ref q101, .ref q102, .ref q103, .ref q104, .ref q105, .int 0, .int 0]))]) hP hD [0] [] rfl rfl (by decide) (by decide) hk1 hFc hP1 hD1
    have hK := (hK.sub (tys' := []) [] rfl).app hK1
    generalize H1 = H at hP hS ⊢
    have hP : va_P (dC, dI) vwCl [(q86, .inr (15, [.ref q87, .ref q88, .ref q89, .ref q90, .ref q91, .ref q92, .int 0, .int 1, .ref q93, .int 0, .ref q94, .null, .ref q95, .null, .ref q96, .ref q97, .ref q98, .ref q99, .ref q100, .int 1, .ref q101, .ref q102, .ref q103, .ref q104, .ref q105, .int 0, .int 0]))] H := hP
    have hD : va_D (fun q : Nat => s.heap.size ≤ q) [(q86, .inr (15, [.ref q87, .ref q88, .ref q89, .ref q90, .ref q91, .ref q92, .int 0, .int 1, .ref q93, .int 0, .ref q94, .null, .ref q95, .null, .ref q96, .ref q97, .ref q98, .ref q99, .ref q100, .int 1, .ref q101, .ref q102, .ref q103, .ref q104, .ref q105, .int 0, .int 0]))] := hD
    have hK : va_K (dC, dI) vwCl [] s := hK
    refine W.widen (k := 132) (n := 6698) (Nat.le_of_ble_eq_true rfl) (Nat.le_of_ble_eq_true rfl) ?_
    refine lv_istore (lv' := [(6, .int 0), (5, .int 1), (4, .int 0), (3, .ref q106), (2, .ref q86), (1, .ref q0), (0, .ref b)]) hx hb dL_law_1276 hl (by decide) rfl (fun ls hl => ?_)
    refine lv_aload_n hx hb dL_law_1278 rfl (lv_at hl 4 rfl) ?_
    have hPc := hP.sub (ws' := [(q86, .inr (15, [.ref q87, .ref q88, .ref q89, .ref q90, .ref q91, .ref q92, .int 0, .int 1, .ref q93, .int 0, .ref q94, .null, .ref q95, .null, .ref q96, .ref q97, .ref q98, .ref q99, .ref q100, .int 1, .ref q101, .ref q102, .ref q103, .ref q104, .ref q105, .int 0, .int 0]))]) [0] rfl
    have hDc := hD.sub (ws' := [(q86, .inr (15, [.ref q87, .ref q88, .ref q89, .ref q90, .ref q91, .ref q92, .int 0, .int 1, .ref q93, .int 0, .ref q94, .null, .ref q95, .null, .ref q96, .ref q97, .ref q98, .ref q99, .ref q100, .int 1, .ref q101, .ref q102, .ref q103, .ref q104, .ref q105, .int 0, .int 0]))]) [0] (by decide) rfl
    have hKc := hK.sub (tys' := []) [] rfl
    have hFc := va_free (wc := [(q86, .inr (15, [.ref q87, .ref q88, .ref q89, .ref q90, .ref q91, .ref q92, .int 0, .int 1, .ref q93, .int 0, .ref q94, .null, .ref q95, .null, .ref q96, .ref q97, .ref q98, .ref q99, .ref q100, .int 1, .ref q101, .ref q102, .ref q103, .ref q104, .ref q105, .int 0, .int 0]))]) hD hS hA [0] rfl
    refine va_calli (va_runV (As := []) (rest := []) ⟨hx, hb, hml, hown, hts⟩ (c_X13_thrown l dC dI q86 q87 q88 q89 q90 q91 q92 q93 q94 q95 q96 q97 q98 q99 q100 q101 q102 q103 q104 q105 H.size  ) (cwV 0 hts gL_law_X13_thrown rfl rfl rfl (by decide +kernel) ⟨Nat.le_of_ble_eq_true rfl, Nat.le_of_ble_eq_true rfl⟩) ⟨zB_blind, va_recv hK hP (ci := 15) (q0 := 0) rfl rfl, (zPre hPc hDc hKc hS hFc hZ hN)⟩ rfl rfl hl.1 rfl (lv_room (Nat.le_of_ble_eq_true rfl)) dL_law_1279 ⟨Nat.le_of_ble_eq_true rfl, Nat.le_of_ble_eq_true rfl⟩) hS (fun q _ h => hFc q h) hFc (fun r u t H1 locs ht hvm hw hB hz1 hk1 hS => ?_)
    subst hw
    obtain ⟨hP1, hK1, hD1⟩ := hB
    rw [ht] at hP1
    have hK1 := va_K.moved hvm.symm hK1
    obtain ⟨hP, hD⟩ := va_join (wr := []) (w1 := []) hP hD [0] [] rfl rfl (by decide) (by decide) hk1 hFc hP1 hD1
    have hK := (hK.sub (tys' := []) [] rfl).app hK1
    generalize H1 = H at hP hS ⊢
    have hP : va_P (dC, dI) vwCl [] H := hP
    have hD : va_D (fun q : Nat => s.heap.size ≤ q) [] := hD
    have hK : va_K (dC, dI) vwCl [] s := hK
    refine W.widen (k := 132) (n := 6698) (Nat.le_of_ble_eq_true rfl) (Nat.le_of_ble_eq_true rfl) ?_
    refine lv_iload hx hb dL_law_1282 (lv_at hl 1 rfl) ?_
    refine lv_icmp_eq (tgt := 1289) hx hb dL_law_1284 (by decide) (fun _ => ?_) (fun h9 => absurd (show (1 : Int32) = (1 : Int32) by decide +kernel) h9)
    refine lv_iload hx hb dL_law_1289 (lv_at hl 1 rfl) ?_
    refine lv_if_ne (tgt := 1306) hx hb dL_law_1291 (by decide) (fun _ => ?_) (fun h9 => absurd h9 (show ¬ (1 : Int32) = (0 : Int32) by decide +kernel))
    refine lv_goto (tgt := 2311) hx hb dL_law_1306 (by decide) ?_
    exact law_exit C0 hS (Nat.le_of_ble_eq_true rfl) (Nat.le_of_ble_eq_true rfl) ls (lv_sub hl [2, 3, 4, 5, 6] rfl)
  · skip
    by_cases hb1 : (xs 1) < (1 : Int32)
    · skip
      have hc0 : ¬ (xs 1) < (0 : Int32) := hb0
      have hc1 : (xs 1) < (1 : Int32) := hb1
      have hc2 : ¬ (0 : Int32) < (xs 1) := zd_5 hb0 hb1
      refine lv_aload_n hx hb dL_law_1253 rfl (lv_at hl 3 rfl) ?_
      refine lv_aload_n hx hb dL_law_1254 rfl (lv_at hl 4 rfl) ?_
      refine lv_iload hx hb dL_law_1255 (lv_at hl 0 rfl) ?_
      refine lv_iconst (v := 1) hx hb dL_law_1257 (by decide +kernel) ?_
      refine lv_iadd hx hb dL_law_1258 ?_
      refine zt_i (v := 1) (by decide +kernel) ?_
      refine va_sld hx hb hX hbl hbA hS (i := 1) (zin (by decide +kernel)) dL_law_1259 ?_
      refine zt_v (w := .int (xs 1)) rfl ?_
      refine lv_aload_n hx hb dL_law_1260 rfl (lv_at hl 1 rfl) ?_
      have hPc := hP.sub (ws' := [(q0, .inr (13, [.ref q1, .ref q3, .ref q5, .ref q7, .ref q9, .ref q11, .ref q13, .ref q15, .int 0, .ref q17, .ref q21, .ref q25, .ref q26, .ref q27])), (q3, .inr (11, [.ref q4, .int 0, .int 1])), (q1, .inr (7, [.ref q2, .int 0]))]) [0, 3, 1] rfl
      have hDc := hD.sub (ws' := [(q0, .inr (13, [.ref q1, .ref q3, .ref q5, .ref q7, .ref q9, .ref q11, .ref q13, .ref q15, .int 0, .ref q17, .ref q21, .ref q25, .ref q26, .ref q27])), (q3, .inr (11, [.ref q4, .int 0, .int 1])), (q1, .inr (7, [.ref q2, .int 0]))]) [0, 3, 1] (by decide) rfl
      have hKc := hK.sub (tys' := []) [] rfl
      have hFc := va_free (wc := [(q0, .inr (13, [.ref q1, .ref q3, .ref q5, .ref q7, .ref q9, .ref q11, .ref q13, .ref q15, .int 0, .ref q17, .ref q21, .ref q25, .ref q26, .ref q27])), (q3, .inr (11, [.ref q4, .int 0, .int 1])), (q1, .inr (7, [.ref q2, .int 0]))]) hD hS hA [0, 3, 1] rfl
      refine va_calli (vx_runSW (As := [.ref q0, .int (xs 1), .ref q106]) (rest := []) ⟨hx, hb, hml, hown, hts⟩ (c_L_packed_2 l hfl dC dI q0 q106 q1 q3 q5 q7 q9 q11 q13 q15 q17 q21 q25 q26 q27 q4 q2 H.size (xs 1) hc0 hc1) (vx_cwSW 3 hts gL_law_L_packed rfl rfl rfl (by decide +kernel) ⟨Nat.le_of_ble_eq_true rfl, Nat.le_of_ble_eq_true rfl⟩) ⟨zB_blind, (zPre hPc hDc hKc hS hFc hZ hN)⟩ rfl rfl hl.1 rfl (lv_room (Nat.le_of_ble_eq_true rfl)) dL_law_1261 ⟨Nat.le_of_ble_eq_true rfl, Nat.le_of_ble_eq_true rfl⟩) hS (fun q _ h => hFc q h) hFc (fun r u t H1 locs ht hvm hw hB hz1 hk1 hS => ?_)
      subst hw
      obtain ⟨hP1, hK1, hD1⟩ := hB
      rw [ht] at hP1
      have hK1 := va_K.moved hvm.symm hK1
      obtain ⟨hP, hD⟩ := va_join (wr := [(q86, .inr (15, [.ref q87, .ref q88, .ref q89, .ref q90, .ref q91, .ref q92, .int 0, .int 1, .ref q93, .int 0, .ref q94, .null, .ref q95, .null, .ref q96, .ref q97, .ref q98, .ref q99, .ref q100, .int 0, .ref q101, .ref q102, .ref q103, .ref q104, .ref q105, .int 0, .int 0]))]) (w1 := []) hP hD [0, 3, 1] [13] rfl rfl (by decide) (by decide) hk1 hFc hP1 hD1
      have hK := (hK.sub (tys' := []) [] rfl).app hK1
      generalize H1 = H at hP hS ⊢
      have hP : va_P (dC, dI) vwCl [(q86, .inr (15, [.ref q87, .ref q88, .ref q89, .ref q90, .ref q91, .ref q92, .int 0, .int 1, .ref q93, .int 0, .ref q94, .null, .ref q95, .null, .ref q96, .ref q97, .ref q98, .ref q99, .ref q100, .int 0, .ref q101, .ref q102, .ref q103, .ref q104, .ref q105, .int 0, .int 0]))] H := hP
      have hD : va_D (fun q : Nat => s.heap.size ≤ q) [(q86, .inr (15, [.ref q87, .ref q88, .ref q89, .ref q90, .ref q91, .ref q92, .int 0, .int 1, .ref q93, .int 0, .ref q94, .null, .ref q95, .null, .ref q96, .ref q97, .ref q98, .ref q99, .ref q100, .int 0, .ref q101, .ref q102, .ref q103, .ref q104, .ref q105, .int 0, .int 0]))] := hD
      have hK : va_K (dC, dI) vwCl [] s := hK
      refine W.widen (k := 132) (n := 6698) (Nat.le_of_ble_eq_true rfl) (Nat.le_of_ble_eq_true rfl) ?_
      refine lv_istore (lv' := [(5, .int 2), (4, .int 0), (3, .ref q106), (2, .ref q86), (1, .ref q0), (0, .ref b)]) hx hb dL_law_1264 hl (by decide) rfl (fun ls hl => ?_)
      refine lv_aload_n hx hb dL_law_1266 rfl (lv_at hl 3 rfl) ?_
      refine lv_aload_n hx hb dL_law_1267 rfl (lv_at hl 5 rfl) ?_
      refine lv_iload hx hb dL_law_1268 (lv_at hl 1 rfl) ?_
      refine lv_iconst (v := 1) hx hb dL_law_1270 (by decide +kernel) ?_
      refine lv_iadd hx hb dL_law_1271 ?_
      refine zt_i (v := 1) (by decide +kernel) ?_
      refine va_sld hx hb hX hbl hbA hS (i := 1) (zin (by decide +kernel)) dL_law_1272 ?_
      refine zt_v (w := .int (xs 1)) rfl ?_
      have hPc := hP.sub (ws' := [(q86, .inr (15, [.ref q87, .ref q88, .ref q89, .ref q90, .ref q91, .ref q92, .int 0, .int 1, .ref q93, .int 0, .ref q94, .null, .ref q95, .null, .ref q96, .ref q97, .ref q98, .ref q99, .ref q100, .int 0, .ref q101, .ref q102, .ref q103, .ref q104, .ref q105, .int 0, .int 0]))]) [0] rfl
      have hDc := hD.sub (ws' := [(q86, .inr (15, [.ref q87, .ref q88, .ref q89, .ref q90, .ref q91, .ref q92, .int 0, .int 1, .ref q93, .int 0, .ref q94, .null, .ref q95, .null, .ref q96, .ref q97, .ref q98, .ref q99, .ref q100, .int 0, .ref q101, .ref q102, .ref q103, .ref q104, .ref q105, .int 0, .int 0]))]) [0] (by decide) rfl
      have hKc := hK.sub (tys' := []) [] rfl
      have hFc := va_free (wc := [(q86, .inr (15, [.ref q87, .ref q88, .ref q89, .ref q90, .ref q91, .ref q92, .int 0, .int 1, .ref q93, .int 0, .ref q94, .null, .ref q95, .null, .ref q96, .ref q97, .ref q98, .ref q99, .ref q100, .int 0, .ref q101, .ref q102, .ref q103, .ref q104, .ref q105, .int 0, .int 0]))]) hD hS hA [0] rfl
      refine va_calli (va_runV (As := [.int (xs 1)]) (rest := []) ⟨hx, hb, hml, hown, hts⟩ (c_X13_packed_2 l dC dI q86 q87 q88 q89 q90 q91 q92 q93 q94 q95 q96 q97 q98 q99 q100 q101 q102 q103 q104 q105 H.size (xs 1) hc0 hc2) (cwV 1 hts gL_law_X13_packed rfl rfl rfl (by decide +kernel) ⟨Nat.le_of_ble_eq_true rfl, Nat.le_of_ble_eq_true rfl⟩) ⟨zB_blind, va_recv hK hP (ci := 15) (q0 := 0) rfl rfl, (zPre hPc hDc hKc hS hFc hZ hN)⟩ rfl rfl hl.1 rfl (lv_room (Nat.le_of_ble_eq_true rfl)) dL_law_1273 ⟨Nat.le_of_ble_eq_true rfl, Nat.le_of_ble_eq_true rfl⟩) hS (fun q _ h => hFc q h) hFc (fun r u t H1 locs ht hvm hw hB hz1 hk1 hS => ?_)
      subst hw
      obtain ⟨hP1, hK1, hD1⟩ := hB
      rw [ht] at hP1
      have hK1 := va_K.moved hvm.symm hK1
      obtain ⟨hP, hD⟩ := va_join (wr := []) (w1 := [(q86, .inr (15, [.ref q87, .ref q88, .ref q89, .ref q90, .ref q91, .ref q92, .int 0, .int 1, .ref q93, .int 0, .ref q94, .null, .ref q95, .null, .ref q96, .ref q97, .ref q98, .ref q99, .ref q100, .int 2, .ref q101, .ref q102, .ref q103, .ref q104, .ref q105, .int 0, .int 0]))]) hP hD [0] [] rfl rfl (by decide) (by decide) hk1 hFc hP1 hD1
      have hK := (hK.sub (tys' := []) [] rfl).app hK1
      generalize H1 = H at hP hS ⊢
      have hP : va_P (dC, dI) vwCl [(q86, .inr (15, [.ref q87, .ref q88, .ref q89, .ref q90, .ref q91, .ref q92, .int 0, .int 1, .ref q93, .int 0, .ref q94, .null, .ref q95, .null, .ref q96, .ref q97, .ref q98, .ref q99, .ref q100, .int 2, .ref q101, .ref q102, .ref q103, .ref q104, .ref q105, .int 0, .int 0]))] H := hP
      have hD : va_D (fun q : Nat => s.heap.size ≤ q) [(q86, .inr (15, [.ref q87, .ref q88, .ref q89, .ref q90, .ref q91, .ref q92, .int 0, .int 1, .ref q93, .int 0, .ref q94, .null, .ref q95, .null, .ref q96, .ref q97, .ref q98, .ref q99, .ref q100, .int 2, .ref q101, .ref q102, .ref q103, .ref q104, .ref q105, .int 0, .int 0]))] := hD
      have hK : va_K (dC, dI) vwCl [] s := hK
      refine W.widen (k := 132) (n := 6698) (Nat.le_of_ble_eq_true rfl) (Nat.le_of_ble_eq_true rfl) ?_
      refine lv_istore (lv' := [(6, .int 0), (5, .int 2), (4, .int 0), (3, .ref q106), (2, .ref q86), (1, .ref q0), (0, .ref b)]) hx hb dL_law_1276 hl (by decide) rfl (fun ls hl => ?_)
      refine lv_aload_n hx hb dL_law_1278 rfl (lv_at hl 4 rfl) ?_
      have hPc := hP.sub (ws' := [(q86, .inr (15, [.ref q87, .ref q88, .ref q89, .ref q90, .ref q91, .ref q92, .int 0, .int 1, .ref q93, .int 0, .ref q94, .null, .ref q95, .null, .ref q96, .ref q97, .ref q98, .ref q99, .ref q100, .int 2, .ref q101, .ref q102, .ref q103, .ref q104, .ref q105, .int 0, .int 0]))]) [0] rfl
      have hDc := hD.sub (ws' := [(q86, .inr (15, [.ref q87, .ref q88, .ref q89, .ref q90, .ref q91, .ref q92, .int 0, .int 1, .ref q93, .int 0, .ref q94, .null, .ref q95, .null, .ref q96, .ref q97, .ref q98, .ref q99, .ref q100, .int 2, .ref q101, .ref q102, .ref q103, .ref q104, .ref q105, .int 0, .int 0]))]) [0] (by decide) rfl
      have hKc := hK.sub (tys' := []) [] rfl
      have hFc := va_free (wc := [(q86, .inr (15, [.ref q87, .ref q88, .ref q89, .ref q90, .ref q91, .ref q92, .int 0, .int 1, .ref q93, .int 0, .ref q94, .null, .ref q95, .null, .ref q96, .ref q97, .ref q98, .ref q99, .ref q100, .int 2, .ref q101, .ref q102, .ref q103, .ref q104, .ref q105, .int 0, .int 0]))]) hD hS hA [0] rfl
      refine va_calli (va_runV (As := []) (rest := []) ⟨hx, hb, hml, hown, hts⟩ (c_X13_thrown_5 l dC dI q86 q87 q88 q89 q90 q91 q92 q93 q94 q95 q96 q97 q98 q99 q100 q101 q102 q103 q104 q105 H.size  ) (cwV 0 hts gL_law_X13_thrown rfl rfl rfl (by decide +kernel) ⟨Nat.le_of_ble_eq_true rfl, Nat.le_of_ble_eq_true rfl⟩) ⟨zB_blind, va_recv hK hP (ci := 15) (q0 := 0) rfl rfl, (zPre hPc hDc hKc hS hFc hZ hN)⟩ rfl rfl hl.1 rfl (lv_room (Nat.le_of_ble_eq_true rfl)) dL_law_1279 ⟨Nat.le_of_ble_eq_true rfl, Nat.le_of_ble_eq_true rfl⟩) hS (fun q _ h => hFc q h) hFc (fun r u t H1 locs ht hvm hw hB hz1 hk1 hS => ?_)
      subst hw
      obtain ⟨hP1, hK1, hD1⟩ := hB
      rw [ht] at hP1
      have hK1 := va_K.moved hvm.symm hK1
      obtain ⟨hP, hD⟩ := va_join (wr := []) (w1 := []) hP hD [0] [] rfl rfl (by decide) (by decide) hk1 hFc hP1 hD1
      have hK := (hK.sub (tys' := []) [] rfl).app hK1
      generalize H1 = H at hP hS ⊢
      have hP : va_P (dC, dI) vwCl [] H := hP
      have hD : va_D (fun q : Nat => s.heap.size ≤ q) [] := hD
      have hK : va_K (dC, dI) vwCl [] s := hK
      refine W.widen (k := 132) (n := 6698) (Nat.le_of_ble_eq_true rfl) (Nat.le_of_ble_eq_true rfl) ?_
      refine lv_iload hx hb dL_law_1282 (lv_at hl 1 rfl) ?_
      refine lv_icmp_eq (tgt := 1289) hx hb dL_law_1284 (by decide) (fun _ => ?_) (fun h9 => absurd (show (2 : Int32) = (2 : Int32) by decide +kernel) h9)
      refine lv_iload hx hb dL_law_1289 (lv_at hl 1 rfl) ?_
      refine lv_if_ne (tgt := 1306) hx hb dL_law_1291 (by decide) (fun _ => ?_) (fun h9 => absurd h9 (show ¬ (2 : Int32) = (0 : Int32) by decide +kernel))
      refine lv_goto (tgt := 2311) hx hb dL_law_1306 (by decide) ?_
      exact law_exit C0 hS (Nat.le_of_ble_eq_true rfl) (Nat.le_of_ble_eq_true rfl) ls (lv_sub hl [2, 3, 4, 5, 6] rfl)
    · skip
      have hc0 : ¬ (xs 1) < (0 : Int32) := hb0
      have hc1 : ¬ (xs 1) < (1 : Int32) := hb1
      have hc2 : (0 : Int32) < (xs 1) := zd_6 hb0 hb1
      refine lv_aload_n hx hb dL_law_1253 rfl (lv_at hl 3 rfl) ?_
      refine lv_aload_n hx hb dL_law_1254 rfl (lv_at hl 4 rfl) ?_
      refine lv_iload hx hb dL_law_1255 (lv_at hl 0 rfl) ?_
      refine lv_iconst (v := 1) hx hb dL_law_1257 (by decide +kernel) ?_
      refine lv_iadd hx hb dL_law_1258 ?_
      refine zt_i (v := 1) (by decide +kernel) ?_
      refine va_sld hx hb hX hbl hbA hS (i := 1) (zin (by decide +kernel)) dL_law_1259 ?_
      refine zt_v (w := .int (xs 1)) rfl ?_
      refine lv_aload_n hx hb dL_law_1260 rfl (lv_at hl 1 rfl) ?_
      have hPc := hP.sub (ws' := [(q0, .inr (13, [.ref q1, .ref q3, .ref q5, .ref q7, .ref q9, .ref q11, .ref q13, .ref q15, .int 0, .ref q17, .ref q21, .ref q25, .ref q26, .ref q27])), (q3, .inr (11, [.ref q4, .int 0, .int 1]))]) [0, 3] rfl
      have hDc := hD.sub (ws' := [(q0, .inr (13, [.ref q1, .ref q3, .ref q5, .ref q7, .ref q9, .ref q11, .ref q13, .ref q15, .int 0, .ref q17, .ref q21, .ref q25, .ref q26, .ref q27])), (q3, .inr (11, [.ref q4, .int 0, .int 1]))]) [0, 3] (by decide) rfl
      have hKc := hK.sub (tys' := []) [] rfl
      have hFc := va_free (wc := [(q0, .inr (13, [.ref q1, .ref q3, .ref q5, .ref q7, .ref q9, .ref q11, .ref q13, .ref q15, .int 0, .ref q17, .ref q21, .ref q25, .ref q26, .ref q27])), (q3, .inr (11, [.ref q4, .int 0, .int 1]))]) hD hS hA [0, 3] rfl
      refine va_calli (vx_runSW (As := [.ref q0, .int (xs 1), .ref q106]) (rest := []) ⟨hx, hb, hml, hown, hts⟩ (c_L_packed_3 l hfl dC dI q0 q106 q1 q3 q5 q7 q9 q11 q13 q15 q17 q21 q25 q26 q27 q4 H.size (xs 1) hc0 hc1) (vx_cwSW 3 hts gL_law_L_packed rfl rfl rfl (by decide +kernel) ⟨Nat.le_of_ble_eq_true rfl, Nat.le_of_ble_eq_true rfl⟩) ⟨zB_blind, (zPre hPc hDc hKc hS hFc hZ hN)⟩ rfl rfl hl.1 rfl (lv_room (Nat.le_of_ble_eq_true rfl)) dL_law_1261 ⟨Nat.le_of_ble_eq_true rfl, Nat.le_of_ble_eq_true rfl⟩) hS (fun q _ h => hFc q h) hFc (fun r u t H1 locs ht hvm hw hB hz1 hk1 hS => ?_)
      subst hw
      obtain ⟨hP1, hK1, hD1⟩ := hB
      rw [ht] at hP1
      have hK1 := va_K.moved hvm.symm hK1
      obtain ⟨hP, hD⟩ := va_join (wr := [(q86, .inr (15, [.ref q87, .ref q88, .ref q89, .ref q90, .ref q91, .ref q92, .int 0, .int 1, .ref q93, .int 0, .ref q94, .null, .ref q95, .null, .ref q96, .ref q97, .ref q98, .ref q99, .ref q100, .int 0, .ref q101, .ref q102, .ref q103, .ref q104, .ref q105, .int 0, .int 0]))]) (w1 := []) hP hD [0, 3] [13] rfl rfl (by decide) (by decide) hk1 hFc hP1 hD1
      have hK := (hK.sub (tys' := []) [] rfl).app hK1
      generalize H1 = H at hP hS ⊢
      have hP : va_P (dC, dI) vwCl [(q86, .inr (15, [.ref q87, .ref q88, .ref q89, .ref q90, .ref q91, .ref q92, .int 0, .int 1, .ref q93, .int 0, .ref q94, .null, .ref q95, .null, .ref q96, .ref q97, .ref q98, .ref q99, .ref q100, .int 0, .ref q101, .ref q102, .ref q103, .ref q104, .ref q105, .int 0, .int 0]))] H := hP
      have hD : va_D (fun q : Nat => s.heap.size ≤ q) [(q86, .inr (15, [.ref q87, .ref q88, .ref q89, .ref q90, .ref q91, .ref q92, .int 0, .int 1, .ref q93, .int 0, .ref q94, .null, .ref q95, .null, .ref q96, .ref q97, .ref q98, .ref q99, .ref q100, .int 0, .ref q101, .ref q102, .ref q103, .ref q104, .ref q105, .int 0, .int 0]))] := hD
      have hK : va_K (dC, dI) vwCl [] s := hK
      refine W.widen (k := 132) (n := 6698) (Nat.le_of_ble_eq_true rfl) (Nat.le_of_ble_eq_true rfl) ?_
      refine lv_istore (lv' := [(5, .int 1), (4, .int 0), (3, .ref q106), (2, .ref q86), (1, .ref q0), (0, .ref b)]) hx hb dL_law_1264 hl (by decide) rfl (fun ls hl => ?_)
      refine lv_aload_n hx hb dL_law_1266 rfl (lv_at hl 3 rfl) ?_
      refine lv_aload_n hx hb dL_law_1267 rfl (lv_at hl 5 rfl) ?_
      refine lv_iload hx hb dL_law_1268 (lv_at hl 1 rfl) ?_
      refine lv_iconst (v := 1) hx hb dL_law_1270 (by decide +kernel) ?_
      refine lv_iadd hx hb dL_law_1271 ?_
      refine zt_i (v := 1) (by decide +kernel) ?_
      refine va_sld hx hb hX hbl hbA hS (i := 1) (zin (by decide +kernel)) dL_law_1272 ?_
      refine zt_v (w := .int (xs 1)) rfl ?_
      have hPc := hP.sub (ws' := [(q86, .inr (15, [.ref q87, .ref q88, .ref q89, .ref q90, .ref q91, .ref q92, .int 0, .int 1, .ref q93, .int 0, .ref q94, .null, .ref q95, .null, .ref q96, .ref q97, .ref q98, .ref q99, .ref q100, .int 0, .ref q101, .ref q102, .ref q103, .ref q104, .ref q105, .int 0, .int 0]))]) [0] rfl
      have hDc := hD.sub (ws' := [(q86, .inr (15, [.ref q87, .ref q88, .ref q89, .ref q90, .ref q91, .ref q92, .int 0, .int 1, .ref q93, .int 0, .ref q94, .null, .ref q95, .null, .ref q96, .ref q97, .ref q98, .ref q99, .ref q100, .int 0, .ref q101, .ref q102, .ref q103, .ref q104, .ref q105, .int 0, .int 0]))]) [0] (by decide) rfl
      have hKc := hK.sub (tys' := []) [] rfl
      have hFc := va_free (wc := [(q86, .inr (15, [.ref q87, .ref q88, .ref q89, .ref q90, .ref q91, .ref q92, .int 0, .int 1, .ref q93, .int 0, .ref q94, .null, .ref q95, .null, .ref q96, .ref q97, .ref q98, .ref q99, .ref q100, .int 0, .ref q101, .ref q102, .ref q103, .ref q104, .ref q105, .int 0, .int 0]))]) hD hS hA [0] rfl
      refine va_calli (va_runV (As := [.int (xs 1)]) (rest := []) ⟨hx, hb, hml, hown, hts⟩ (c_X13_packed_3 l dC dI q86 q87 q88 q89 q90 q91 q92 q93 q94 q95 q96 q97 q98 q99 q100 q101 q102 q103 q104 q105 H.size (xs 1) hc0 hc2) (cwV 1 hts gL_law_X13_packed rfl rfl rfl (by decide +kernel) ⟨Nat.le_of_ble_eq_true rfl, Nat.le_of_ble_eq_true rfl⟩) ⟨zB_blind, va_recv hK hP (ci := 15) (q0 := 0) rfl rfl, (zPre hPc hDc hKc hS hFc hZ hN)⟩ rfl rfl hl.1 rfl (lv_room (Nat.le_of_ble_eq_true rfl)) dL_law_1273 ⟨Nat.le_of_ble_eq_true rfl, Nat.le_of_ble_eq_true rfl⟩) hS (fun q _ h => hFc q h) hFc (fun r u t H1 locs ht hvm hw hB hz1 hk1 hS => ?_)
      subst hw
      obtain ⟨hP1, hK1, hD1⟩ := hB
      rw [ht] at hP1
      have hK1 := va_K.moved hvm.symm hK1
      obtain ⟨hP, hD⟩ := va_join (wr := []) (w1 := [(q86, .inr (15, [.ref q87, .ref q88, .ref q89, .ref q90, .ref q91, .ref q92, .int 0, .int 1, .ref q93, .int 0, .ref q94, .null, .ref q95, .null, .ref q96, .ref q97, .ref q98, .ref q99, .ref q100, .int 1, .ref q101, .ref q102, .ref q103, .ref q104, .ref q105, .int 0, .int 0]))]) hP hD [0] [] rfl rfl (by decide) (by decide) hk1 hFc hP1 hD1
      have hK := (hK.sub (tys' := []) [] rfl).app hK1
      generalize H1 = H at hP hS ⊢
      have hP : va_P (dC, dI) vwCl [(q86, .inr (15, [.ref q87, .ref q88, .ref q89, .ref q90, .ref q91, .ref q92, .int 0, .int 1, .ref q93, .int 0, .ref q94, .null, .ref q95, .null, .ref q96, .ref q97, .ref q98, .ref q99, .ref q100, .int 1, .ref q101, .ref q102, .ref q103, .ref q104, .ref q105, .int 0, .int 0]))] H := hP
      have hD : va_D (fun q : Nat => s.heap.size ≤ q) [(q86, .inr (15, [.ref q87, .ref q88, .ref q89, .ref q90, .ref q91, .ref q92, .int 0, .int 1, .ref q93, .int 0, .ref q94, .null, .ref q95, .null, .ref q96, .ref q97, .ref q98, .ref q99, .ref q100, .int 1, .ref q101, .ref q102, .ref q103, .ref q104, .ref q105, .int 0, .int 0]))] := hD
      have hK : va_K (dC, dI) vwCl [] s := hK
      refine W.widen (k := 132) (n := 6698) (Nat.le_of_ble_eq_true rfl) (Nat.le_of_ble_eq_true rfl) ?_
      refine lv_istore (lv' := [(6, .int 0), (5, .int 1), (4, .int 0), (3, .ref q106), (2, .ref q86), (1, .ref q0), (0, .ref b)]) hx hb dL_law_1276 hl (by decide) rfl (fun ls hl => ?_)
      refine lv_aload_n hx hb dL_law_1278 rfl (lv_at hl 4 rfl) ?_
      have hPc := hP.sub (ws' := [(q86, .inr (15, [.ref q87, .ref q88, .ref q89, .ref q90, .ref q91, .ref q92, .int 0, .int 1, .ref q93, .int 0, .ref q94, .null, .ref q95, .null, .ref q96, .ref q97, .ref q98, .ref q99, .ref q100, .int 1, .ref q101, .ref q102, .ref q103, .ref q104, .ref q105, .int 0, .int 0]))]) [0] rfl
      have hDc := hD.sub (ws' := [(q86, .inr (15, [.ref q87, .ref q88, .ref q89, .ref q90, .ref q91, .ref q92, .int 0, .int 1, .ref q93, .int 0, .ref q94, .null, .ref q95, .null, .ref q96, .ref q97, .ref q98, .ref q99, .ref q100, .int 1, .ref q101, .ref q102, .ref q103, .ref q104, .ref q105, .int 0, .int 0]))]) [0] (by decide) rfl
      have hKc := hK.sub (tys' := []) [] rfl
      have hFc := va_free (wc := [(q86, .inr (15, [.ref q87, .ref q88, .ref q89, .ref q90, .ref q91, .ref q92, .int 0, .int 1, .ref q93, .int 0, .ref q94, .null, .ref q95, .null, .ref q96, .ref q97, .ref q98, .ref q99, .ref q100, .int 1, .ref q101, .ref q102, .ref q103, .ref q104, .ref q105, .int 0, .int 0]))]) hD hS hA [0] rfl
      refine va_calli (va_runV (As := []) (rest := []) ⟨hx, hb, hml, hown, hts⟩ (c_X13_thrown l dC dI q86 q87 q88 q89 q90 q91 q92 q93 q94 q95 q96 q97 q98 q99 q100 q101 q102 q103 q104 q105 H.size  ) (cwV 0 hts gL_law_X13_thrown rfl rfl rfl (by decide +kernel) ⟨Nat.le_of_ble_eq_true rfl, Nat.le_of_ble_eq_true rfl⟩) ⟨zB_blind, va_recv hK hP (ci := 15) (q0 := 0) rfl rfl, (zPre hPc hDc hKc hS hFc hZ hN)⟩ rfl rfl hl.1 rfl (lv_room (Nat.le_of_ble_eq_true rfl)) dL_law_1279 ⟨Nat.le_of_ble_eq_true rfl, Nat.le_of_ble_eq_true rfl⟩) hS (fun q _ h => hFc q h) hFc (fun r u t H1 locs ht hvm hw hB hz1 hk1 hS => ?_)
      subst hw
      obtain ⟨hP1, hK1, hD1⟩ := hB
      rw [ht] at hP1
      have hK1 := va_K.moved hvm.symm hK1
      obtain ⟨hP, hD⟩ := va_join (wr := []) (w1 := []) hP hD [0] [] rfl rfl (by decide) (by decide) hk1 hFc hP1 hD1
      have hK := (hK.sub (tys' := []) [] rfl).app hK1
      generalize H1 = H at hP hS ⊢
      have hP : va_P (dC, dI) vwCl [] H := hP
      have hD : va_D (fun q : Nat => s.heap.size ≤ q) [] := hD
      have hK : va_K (dC, dI) vwCl [] s := hK
      refine W.widen (k := 132) (n := 6698) (Nat.le_of_ble_eq_true rfl) (Nat.le_of_ble_eq_true rfl) ?_
      refine lv_iload hx hb dL_law_1282 (lv_at hl 1 rfl) ?_
      refine lv_icmp_eq (tgt := 1289) hx hb dL_law_1284 (by decide) (fun _ => ?_) (fun h9 => absurd (show (1 : Int32) = (1 : Int32) by decide +kernel) h9)
      refine lv_iload hx hb dL_law_1289 (lv_at hl 1 rfl) ?_
      refine lv_if_ne (tgt := 1306) hx hb dL_law_1291 (by decide) (fun _ => ?_) (fun h9 => absurd h9 (show ¬ (1 : Int32) = (0 : Int32) by decide +kernel))
      refine lv_goto (tgt := 2311) hx hb dL_law_1306 (by decide) ?_
      exact law_exit C0 hS (Nat.le_of_ble_eq_true rfl) (Nat.le_of_ble_eq_true rfl) ls (lv_sub hl [2, 3, 4, 5, 6] rfl)
set_option maxHeartbeats 8000000 in
set_option maxRecDepth 100000 in
theorem law_case_23 {p : Program} {l : Launch} {e : Env} {s : State} {m : MethodId} {below : List Frame} {meth : Method} {c : Code} {b : Nat} {xs : Nat → Int32} (hfl : l.stackTraces = false) (C0 : lw_At p s m meth c b 4 xs) {dC : Nat → ClassId} {dI : Nat → Nat → Nat} {q0 q1 q3 q5 q7 q9 q11 q13 q15 q17 q21 q25 q26 q27 q2 q4 q6 q8 q10 q16 q18 q22 q23 q86 q87 q88 q89 q90 q91 q92 q93 q94 q95 q96 q97 q98 q99 q100 q101 q102 q103 q104 q105 q106 : Nat} {k2 k4 k87 k88 k89 k90 k91 k92 k93 k94 k96 k106 : ClassId} {H : Heap} {locs : List Loc} (hK : va_K (dC, dI) vwCl [(k2, .char), (k4, (.object "Seekwell$Text")), (k87, .boolean), (k88, .int), (k89, .int), (k90, .char), (k91, (.array .long)), (k92, (.array .long)), (k93, .int), (k94, .int), (k96, .boolean), (k106, .long)] s) (hP : va_P (dC, dI) vwCl [(q0, .inr (13, [.ref q1, .ref q3, .ref q5, .ref q7, .ref q9, .ref q11, .ref q13, .ref q15, .int 0, .ref q17, .ref q21, .ref q25, .ref q26, .ref q27])), (q1, .inr (7, [.ref q2, .int 0])), (q2, .inl (k2, 512, .inl (fun _ => 0))), (q3, .inr (11, [.ref q4, .int 0, .int 1])), (q4, .inl (k4, 24, .inr (.inr (.inr (.inr (fun _ => none)))))), (q5, .inr (11, [.ref q6, .int 0, .int 1])), (q7, .inr (10, [.ref q8, .int 0])), (q9, .inr (5, [.ref q10, .int 0, .int 0])), (q15, .inr (5, [.ref q16, .int 0, .int 0])), (q17, .inr (9, [.ref q18, .ref q18, .null])), (q21, .inr (9, [.ref q22, .ref q22, .null])), (q22, .inr (8, [.int 0, .int 0, .int 1, .int 0, .int 0, .int 0, .ref q23, .null, .null, .null, .null, .int 0, .int 0, .int 0, .int 0, .null, .null])), (q26, .inr (3, [.null, .null, .int 0, .int 0, .null])), (q86, .inr (15, [.ref q87, .ref q88, .ref q89, .ref q90, .ref q91, .ref q92, .int 0, .int 1, .ref q93, .int 0, .ref q94, .null, .ref q95, .null, .ref q96, .ref q97, .ref q98, .ref q99, .ref q100, .int 0, .ref q101, .ref q102, .ref q103, .ref q104, .ref q105, .int 0, .int 0])), (q87, .inl (k87, 24, .inl (fun _ => 0))), (q88, .inl (k88, 24, .inl (fun _ => 0))), (q89, .inl (k89, 24, .inl (fun _ => 0))), (q90, .inl (k90, 24, .inl (fun _ => 0))), (q91, .inl (k91, 24, .inr (.inr (.inr (.inr (fun _ => none)))))), (q92, .inl (k92, 24, .inr (.inr (.inr (.inr (fun _ => none)))))), (q93, .inl (k93, 4000, .inl (fun _ => 0))), (q94, .inl (k94, 0, .inl (fun _ => 0))), (q96, .inl (k96, 24, .inl (fun _ => 0))), (q106, .inl (k106, 1, .inr (.inl (fun _ => 0))))] H) (hD : va_D (fun q : Nat => s.heap.size ≤ q) [(q0, .inr (13, [.ref q1, .ref q3, .ref q5, .ref q7, .ref q9, .ref q11, .ref q13, .ref q15, .int 0, .ref q17, .ref q21, .ref q25, .ref q26, .ref q27])), (q1, .inr (7, [.ref q2, .int 0])), (q2, .inl (k2, 512, .inl (fun _ => 0))), (q3, .inr (11, [.ref q4, .int 0, .int 1])), (q4, .inl (k4, 24, .inr (.inr (.inr (.inr (fun _ => none)))))), (q5, .inr (11, [.ref q6, .int 0, .int 1])), (q7, .inr (10, [.ref q8, .int 0])), (q9, .inr (5, [.ref q10, .int 0, .int 0])), (q15, .inr (5, [.ref q16, .int 0, .int 0])), (q17, .inr (9, [.ref q18, .ref q18, .null])), (q21, .inr (9, [.ref q22, .ref q22, .null])), (q22, .inr (8, [.int 0, .int 0, .int 1, .int 0, .int 0, .int 0, .ref q23, .null, .null, .null, .null, .int 0, .int 0, .int 0, .int 0, .null, .null])), (q26, .inr (3, [.null, .null, .int 0, .int 0, .null])), (q86, .inr (15, [.ref q87, .ref q88, .ref q89, .ref q90, .ref q91, .ref q92, .int 0, .int 1, .ref q93, .int 0, .ref q94, .null, .ref q95, .null, .ref q96, .ref q97, .ref q98, .ref q99, .ref q100, .int 0, .ref q101, .ref q102, .ref q103, .ref q104, .ref q105, .int 0, .int 0])), (q87, .inl (k87, 24, .inl (fun _ => 0))), (q88, .inl (k88, 24, .inl (fun _ => 0))), (q89, .inl (k89, 24, .inl (fun _ => 0))), (q90, .inl (k90, 24, .inl (fun _ => 0))), (q91, .inl (k91, 24, .inr (.inr (.inr (.inr (fun _ => none)))))), (q92, .inl (k92, 24, .inr (.inr (.inr (.inr (fun _ => none)))))), (q93, .inl (k93, 4000, .inl (fun _ => 0))), (q94, .inl (k94, 0, .inl (fun _ => 0))), (q96, .inl (k96, 24, .inl (fun _ => 0))), (q106, .inl (k106, 1, .inr (.inl (fun _ => 0))))]) (hS : va_S (fun q : Nat => s.heap.size ≤ q) s.heap H locs) (hZ : zZ (fun q : Nat => s.heap.size ≤ q) s s.heap) (hN : zN s) (ls : Array Slot) (hl : lv_has ls 7 [(4, .int 0), (3, .ref q106), (2, .ref q86), (1, .ref q0), (0, .ref b)]) : W p l e room_1 s m #[Value.ref b] below meth c H locs 131 6692 (lw_Z below #[Value.ref b] s) (F0 m 1309 ls []) := by
  obtain ⟨hx, hb, hr, hml, hown, hts, hX, hbl, hlocks, hgv⟩ := id C0
  have hbA : ¬ (fun q : Nat => s.heap.size ≤ q) b := Nat.not_le.mpr hbl
  have hA : ∀ q : Nat, s.heap.size ≤ q → (fun q : Nat => s.heap.size ≤ q) q := fun _ h => h
  by_cases hb0 : (xs 1) < (0 : Int32)
  · skip
    have hc0 : (xs 1) < (0 : Int32) := hb0
    refine lv_aload_n hx hb dL_law_1309 rfl (lv_at hl 3 rfl) ?_
    refine lv_aload_n hx hb dL_law_1310 rfl (lv_at hl 4 rfl) ?_
    refine lv_iload hx hb dL_law_1311 (lv_at hl 0 rfl) ?_
    refine lv_iconst (v := 1) hx hb dL_law_1313 (by decide +kernel) ?_
    refine lv_iadd hx hb dL_law_1314 ?_
    refine zt_i (v := 1) (by decide +kernel) ?_
    refine va_sld hx hb hX hbl hbA hS (i := 1) (zin (by decide +kernel)) dL_law_1315 ?_
    refine zt_v (w := .int (xs 1)) rfl ?_
    refine lv_aload_n hx hb dL_law_1316 rfl (lv_at hl 1 rfl) ?_
    have hPc := hP.sub (ws' := [(q0, .inr (13, [.ref q1, .ref q3, .ref q5, .ref q7, .ref q9, .ref q11, .ref q13, .ref q15, .int 0, .ref q17, .ref q21, .ref q25, .ref q26, .ref q27]))]) [0] rfl
    have hDc := hD.sub (ws' := [(q0, .inr (13, [.ref q1, .ref q3, .ref q5, .ref q7, .ref q9, .ref q11, .ref q13, .ref q15, .int 0, .ref q17, .ref q21, .ref q25, .ref q26, .ref q27]))]) [0] (by decide) rfl
    have hKc := hK.sub (tys' := []) [] rfl
    have hFc := va_free (wc := [(q0, .inr (13, [.ref q1, .ref q3, .ref q5, .ref q7, .ref q9, .ref q11, .ref q13, .ref q15, .int 0, .ref q17, .ref q21, .ref q25, .ref q26, .ref q27]))]) hD hS hA [0] rfl
    refine va_calli (vx_runSW (As := [.ref q0, .int (xs 1), .ref q106]) (rest := []) ⟨hx, hb, hml, hown, hts⟩ (c_L_byteAt l hfl dC dI q0 q106 q1 q3 q5 q7 q9 q11 q13 q15 q17 q21 q25 q26 q27 H.size (xs 1) hc0) (vx_cwSW 3 hts gL_law_L_byteAt rfl rfl rfl (by decide +kernel) ⟨Nat.le_of_ble_eq_true rfl, Nat.le_of_ble_eq_true rfl⟩) ⟨zB_blind, (zPre hPc hDc hKc hS hFc hZ hN)⟩ rfl rfl hl.1 rfl (lv_room (Nat.le_of_ble_eq_true rfl)) dL_law_1317 ⟨Nat.le_of_ble_eq_true rfl, Nat.le_of_ble_eq_true rfl⟩) hS (fun q _ h => hFc q h) hFc (fun r u t H1 locs ht hvm hw hB hz1 hk1 hS => ?_)
    subst hw
    obtain ⟨hP1, hK1, hD1⟩ := hB
    rw [ht] at hP1
    have hK1 := va_K.moved hvm.symm hK1
    obtain ⟨hP, hD⟩ := va_join (wr := [(q86, .inr (15, [.ref q87, .ref q88, .ref q89, .ref q90, .ref q91, .ref q92, .int 0, .int 1, .ref q93, .int 0, .ref q94, .null, .ref q95, .null, .ref q96, .ref q97, .ref q98, .ref q99, .ref q100, .int 0, .ref q101, .ref q102, .ref q103, .ref q104, .ref q105, .int 0, .int 0])), (q94, .inl (k94, 0, .inl (fun _ => 0)))]) (w1 := []) hP hD [0] [13, 21] rfl rfl (by decide) (by decide) hk1 hFc hP1 hD1
    have hK := (hK.sub (tys' := [(k94, .int)]) [9] rfl).app hK1
    generalize H1 = H at hP hS ⊢
    have hP : va_P (dC, dI) vwCl [(q86, .inr (15, [.ref q87, .ref q88, .ref q89, .ref q90, .ref q91, .ref q92, .int 0, .int 1, .ref q93, .int 0, .ref q94, .null, .ref q95, .null, .ref q96, .ref q97, .ref q98, .ref q99, .ref q100, .int 0, .ref q101, .ref q102, .ref q103, .ref q104, .ref q105, .int 0, .int 0])), (q94, .inl (k94, 0, .inl (fun _ => 0)))] H := hP
    have hD : va_D (fun q : Nat => s.heap.size ≤ q) [(q86, .inr (15, [.ref q87, .ref q88, .ref q89, .ref q90, .ref q91, .ref q92, .int 0, .int 1, .ref q93, .int 0, .ref q94, .null, .ref q95, .null, .ref q96, .ref q97, .ref q98, .ref q99, .ref q100, .int 0, .ref q101, .ref q102, .ref q103, .ref q104, .ref q105, .int 0, .int 0])), (q94, .inl (k94, 0, .inl (fun _ => 0)))] := hD
    have hK : va_K (dC, dI) vwCl [(k94, .int)] s := hK
    refine W.widen (k := 132) (n := 6698) (Nat.le_of_ble_eq_true rfl) (Nat.le_of_ble_eq_true rfl) ?_
    refine lv_istore (lv' := [(5, .int 1), (4, .int 0), (3, .ref q106), (2, .ref q86), (1, .ref q0), (0, .ref b)]) hx hb dL_law_1320 hl (by decide) rfl (fun ls hl => ?_)
    refine lv_aload_n hx hb dL_law_1322 rfl (lv_at hl 3 rfl) ?_
    refine lv_aload_n hx hb dL_law_1323 rfl (lv_at hl 5 rfl) ?_
    refine lv_iload hx hb dL_law_1324 (lv_at hl 1 rfl) ?_
    refine lv_iconst (v := 1) hx hb dL_law_1326 (by decide +kernel) ?_
    refine lv_iadd hx hb dL_law_1327 ?_
    refine zt_i (v := 1) (by decide +kernel) ?_
    refine va_sld hx hb hX hbl hbA hS (i := 1) (zin (by decide +kernel)) dL_law_1328 ?_
    refine zt_v (w := .int (xs 1)) rfl ?_
    have hPc := hP.sub (ws' := [(q86, .inr (15, [.ref q87, .ref q88, .ref q89, .ref q90, .ref q91, .ref q92, .int 0, .int 1, .ref q93, .int 0, .ref q94, .null, .ref q95, .null, .ref q96, .ref q97, .ref q98, .ref q99, .ref q100, .int 0, .ref q101, .ref q102, .ref q103, .ref q104, .ref q105, .int 0, .int 0])), (q94, .inl (k94, 0, .inl (fun _ => 0)))]) [0, 1] rfl
    have hDc := hD.sub (ws' := [(q86, .inr (15, [.ref q87, .ref q88, .ref q89, .ref q90, .ref q91, .ref q92, .int 0, .int 1, .ref q93, .int 0, .ref q94, .null, .ref q95, .null, .ref q96, .ref q97, .ref q98, .ref q99, .ref q100, .int 0, .ref q101, .ref q102, .ref q103, .ref q104, .ref q105, .int 0, .int 0])), (q94, .inl (k94, 0, .inl (fun _ => 0)))]) [0, 1] (by decide) rfl
    have hKc := hK.sub (tys' := [(k94, .int)]) [0] rfl
    have hFc := va_free (wc := [(q86, .inr (15, [.ref q87, .ref q88, .ref q89, .ref q90, .ref q91, .ref q92, .int 0, .int 1, .ref q93, .int 0, .ref q94, .null, .ref q95, .null, .ref q96, .ref q97, .ref q98, .ref q99, .ref q100, .int 0, .ref q101, .ref q102, .ref q103, .ref q104, .ref q105, .int 0, .int 0])), (q94, .inl (k94, 0, .inl (fun _ => 0)))]) hD hS hA [0, 1] rfl
    refine va_calli (va_runV (As := [.int (xs 1)]) (rest := []) ⟨hx, hb, hml, hown, hts⟩ (c_X13_byteAt l dC dI q86 q87 q88 q89 q90 q91 q92 q93 q94 q95 q96 q97 q98 q99 q100 q101 q102 q103 q104 q105 k94 H.size (xs 1) hc0) (cwV 1 hts gL_law_X13_byteAt rfl rfl rfl (by decide +kernel) ⟨Nat.le_of_ble_eq_true rfl, Nat.le_of_ble_eq_true rfl⟩) ⟨zB_blind, va_recv hK hP (ci := 15) (q0 := 0) rfl rfl, (zPre hPc hDc hKc hS hFc hZ hN)⟩ rfl rfl hl.1 rfl (lv_room (Nat.le_of_ble_eq_true rfl)) dL_law_1329 ⟨Nat.le_of_ble_eq_true rfl, Nat.le_of_ble_eq_true rfl⟩) hS (fun q _ h => hFc q h) hFc (fun r u t H1 locs ht hvm hw hB hz1 hk1 hS => ?_)
    subst hw
    obtain ⟨hP1, hK1, hD1⟩ := hB
    rw [ht] at hP1
    have hK1 := va_K.moved hvm.symm hK1
    obtain ⟨hP, hD⟩ := va_join (wr := []) (w1 := [(q86, .inr (15, [.ref q87, .ref q88, .ref q89, .ref q90, .ref q91, .ref q92, .int 0, .int 1, .ref q93, .int 0, .ref q94, .null, .ref q95, .null, .ref q96, .ref q97, .ref q98, .ref q99, .ref q100, .int 1, .ref q101, .ref q102, .ref q103, .ref q104, .ref q105, .int 0, .int 0]))]) hP hD [0, 1] [] rfl rfl (by decide) (by decide) hk1 hFc hP1 hD1
    have hK := (hK.sub (tys' := []) [] rfl).app hK1
    generalize H1 = H at hP hS ⊢
    have hP : va_P (dC, dI) vwCl [(q86, .inr (15, [.ref q87, .ref q88, .ref q89, .ref q90, .ref q91, .ref q92, .int 0, .int 1, .ref q93, .int 0, .ref q94, .null, .ref q95, .null, .ref q96, .ref q97, .ref q98, .ref q99, .ref q100, .int 1, .ref q101, .ref q102, .ref q103, .ref q104, .ref q105, .int 0, .int 0]))] H := hP
    have hD : va_D (fun q : Nat => s.heap.size ≤ q) [(q86, .inr (15, [.ref q87, .ref q88, .ref q89, .ref q90, .ref q91, .ref q92, .int 0, .int 1, .ref q93, .int 0, .ref q94, .null, .ref q95, .null, .ref q96, .ref q97, .ref q98, .ref q99, .ref q100, .int 1, .ref q101, .ref q102, .ref q103, .ref q104, .ref q105, .int 0, .int 0]))] := hD
    have hK : va_K (dC, dI) vwCl [] s := hK
    refine W.widen (k := 132) (n := 6698) (Nat.le_of_ble_eq_true rfl) (Nat.le_of_ble_eq_true rfl) ?_
    refine lv_istore (lv' := [(6, .int 0), (5, .int 1), (4, .int 0), (3, .ref q106), (2, .ref q86), (1, .ref q0), (0, .ref b)]) hx hb dL_law_1332 hl (by decide) rfl (fun ls hl => ?_)
    refine lv_aload_n hx hb dL_law_1334 rfl (lv_at hl 4 rfl) ?_
    have hPc := hP.sub (ws' := [(q86, .inr (15, [.ref q87, .ref q88, .ref q89, .ref q90, .ref q91, .ref q92, .int 0, .int 1, .ref q93, .int 0, .ref q94, .null, .ref q95, .null, .ref q96, .ref q97, .ref q98, .ref q99, .ref q100, .int 1, .ref q101, .ref q102, .ref q103, .ref q104, .ref q105, .int 0, .int 0]))]) [0] rfl
    have hDc := hD.sub (ws' := [(q86, .inr (15, [.ref q87, .ref q88, .ref q89, .ref q90, .ref q91, .ref q92, .int 0, .int 1, .ref q93, .int 0, .ref q94, .null, .ref q95, .null, .ref q96, .ref q97, .ref q98, .ref q99, .ref q100, .int 1, .ref q101, .ref q102, .ref q103, .ref q104, .ref q105, .int 0, .int 0]))]) [0] (by decide) rfl
    have hKc := hK.sub (tys' := []) [] rfl
    have hFc := va_free (wc := [(q86, .inr (15, [.ref q87, .ref q88, .ref q89, .ref q90, .ref q91, .ref q92, .int 0, .int 1, .ref q93, .int 0, .ref q94, .null, .ref q95, .null, .ref q96, .ref q97, .ref q98, .ref q99, .ref q100, .int 1, .ref q101, .ref q102, .ref q103, .ref q104, .ref q105, .int 0, .int 0]))]) hD hS hA [0] rfl
    refine va_calli (va_runV (As := []) (rest := []) ⟨hx, hb, hml, hown, hts⟩ (c_X13_thrown l dC dI q86 q87 q88 q89 q90 q91 q92 q93 q94 q95 q96 q97 q98 q99 q100 q101 q102 q103 q104 q105 H.size  ) (cwV 0 hts gL_law_X13_thrown rfl rfl rfl (by decide +kernel) ⟨Nat.le_of_ble_eq_true rfl, Nat.le_of_ble_eq_true rfl⟩) ⟨zB_blind, va_recv hK hP (ci := 15) (q0 := 0) rfl rfl, (zPre hPc hDc hKc hS hFc hZ hN)⟩ rfl rfl hl.1 rfl (lv_room (Nat.le_of_ble_eq_true rfl)) dL_law_1335 ⟨Nat.le_of_ble_eq_true rfl, Nat.le_of_ble_eq_true rfl⟩) hS (fun q _ h => hFc q h) hFc (fun r u t H1 locs ht hvm hw hB hz1 hk1 hS => ?_)
    subst hw
    obtain ⟨hP1, hK1, hD1⟩ := hB
    rw [ht] at hP1
    have hK1 := va_K.moved hvm.symm hK1
    obtain ⟨hP, hD⟩ := va_join (wr := []) (w1 := []) hP hD [0] [] rfl rfl (by decide) (by decide) hk1 hFc hP1 hD1
    have hK := (hK.sub (tys' := []) [] rfl).app hK1
    generalize H1 = H at hP hS ⊢
    have hP : va_P (dC, dI) vwCl [] H := hP
    have hD : va_D (fun q : Nat => s.heap.size ≤ q) [] := hD
    have hK : va_K (dC, dI) vwCl [] s := hK
    refine W.widen (k := 132) (n := 6698) (Nat.le_of_ble_eq_true rfl) (Nat.le_of_ble_eq_true rfl) ?_
    refine lv_iload hx hb dL_law_1338 (lv_at hl 1 rfl) ?_
    refine lv_icmp_eq (tgt := 1345) hx hb dL_law_1340 (by decide) (fun _ => ?_) (fun h9 => absurd (show (1 : Int32) = (1 : Int32) by decide +kernel) h9)
    refine lv_iload hx hb dL_law_1345 (lv_at hl 1 rfl) ?_
    refine lv_if_ne (tgt := 1362) hx hb dL_law_1347 (by decide) (fun _ => ?_) (fun h9 => absurd h9 (show ¬ (1 : Int32) = (0 : Int32) by decide +kernel))
    refine lv_goto (tgt := 2311) hx hb dL_law_1362 (by decide) ?_
    exact law_exit C0 hS (Nat.le_of_ble_eq_true rfl) (Nat.le_of_ble_eq_true rfl) ls (lv_sub hl [2, 3, 4, 5, 6] rfl)
  · skip
    have hc0 : ¬ (xs 1) < (0 : Int32) := hb0
    have hc1 : ((-1) : Int32) < (xs 1) := zd_3 hb0
    refine lv_aload_n hx hb dL_law_1309 rfl (lv_at hl 3 rfl) ?_
    refine lv_aload_n hx hb dL_law_1310 rfl (lv_at hl 4 rfl) ?_
    refine lv_iload hx hb dL_law_1311 (lv_at hl 0 rfl) ?_
    refine lv_iconst (v := 1) hx hb dL_law_1313 (by decide +kernel) ?_
    refine lv_iadd hx hb dL_law_1314 ?_
    refine zt_i (v := 1) (by decide +kernel) ?_
    refine va_sld hx hb hX hbl hbA hS (i := 1) (zin (by decide +kernel)) dL_law_1315 ?_
    refine zt_v (w := .int (xs 1)) rfl ?_
    refine lv_aload_n hx hb dL_law_1316 rfl (lv_at hl 1 rfl) ?_
    have hPc := hP.sub (ws' := [(q0, .inr (13, [.ref q1, .ref q3, .ref q5, .ref q7, .ref q9, .ref q11, .ref q13, .ref q15, .int 0, .ref q17, .ref q21, .ref q25, .ref q26, .ref q27])), (q9, .inr (5, [.ref q10, .int 0, .int 0]))]) [0, 7] rfl
    have hDc := hD.sub (ws' := [(q0, .inr (13, [.ref q1, .ref q3, .ref q5, .ref q7, .ref q9, .ref q11, .ref q13, .ref q15, .int 0, .ref q17, .ref q21, .ref q25, .ref q26, .ref q27])), (q9, .inr (5, [.ref q10, .int 0, .int 0]))]) [0, 7] (by decide) rfl
    have hKc := hK.sub (tys' := []) [] rfl
    have hFc := va_free (wc := [(q0, .inr (13, [.ref q1, .ref q3, .ref q5, .ref q7, .ref q9, .ref q11, .ref q13, .ref q15, .int 0, .ref q17, .ref q21, .ref q25, .ref q26, .ref q27])), (q9, .inr (5, [.ref q10, .int 0, .int 0]))]) hD hS hA [0, 7] rfl
    refine va_calli (vx_runSW (As := [.ref q0, .int (xs 1), .ref q106]) (rest := []) ⟨hx, hb, hml, hown, hts⟩ (c_L_byteAt_2 l hfl dC dI q0 q106 q1 q3 q5 q7 q9 q11 q13 q15 q17 q21 q25 q26 q27 q10 H.size (xs 1) hc0) (vx_cwSW 3 hts gL_law_L_byteAt rfl rfl rfl (by decide +kernel) ⟨Nat.le_of_ble_eq_true rfl, Nat.le_of_ble_eq_true rfl⟩) ⟨zB_blind, (zPre hPc hDc hKc hS hFc hZ hN)⟩ rfl rfl hl.1 rfl (lv_room (Nat.le_of_ble_eq_true rfl)) dL_law_1317 ⟨Nat.le_of_ble_eq_true rfl, Nat.le_of_ble_eq_true rfl⟩) hS (fun q _ h => hFc q h) hFc (fun r u t H1 locs ht hvm hw hB hz1 hk1 hS => ?_)
    subst hw
    obtain ⟨hP1, hK1, hD1⟩ := hB
    rw [ht] at hP1
    have hK1 := va_K.moved hvm.symm hK1
    obtain ⟨hP, hD⟩ := va_join (wr := [(q86, .inr (15, [.ref q87, .ref q88, .ref q89, .ref q90, .ref q91, .ref q92, .int 0, .int 1, .ref q93, .int 0, .ref q94, .null, .ref q95, .null, .ref q96, .ref q97, .ref q98, .ref q99, .ref q100, .int 0, .ref q101, .ref q102, .ref q103, .ref q104, .ref q105, .int 0, .int 0])), (q94, .inl (k94, 0, .inl (fun _ => 0)))]) (w1 := []) hP hD [0, 7] [13, 21] rfl rfl (by decide) (by decide) hk1 hFc hP1 hD1
    have hK := (hK.sub (tys' := [(k94, .int)]) [9] rfl).app hK1
    generalize H1 = H at hP hS ⊢
    have hP : va_P (dC, dI) vwCl [(q86, .inr (15, [.ref q87, .ref q88, .ref q89, .ref q90, .ref q91, .ref q92, .int 0, .int 1, .ref q93, .int 0, .ref q94, .null, .ref q95, .null, .ref q96, .ref q97, .ref q98, .ref q99, .ref q100, .int 0, .ref q101, .ref q102, .ref q103, .ref q104, .ref q105, .int 0, .int 0])), (q94, .inl (k94, 0, .inl (fun _ => 0)))] H := hP
    have hD : va_D (fun q : Nat => s.heap.size ≤ q) [(q86, .inr (15, [.ref q87, .ref q88, .ref q89, .ref q90, .ref q91, .ref q92, .int 0, .int 1, .ref q93, .int 0, .ref q94, .null, .ref q95, .null, .ref q96, .ref q97, .ref q98, .ref q99, .ref q100, .int 0, .ref q101, .ref q102, .ref q103, .ref q104, .ref q105, .int 0, .int 0])), (q94, .inl (k94, 0, .inl (fun _ => 0)))] := hD
    have hK : va_K (dC, dI) vwCl [(k94, .int)] s := hK
    refine W.widen (k := 132) (n := 6698) (Nat.le_of_ble_eq_true rfl) (Nat.le_of_ble_eq_true rfl) ?_
    refine lv_istore (lv' := [(5, .int 1), (4, .int 0), (3, .ref q106), (2, .ref q86), (1, .ref q0), (0, .ref b)]) hx hb dL_law_1320 hl (by decide) rfl (fun ls hl => ?_)
    refine lv_aload_n hx hb dL_law_1322 rfl (lv_at hl 3 rfl) ?_
    refine lv_aload_n hx hb dL_law_1323 rfl (lv_at hl 5 rfl) ?_
    refine lv_iload hx hb dL_law_1324 (lv_at hl 1 rfl) ?_
    refine lv_iconst (v := 1) hx hb dL_law_1326 (by decide +kernel) ?_
    refine lv_iadd hx hb dL_law_1327 ?_
    refine zt_i (v := 1) (by decide +kernel) ?_
    refine va_sld hx hb hX hbl hbA hS (i := 1) (zin (by decide +kernel)) dL_law_1328 ?_
    refine zt_v (w := .int (xs 1)) rfl ?_
    have hPc := hP.sub (ws' := [(q86, .inr (15, [.ref q87, .ref q88, .ref q89, .ref q90, .ref q91, .ref q92, .int 0, .int 1, .ref q93, .int 0, .ref q94, .null, .ref q95, .null, .ref q96, .ref q97, .ref q98, .ref q99, .ref q100, .int 0, .ref q101, .ref q102, .ref q103, .ref q104, .ref q105, .int 0, .int 0])), (q94, .inl (k94, 0, .inl (fun _ => 0)))]) [0, 1] rfl
    have hDc := hD.sub (ws' := [(q86, .inr (15, [.ref q87, .ref q88, .ref q89, .ref q90, .ref q91, .ref q92, .int 0, .int 1, .ref q93, .int 0, .ref q94, .null, .ref q95, .null, .ref q96, .ref q97, .ref q98, .ref q99, .ref q100, .int 0, .ref q101, .ref q102, .ref q103, .ref q104, .ref q105, .int 0, .int 0])), (q94, .inl (k94, 0, .inl (fun _ => 0)))]) [0, 1] (by decide) rfl
    have hKc := hK.sub (tys' := [(k94, .int)]) [0] rfl
    have hFc := va_free (wc := [(q86, .inr (15, [.ref q87, .ref q88, .ref q89, .ref q90, .ref q91, .ref q92, .int 0, .int 1, .ref q93, .int 0, .ref q94, .null, .ref q95, .null, .ref q96, .ref q97, .ref q98, .ref q99, .ref q100, .int 0, .ref q101, .ref q102, .ref q103, .ref q104, .ref q105, .int 0, .int 0])), (q94, .inl (k94, 0, .inl (fun _ => 0)))]) hD hS hA [0, 1] rfl
    refine va_calli (va_runV (As := [.int (xs 1)]) (rest := []) ⟨hx, hb, hml, hown, hts⟩ (c_X13_byteAt_2 l dC dI q86 q87 q88 q89 q90 q91 q92 q93 q94 q95 q96 q97 q98 q99 q100 q101 q102 q103 q104 q105 k94 H.size (xs 1) hc0 hc1) (cwV 1 hts gL_law_X13_byteAt rfl rfl rfl (by decide +kernel) ⟨Nat.le_of_ble_eq_true rfl, Nat.le_of_ble_eq_true rfl⟩) ⟨zB_blind, va_recv hK hP (ci := 15) (q0 := 0) rfl rfl, (zPre hPc hDc hKc hS hFc hZ hN)⟩ rfl rfl hl.1 rfl (lv_room (Nat.le_of_ble_eq_true rfl)) dL_law_1329 ⟨Nat.le_of_ble_eq_true rfl, Nat.le_of_ble_eq_true rfl⟩) hS (fun q _ h => hFc q h) hFc (fun r u t H1 locs ht hvm hw hB hz1 hk1 hS => ?_)
    subst hw
    obtain ⟨hP1, hK1, hD1⟩ := hB
    rw [ht] at hP1
    have hK1 := va_K.moved hvm.symm hK1
    obtain ⟨hP, hD⟩ := va_join (wr := []) (w1 := [(q86, .inr (15, [.ref q87, .ref q88, .ref q89, .ref q90, .ref q91, .ref q92, .int 0, .int 1, .ref q93, .int 0, .ref q94, .null, .ref q95, .null, .ref q96, .ref q97, .ref q98, .ref q99, .ref q100, .int 1, .ref q101, .ref q102, .ref q103, .ref q104, .ref q105, .int 0, .int 0]))]) hP hD [0, 1] [] rfl rfl (by decide) (by decide) hk1 hFc hP1 hD1
    have hK := (hK.sub (tys' := []) [] rfl).app hK1
    generalize H1 = H at hP hS ⊢
    have hP : va_P (dC, dI) vwCl [(q86, .inr (15, [.ref q87, .ref q88, .ref q89, .ref q90, .ref q91, .ref q92, .int 0, .int 1, .ref q93, .int 0, .ref q94, .null, .ref q95, .null, .ref q96, .ref q97, .ref q98, .ref q99, .ref q100, .int 1, .ref q101, .ref q102, .ref q103, .ref q104, .ref q105, .int 0, .int 0]))] H := hP
    have hD : va_D (fun q : Nat => s.heap.size ≤ q) [(q86, .inr (15, [.ref q87, .ref q88, .ref q89, .ref q90, .ref q91, .ref q92, .int 0, .int 1, .ref q93, .int 0, .ref q94, .null, .ref q95, .null, .ref q96, .ref q97, .ref q98, .ref q99, .ref q100, .int 1, .ref q101, .ref q102, .ref q103, .ref q104, .ref q105, .int 0, .int 0]))] := hD
    have hK : va_K (dC, dI) vwCl [] s := hK
    refine W.widen (k := 132) (n := 6698) (Nat.le_of_ble_eq_true rfl) (Nat.le_of_ble_eq_true rfl) ?_
    refine lv_istore (lv' := [(6, .int 0), (5, .int 1), (4, .int 0), (3, .ref q106), (2, .ref q86), (1, .ref q0), (0, .ref b)]) hx hb dL_law_1332 hl (by decide) rfl (fun ls hl => ?_)
    refine lv_aload_n hx hb dL_law_1334 rfl (lv_at hl 4 rfl) ?_
    have hPc := hP.sub (ws' := [(q86, .inr (15, [.ref q87, .ref q88, .ref q89, .ref q90, .ref q91, .ref q92, .int 0, .int 1, .ref q93, .int 0, .ref q94, .null, .ref q95, .null, .ref q96, .ref q97, .ref q98, .ref q99, .ref q100, .int 1, .ref q101, .ref q102, .ref q103, .ref q104, .ref q105, .int 0, .int 0]))]) [0] rfl
    have hDc := hD.sub (ws' := [(q86, .inr (15, [.ref q87, .ref q88, .ref q89, .ref q90, .ref q91, .ref q92, .int 0, .int 1, .ref q93, .int 0, .ref q94, .null, .ref q95, .null, .ref q96, .ref q97, .ref q98, .ref q99, .ref q100, .int 1, .ref q101, .ref q102, .ref q103, .ref q104, .ref q105, .int 0, .int 0]))]) [0] (by decide) rfl
    have hKc := hK.sub (tys' := []) [] rfl
    have hFc := va_free (wc := [(q86, .inr (15, [.ref q87, .ref q88, .ref q89, .ref q90, .ref q91, .ref q92, .int 0, .int 1, .ref q93, .int 0, .ref q94, .null, .ref q95, .null, .ref q96, .ref q97, .ref q98, .ref q99, .ref q100, .int 1, .ref q101, .ref q102, .ref q103, .ref q104, .ref q105, .int 0, .int 0]))]) hD hS hA [0] rfl
    refine va_calli (va_runV (As := []) (rest := []) ⟨hx, hb, hml, hown, hts⟩ (c_X13_thrown l dC dI q86 q87 q88 q89 q90 q91 q92 q93 q94 q95 q96 q97 q98 q99 q100 q101 q102 q103 q104 q105 H.size  ) (cwV 0 hts gL_law_X13_thrown rfl rfl rfl (by decide +kernel) ⟨Nat.le_of_ble_eq_true rfl, Nat.le_of_ble_eq_true rfl⟩) ⟨zB_blind, va_recv hK hP (ci := 15) (q0 := 0) rfl rfl, (zPre hPc hDc hKc hS hFc hZ hN)⟩ rfl rfl hl.1 rfl (lv_room (Nat.le_of_ble_eq_true rfl)) dL_law_1335 ⟨Nat.le_of_ble_eq_true rfl, Nat.le_of_ble_eq_true rfl⟩) hS (fun q _ h => hFc q h) hFc (fun r u t H1 locs ht hvm hw hB hz1 hk1 hS => ?_)
    subst hw
    obtain ⟨hP1, hK1, hD1⟩ := hB
    rw [ht] at hP1
    have hK1 := va_K.moved hvm.symm hK1
    obtain ⟨hP, hD⟩ := va_join (wr := []) (w1 := []) hP hD [0] [] rfl rfl (by decide) (by decide) hk1 hFc hP1 hD1
    have hK := (hK.sub (tys' := []) [] rfl).app hK1
    generalize H1 = H at hP hS ⊢
    have hP : va_P (dC, dI) vwCl [] H := hP
    have hD : va_D (fun q : Nat => s.heap.size ≤ q) [] := hD
    have hK : va_K (dC, dI) vwCl [] s := hK
    refine W.widen (k := 132) (n := 6698) (Nat.le_of_ble_eq_true rfl) (Nat.le_of_ble_eq_true rfl) ?_
    refine lv_iload hx hb dL_law_1338 (lv_at hl 1 rfl) ?_
    refine lv_icmp_eq (tgt := 1345) hx hb dL_law_1340 (by decide) (fun _ => ?_) (fun h9 => absurd (show (1 : Int32) = (1 : Int32) by decide +kernel) h9)
    refine lv_iload hx hb dL_law_1345 (lv_at hl 1 rfl) ?_
    refine lv_if_ne (tgt := 1362) hx hb dL_law_1347 (by decide) (fun _ => ?_) (fun h9 => absurd h9 (show ¬ (1 : Int32) = (0 : Int32) by decide +kernel))
    refine lv_goto (tgt := 2311) hx hb dL_law_1362 (by decide) ?_
    exact law_exit C0 hS (Nat.le_of_ble_eq_true rfl) (Nat.le_of_ble_eq_true rfl) ls (lv_sub hl [2, 3, 4, 5, 6] rfl)
set_option maxHeartbeats 8000000 in
set_option maxRecDepth 100000 in
theorem law_case_24 {p : Program} {l : Launch} {e : Env} {s : State} {m : MethodId} {below : List Frame} {meth : Method} {c : Code} {b : Nat} {xs : Nat → Int32} (hfl : l.stackTraces = false) (C0 : lw_At p s m meth c b 4 xs) {dC : Nat → ClassId} {dI : Nat → Nat → Nat} {q0 q1 q3 q5 q7 q9 q11 q13 q15 q17 q21 q25 q26 q27 q2 q4 q6 q8 q10 q16 q18 q22 q23 q86 q87 q88 q89 q90 q91 q92 q93 q94 q95 q96 q97 q98 q99 q100 q101 q102 q103 q104 q105 q106 : Nat} {k2 k4 k87 k88 k89 k90 k91 k92 k93 k94 k96 k106 : ClassId} {H : Heap} {locs : List Loc} (hK : va_K (dC, dI) vwCl [(k2, .char), (k4, (.object "Seekwell$Text")), (k87, .boolean), (k88, .int), (k89, .int), (k90, .char), (k91, (.array .long)), (k92, (.array .long)), (k93, .int), (k94, .int), (k96, .boolean), (k106, .long)] s) (hP : va_P (dC, dI) vwCl [(q0, .inr (13, [.ref q1, .ref q3, .ref q5, .ref q7, .ref q9, .ref q11, .ref q13, .ref q15, .int 0, .ref q17, .ref q21, .ref q25, .ref q26, .ref q27])), (q1, .inr (7, [.ref q2, .int 0])), (q2, .inl (k2, 512, .inl (fun _ => 0))), (q3, .inr (11, [.ref q4, .int 0, .int 1])), (q4, .inl (k4, 24, .inr (.inr (.inr (.inr (fun _ => none)))))), (q5, .inr (11, [.ref q6, .int 0, .int 1])), (q7, .inr (10, [.ref q8, .int 0])), (q9, .inr (5, [.ref q10, .int 0, .int 0])), (q15, .inr (5, [.ref q16, .int 0, .int 0])), (q17, .inr (9, [.ref q18, .ref q18, .null])), (q21, .inr (9, [.ref q22, .ref q22, .null])), (q22, .inr (8, [.int 0, .int 0, .int 1, .int 0, .int 0, .int 0, .ref q23, .null, .null, .null, .null, .int 0, .int 0, .int 0, .int 0, .null, .null])), (q26, .inr (3, [.null, .null, .int 0, .int 0, .null])), (q86, .inr (15, [.ref q87, .ref q88, .ref q89, .ref q90, .ref q91, .ref q92, .int 0, .int 1, .ref q93, .int 0, .ref q94, .null, .ref q95, .null, .ref q96, .ref q97, .ref q98, .ref q99, .ref q100, .int 0, .ref q101, .ref q102, .ref q103, .ref q104, .ref q105, .int 0, .int 0])), (q87, .inl (k87, 24, .inl (fun _ => 0))), (q88, .inl (k88, 24, .inl (fun _ => 0))), (q89, .inl (k89, 24, .inl (fun _ => 0))), (q90, .inl (k90, 24, .inl (fun _ => 0))), (q91, .inl (k91, 24, .inr (.inr (.inr (.inr (fun _ => none)))))), (q92, .inl (k92, 24, .inr (.inr (.inr (.inr (fun _ => none)))))), (q93, .inl (k93, 4000, .inl (fun _ => 0))), (q94, .inl (k94, 0, .inl (fun _ => 0))), (q96, .inl (k96, 24, .inl (fun _ => 0))), (q106, .inl (k106, 1, .inr (.inl (fun _ => 0))))] H) (hD : va_D (fun q : Nat => s.heap.size ≤ q) [(q0, .inr (13, [.ref q1, .ref q3, .ref q5, .ref q7, .ref q9, .ref q11, .ref q13, .ref q15, .int 0, .ref q17, .ref q21, .ref q25, .ref q26, .ref q27])), (q1, .inr (7, [.ref q2, .int 0])), (q2, .inl (k2, 512, .inl (fun _ => 0))), (q3, .inr (11, [.ref q4, .int 0, .int 1])), (q4, .inl (k4, 24, .inr (.inr (.inr (.inr (fun _ => none)))))), (q5, .inr (11, [.ref q6, .int 0, .int 1])), (q7, .inr (10, [.ref q8, .int 0])), (q9, .inr (5, [.ref q10, .int 0, .int 0])), (q15, .inr (5, [.ref q16, .int 0, .int 0])), (q17, .inr (9, [.ref q18, .ref q18, .null])), (q21, .inr (9, [.ref q22, .ref q22, .null])), (q22, .inr (8, [.int 0, .int 0, .int 1, .int 0, .int 0, .int 0, .ref q23, .null, .null, .null, .null, .int 0, .int 0, .int 0, .int 0, .null, .null])), (q26, .inr (3, [.null, .null, .int 0, .int 0, .null])), (q86, .inr (15, [.ref q87, .ref q88, .ref q89, .ref q90, .ref q91, .ref q92, .int 0, .int 1, .ref q93, .int 0, .ref q94, .null, .ref q95, .null, .ref q96, .ref q97, .ref q98, .ref q99, .ref q100, .int 0, .ref q101, .ref q102, .ref q103, .ref q104, .ref q105, .int 0, .int 0])), (q87, .inl (k87, 24, .inl (fun _ => 0))), (q88, .inl (k88, 24, .inl (fun _ => 0))), (q89, .inl (k89, 24, .inl (fun _ => 0))), (q90, .inl (k90, 24, .inl (fun _ => 0))), (q91, .inl (k91, 24, .inr (.inr (.inr (.inr (fun _ => none)))))), (q92, .inl (k92, 24, .inr (.inr (.inr (.inr (fun _ => none)))))), (q93, .inl (k93, 4000, .inl (fun _ => 0))), (q94, .inl (k94, 0, .inl (fun _ => 0))), (q96, .inl (k96, 24, .inl (fun _ => 0))), (q106, .inl (k106, 1, .inr (.inl (fun _ => 0))))]) (hS : va_S (fun q : Nat => s.heap.size ≤ q) s.heap H locs) (hZ : zZ (fun q : Nat => s.heap.size ≤ q) s s.heap) (hN : zN s) (ls : Array Slot) (hl : lv_has ls 7 [(4, .int 0), (3, .ref q106), (2, .ref q86), (1, .ref q0), (0, .ref b)]) : W p l e room_1 s m #[Value.ref b] below meth c H locs 131 6692 (lw_Z below #[Value.ref b] s) (F0 m 1365 ls []) := by
  obtain ⟨hx, hb, hr, hml, hown, hts, hX, hbl, hlocks, hgv⟩ := id C0
  have hbA : ¬ (fun q : Nat => s.heap.size ≤ q) b := Nat.not_le.mpr hbl
  have hA : ∀ q : Nat, s.heap.size ≤ q → (fun q : Nat => s.heap.size ≤ q) q := fun _ h => h
  refine lv_aload_n hx hb dL_law_1365 rfl (lv_at hl 3 rfl) ?_
  have hPc := hP.sub (ws' := [(q0, .inr (13, [.ref q1, .ref q3, .ref q5, .ref q7, .ref q9, .ref q11, .ref q13, .ref q15, .int 0, .ref q17, .ref q21, .ref q25, .ref q26, .ref q27])), (q26, .inr (3, [.null, .null, .int 0, .int 0, .null])), (q21, .inr (9, [.ref q22, .ref q22, .null])), (q22, .inr (8, [.int 0, .int 0, .int 1, .int 0, .int 0, .int 0, .ref q23, .null, .null, .null, .null, .int 0, .int 0, .int 0, .int 0, .null, .null])), (q1, .inr (7, [.ref q2, .int 0]))]) [0, 12, 10, 11, 1] rfl
  have hDc := hD.sub (ws' := [(q0, .inr (13, [.ref q1, .ref q3, .ref q5, .ref q7, .ref q9, .ref q11, .ref q13, .ref q15, .int 0, .ref q17, .ref q21, .ref q25, .ref q26, .ref q27])), (q26, .inr (3, [.null, .null, .int 0, .int 0, .null])), (q21, .inr (9, [.ref q22, .ref q22, .null])), (q22, .inr (8, [.int 0, .int 0, .int 1, .int 0, .int 0, .int 0, .ref q23, .null, .null, .null, .null, .int 0, .int 0, .int 0, .int 0, .null, .null])), (q1, .inr (7, [.ref q2, .int 0]))]) [0, 12, 10, 11, 1] (by decide) rfl
  have hKc := hK.sub (tys' := []) [] rfl
  have hFc := va_free (wc := [(q0, .inr (13, [.ref q1, .ref q3, .ref q5, .ref q7, .ref q9, .ref q11, .ref q13, .ref q15, .int 0, .ref q17, .ref q21, .ref q25, .ref q26, .ref q27])), (q26, .inr (3, [.null, .null, .int 0, .int 0, .null])), (q21, .inr (9, [.ref q22, .ref q22, .null])), (q22, .inr (8, [.int 0, .int 0, .int 1, .int 0, .int 0, .int 0, .ref q23, .null, .null, .null, .null, .int 0, .int 0, .int 0, .int 0, .null, .null])), (q1, .inr (7, [.ref q2, .int 0]))]) hD hS hA [0, 12, 10, 11, 1] rfl
  refine va_calli (va_runV (As := []) (rest := []) ⟨hx, hb, hml, hown, hts⟩ (c_X11_ask l dC dI q0 q1 q3 q5 q7 q9 q11 q13 q15 q17 q21 q25 q26 q27 q22 q23 q2 H.size  ) (cwV 0 hts gL_law_X11_ask rfl rfl rfl (by decide +kernel) ⟨Nat.le_of_ble_eq_true rfl, Nat.le_of_ble_eq_true rfl⟩) ⟨zB_blind, va_recv hK hP (ci := 13) (q0 := 0) rfl rfl, (zPre hPc hDc hKc hS hFc hZ hN)⟩ rfl rfl hl.1 rfl (lv_room (Nat.le_of_ble_eq_true rfl)) dL_law_1366 ⟨Nat.le_of_ble_eq_true rfl, Nat.le_of_ble_eq_true rfl⟩) hS (fun q _ h => hFc q h) hFc (fun r u t H1 locs ht hvm hw hB hz1 hk1 hS => ?_)
  subst hw
  obtain ⟨hP1, hK1, hD1⟩ := hB
  rw [ht] at hP1
  have hK1 := va_K.moved hvm.symm hK1
  obtain ⟨hP, hD⟩ := va_join (wr := [(q86, .inr (15, [.ref q87, .ref q88, .ref q89, .ref q90, .ref q91, .ref q92, .int 0, .int 1, .ref q93, .int 0, .ref q94, .null, .ref q95, .null, .ref q96, .ref q97, .ref q98, .ref q99, .ref q100, .int 0, .ref q101, .ref q102, .ref q103, .ref q104, .ref q105, .int 0, .int 0]))]) (w1 := []) hP hD [0, 12, 10, 11, 1] [13] rfl rfl (by decide) (by decide) hk1 hFc hP1 hD1
  have hK := (hK.sub (tys' := []) [] rfl).app hK1
  generalize H1 = H at hP hS ⊢
  have hP : va_P (dC, dI) vwCl [(q86, .inr (15, [.ref q87, .ref q88, .ref q89, .ref q90, .ref q91, .ref q92, .int 0, .int 1, .ref q93, .int 0, .ref q94, .null, .ref q95, .null, .ref q96, .ref q97, .ref q98, .ref q99, .ref q100, .int 0, .ref q101, .ref q102, .ref q103, .ref q104, .ref q105, .int 0, .int 0]))] H := hP
  have hD : va_D (fun q : Nat => s.heap.size ≤ q) [(q86, .inr (15, [.ref q87, .ref q88, .ref q89, .ref q90, .ref q91, .ref q92, .int 0, .int 1, .ref q93, .int 0, .ref q94, .null, .ref q95, .null, .ref q96, .ref q97, .ref q98, .ref q99, .ref q100, .int 0, .ref q101, .ref q102, .ref q103, .ref q104, .ref q105, .int 0, .int 0]))] := hD
  have hK : va_K (dC, dI) vwCl [] s := hK
  refine W.widen (k := 140) (n := 6761) (Nat.le_of_ble_eq_true rfl) (Nat.le_of_ble_eq_true rfl) ?_
  refine lv_aload_n hx hb dL_law_1369 rfl (lv_at hl 2 rfl) ?_
  have hPc := hP.sub (ws' := [(q86, .inr (15, [.ref q87, .ref q88, .ref q89, .ref q90, .ref q91, .ref q92, .int 0, .int 1, .ref q93, .int 0, .ref q94, .null, .ref q95, .null, .ref q96, .ref q97, .ref q98, .ref q99, .ref q100, .int 0, .ref q101, .ref q102, .ref q103, .ref q104, .ref q105, .int 0, .int 0]))]) [0] rfl
  have hDc := hD.sub (ws' := [(q86, .inr (15, [.ref q87, .ref q88, .ref q89, .ref q90, .ref q91, .ref q92, .int 0, .int 1, .ref q93, .int 0, .ref q94, .null, .ref q95, .null, .ref q96, .ref q97, .ref q98, .ref q99, .ref q100, .int 0, .ref q101, .ref q102, .ref q103, .ref q104, .ref q105, .int 0, .int 0]))]) [0] (by decide) rfl
  have hKc := hK.sub (tys' := []) [] rfl
  have hFc := va_free (wc := [(q86, .inr (15, [.ref q87, .ref q88, .ref q89, .ref q90, .ref q91, .ref q92, .int 0, .int 1, .ref q93, .int 0, .ref q94, .null, .ref q95, .null, .ref q96, .ref q97, .ref q98, .ref q99, .ref q100, .int 0, .ref q101, .ref q102, .ref q103, .ref q104, .ref q105, .int 0, .int 0]))]) hD hS hA [0] rfl
  refine va_calli (va_runV (As := []) (rest := [.int (-1)]) ⟨hx, hb, hml, hown, hts⟩ (c_X13_ask l dC dI q86 q87 q88 q89 q90 q91 q92 q93 q94 q95 q96 q97 q98 q99 q100 q101 q102 q103 q104 q105 H.size  ) (cwV 0 hts gL_law_X13_ask rfl rfl rfl (by decide +kernel) ⟨Nat.le_of_ble_eq_true rfl, Nat.le_of_ble_eq_true rfl⟩) ⟨zB_blind, va_recv hK hP (ci := 15) (q0 := 0) rfl rfl, (zPre hPc hDc hKc hS hFc hZ hN)⟩ rfl rfl hl.1 rfl (lv_room (Nat.le_of_ble_eq_true rfl)) dL_law_1370 ⟨Nat.le_of_ble_eq_true rfl, Nat.le_of_ble_eq_true rfl⟩) hS (fun q _ h => hFc q h) hFc (fun r u t H1 locs ht hvm hw hB hz1 hk1 hS => ?_)
  subst hw
  obtain ⟨hP1, hK1, hD1⟩ := hB
  rw [ht] at hP1
  have hK1 := va_K.moved hvm.symm hK1
  obtain ⟨hP, hD⟩ := va_join (wr := []) (w1 := []) hP hD [0] [] rfl rfl (by decide) (by decide) hk1 hFc hP1 hD1
  have hK := (hK.sub (tys' := []) [] rfl).app hK1
  generalize H1 = H at hP hS ⊢
  have hP : va_P (dC, dI) vwCl [] H := hP
  have hD : va_D (fun q : Nat => s.heap.size ≤ q) [] := hD
  have hK : va_K (dC, dI) vwCl [] s := hK
  refine W.widen (k := 153) (n := 6800) (Nat.le_of_ble_eq_true rfl) (Nat.le_of_ble_eq_true rfl) ?_
  refine lv_icmp_eq (tgt := 2311) hx hb dL_law_1373 (by decide) (fun _ => ?_) (fun h9 => absurd (show ((-1) : Int32) = ((-1) : Int32) by decide +kernel) h9)
  exact law_exit C0 hS (Nat.le_of_ble_eq_true rfl) (Nat.le_of_ble_eq_true rfl) ls (lv_sub hl [0, 1, 2, 3, 4] rfl)
set_option maxHeartbeats 8000000 in
set_option maxRecDepth 100000 in
theorem law_case_25 {p : Program} {l : Launch} {e : Env} {s : State} {m : MethodId} {below : List Frame} {meth : Method} {c : Code} {b : Nat} {xs : Nat → Int32} (hfl : l.stackTraces = false) (C0 : lw_At p s m meth c b 4 xs) {dC : Nat → ClassId} {dI : Nat → Nat → Nat} {q0 q1 q3 q5 q7 q9 q11 q13 q15 q17 q21 q25 q26 q27 q2 q4 q6 q8 q10 q16 q18 q22 q23 q86 q87 q88 q89 q90 q91 q92 q93 q94 q95 q96 q97 q98 q99 q100 q101 q102 q103 q104 q105 q106 : Nat} {k2 k4 k87 k88 k89 k90 k91 k92 k93 k94 k96 k106 : ClassId} {H : Heap} {locs : List Loc} (hK : va_K (dC, dI) vwCl [(k2, .char), (k4, (.object "Seekwell$Text")), (k87, .boolean), (k88, .int), (k89, .int), (k90, .char), (k91, (.array .long)), (k92, (.array .long)), (k93, .int), (k94, .int), (k96, .boolean), (k106, .long)] s) (hP : va_P (dC, dI) vwCl [(q0, .inr (13, [.ref q1, .ref q3, .ref q5, .ref q7, .ref q9, .ref q11, .ref q13, .ref q15, .int 0, .ref q17, .ref q21, .ref q25, .ref q26, .ref q27])), (q1, .inr (7, [.ref q2, .int 0])), (q2, .inl (k2, 512, .inl (fun _ => 0))), (q3, .inr (11, [.ref q4, .int 0, .int 1])), (q4, .inl (k4, 24, .inr (.inr (.inr (.inr (fun _ => none)))))), (q5, .inr (11, [.ref q6, .int 0, .int 1])), (q7, .inr (10, [.ref q8, .int 0])), (q9, .inr (5, [.ref q10, .int 0, .int 0])), (q15, .inr (5, [.ref q16, .int 0, .int 0])), (q17, .inr (9, [.ref q18, .ref q18, .null])), (q21, .inr (9, [.ref q22, .ref q22, .null])), (q22, .inr (8, [.int 0, .int 0, .int 1, .int 0, .int 0, .int 0, .ref q23, .null, .null, .null, .null, .int 0, .int 0, .int 0, .int 0, .null, .null])), (q26, .inr (3, [.null, .null, .int 0, .int 0, .null])), (q86, .inr (15, [.ref q87, .ref q88, .ref q89, .ref q90, .ref q91, .ref q92, .int 0, .int 1, .ref q93, .int 0, .ref q94, .null, .ref q95, .null, .ref q96, .ref q97, .ref q98, .ref q99, .ref q100, .int 0, .ref q101, .ref q102, .ref q103, .ref q104, .ref q105, .int 0, .int 0])), (q87, .inl (k87, 24, .inl (fun _ => 0))), (q88, .inl (k88, 24, .inl (fun _ => 0))), (q89, .inl (k89, 24, .inl (fun _ => 0))), (q90, .inl (k90, 24, .inl (fun _ => 0))), (q91, .inl (k91, 24, .inr (.inr (.inr (.inr (fun _ => none)))))), (q92, .inl (k92, 24, .inr (.inr (.inr (.inr (fun _ => none)))))), (q93, .inl (k93, 4000, .inl (fun _ => 0))), (q94, .inl (k94, 0, .inl (fun _ => 0))), (q96, .inl (k96, 24, .inl (fun _ => 0))), (q106, .inl (k106, 1, .inr (.inl (fun _ => 0))))] H) (hD : va_D (fun q : Nat => s.heap.size ≤ q) [(q0, .inr (13, [.ref q1, .ref q3, .ref q5, .ref q7, .ref q9, .ref q11, .ref q13, .ref q15, .int 0, .ref q17, .ref q21, .ref q25, .ref q26, .ref q27])), (q1, .inr (7, [.ref q2, .int 0])), (q2, .inl (k2, 512, .inl (fun _ => 0))), (q3, .inr (11, [.ref q4, .int 0, .int 1])), (q4, .inl (k4, 24, .inr (.inr (.inr (.inr (fun _ => none)))))), (q5, .inr (11, [.ref q6, .int 0, .int 1])), (q7, .inr (10, [.ref q8, .int 0])), (q9, .inr (5, [.ref q10, .int 0, .int 0])), (q15, .inr (5, [.ref q16, .int 0, .int 0])), (q17, .inr (9, [.ref q18, .ref q18, .null])), (q21, .inr (9, [.ref q22, .ref q22, .null])), (q22, .inr (8, [.int 0, .int 0, .int 1, .int 0, .int 0, .int 0, .ref q23, .null, .null, .null, .null, .int 0, .int 0, .int 0, .int 0, .null, .null])), (q26, .inr (3, [.null, .null, .int 0, .int 0, .null])), (q86, .inr (15, [.ref q87, .ref q88, .ref q89, .ref q90, .ref q91, .ref q92, .int 0, .int 1, .ref q93, .int 0, .ref q94, .null, .ref q95, .null, .ref q96, .ref q97, .ref q98, .ref q99, .ref q100, .int 0, .ref q101, .ref q102, .ref q103, .ref q104, .ref q105, .int 0, .int 0])), (q87, .inl (k87, 24, .inl (fun _ => 0))), (q88, .inl (k88, 24, .inl (fun _ => 0))), (q89, .inl (k89, 24, .inl (fun _ => 0))), (q90, .inl (k90, 24, .inl (fun _ => 0))), (q91, .inl (k91, 24, .inr (.inr (.inr (.inr (fun _ => none)))))), (q92, .inl (k92, 24, .inr (.inr (.inr (.inr (fun _ => none)))))), (q93, .inl (k93, 4000, .inl (fun _ => 0))), (q94, .inl (k94, 0, .inl (fun _ => 0))), (q96, .inl (k96, 24, .inl (fun _ => 0))), (q106, .inl (k106, 1, .inr (.inl (fun _ => 0))))]) (hS : va_S (fun q : Nat => s.heap.size ≤ q) s.heap H locs) (hZ : zZ (fun q : Nat => s.heap.size ≤ q) s s.heap) (hN : zN s) (ls : Array Slot) (hl : lv_has ls 7 [(4, .int 0), (3, .ref q106), (2, .ref q86), (1, .ref q0), (0, .ref b)]) : W p l e room_1 s m #[Value.ref b] below meth c H locs 131 6692 (lw_Z below #[Value.ref b] s) (F0 m 1378 ls []) := by
  obtain ⟨hx, hb, hr, hml, hown, hts, hX, hbl, hlocks, hgv⟩ := id C0
  have hbA : ¬ (fun q : Nat => s.heap.size ≤ q) b := Nat.not_le.mpr hbl
  have hA : ∀ q : Nat, s.heap.size ≤ q → (fun q : Nat => s.heap.size ≤ q) q := fun _ h => h
  refine lv_aload_n hx hb dL_law_1378 rfl (lv_at hl 3 rfl) ?_
  refine lv_aload_n hx hb dL_law_1379 rfl (lv_at hl 1 rfl) ?_
  have hPc := hP.sub (ws' := [(q0, .inr (13, [.ref q1, .ref q3, .ref q5, .ref q7, .ref q9, .ref q11, .ref q13, .ref q15, .int 0, .ref q17, .ref q21, .ref q25, .ref q26, .ref q27])), (q17, .inr (9, [.ref q18, .ref q18, .null]))]) [0, 9] rfl
  have hDc := hD.sub (ws' := [(q0, .inr (13, [.ref q1, .ref q3, .ref q5, .ref q7, .ref q9, .ref q11, .ref q13, .ref q15, .int 0, .ref q17, .ref q21, .ref q25, .ref q26, .ref q27])), (q17, .inr (9, [.ref q18, .ref q18, .null]))]) [0, 9] (by decide) rfl
  have hKc := hK.sub (tys' := []) [] rfl
  have hFc := va_free (wc := [(q0, .inr (13, [.ref q1, .ref q3, .ref q5, .ref q7, .ref q9, .ref q11, .ref q13, .ref q15, .int 0, .ref q17, .ref q21, .ref q25, .ref q26, .ref q27])), (q17, .inr (9, [.ref q18, .ref q18, .null]))]) hD hS hA [0, 9] rfl
  refine va_calli (vx_runSW (As := [.ref q0, .ref q106]) (rest := []) ⟨hx, hb, hml, hown, hts⟩ (c_L_simplify l hfl dC dI q0 q106 q1 q3 q5 q7 q9 q11 q13 q15 q17 q21 q25 q26 q27 q18 H.size  ) (vx_cwSW 2 hts gL_law_L_simplify rfl rfl rfl (by decide +kernel) ⟨Nat.le_of_ble_eq_true rfl, Nat.le_of_ble_eq_true rfl⟩) ⟨zB_blind, (zPre hPc hDc hKc hS hFc hZ hN)⟩ rfl rfl hl.1 rfl (lv_room (Nat.le_of_ble_eq_true rfl)) dL_law_1380 ⟨Nat.le_of_ble_eq_true rfl, Nat.le_of_ble_eq_true rfl⟩) hS (fun q _ h => hFc q h) hFc (fun r u t H1 locs ht hvm hw hB hz1 hk1 hS => ?_)
  subst hw
  obtain ⟨hP1, hK1, hD1⟩ := hB
  rw [ht] at hP1
  have hK1 := va_K.moved hvm.symm hK1
  obtain ⟨hP, hD⟩ := va_join (wr := [(q86, .inr (15, [.ref q87, .ref q88, .ref q89, .ref q90, .ref q91, .ref q92, .int 0, .int 1, .ref q93, .int 0, .ref q94, .null, .ref q95, .null, .ref q96, .ref q97, .ref q98, .ref q99, .ref q100, .int 0, .ref q101, .ref q102, .ref q103, .ref q104, .ref q105, .int 0, .int 0]))]) (w1 := []) hP hD [0, 9] [13] rfl rfl (by decide) (by decide) hk1 hFc hP1 hD1
  have hK := (hK.sub (tys' := []) [] rfl).app hK1
  generalize H1 = H at hP hS ⊢
  have hP : va_P (dC, dI) vwCl [(q86, .inr (15, [.ref q87, .ref q88, .ref q89, .ref q90, .ref q91, .ref q92, .int 0, .int 1, .ref q93, .int 0, .ref q94, .null, .ref q95, .null, .ref q96, .ref q97, .ref q98, .ref q99, .ref q100, .int 0, .ref q101, .ref q102, .ref q103, .ref q104, .ref q105, .int 0, .int 0]))] H := hP
  have hD : va_D (fun q : Nat => s.heap.size ≤ q) [(q86, .inr (15, [.ref q87, .ref q88, .ref q89, .ref q90, .ref q91, .ref q92, .int 0, .int 1, .ref q93, .int 0, .ref q94, .null, .ref q95, .null, .ref q96, .ref q97, .ref q98, .ref q99, .ref q100, .int 0, .ref q101, .ref q102, .ref q103, .ref q104, .ref q105, .int 0, .int 0]))] := hD
  have hK : va_K (dC, dI) vwCl [] s := hK
  refine W.widen (k := 132) (n := 6698) (Nat.le_of_ble_eq_true rfl) (Nat.le_of_ble_eq_true rfl) ?_
  refine lv_istore (lv' := [(5, .int 1), (4, .int 0), (3, .ref q106), (2, .ref q86), (1, .ref q0), (0, .ref b)]) hx hb dL_law_1383 hl (by decide) rfl (fun ls hl => ?_)
  refine lv_aload_n hx hb dL_law_1385 rfl (lv_at hl 3 rfl) ?_
  have hPc := hP.sub (ws' := [(q86, .inr (15, [.ref q87, .ref q88, .ref q89, .ref q90, .ref q91, .ref q92, .int 0, .int 1, .ref q93, .int 0, .ref q94, .null, .ref q95, .null, .ref q96, .ref q97, .ref q98, .ref q99, .ref q100, .int 0, .ref q101, .ref q102, .ref q103, .ref q104, .ref q105, .int 0, .int 0]))]) [0] rfl
  have hDc := hD.sub (ws' := [(q86, .inr (15, [.ref q87, .ref q88, .ref q89, .ref q90, .ref q91, .ref q92, .int 0, .int 1, .ref q93, .int 0, .ref q94, .null, .ref q95, .null, .ref q96, .ref q97, .ref q98, .ref q99, .ref q100, .int 0, .ref q101, .ref q102, .ref q103, .ref q104, .ref q105, .int 0, .int 0]))]) [0] (by decide) rfl
  have hKc := hK.sub (tys' := []) [] rfl
  have hFc := va_free (wc := [(q86, .inr (15, [.ref q87, .ref q88, .ref q89, .ref q90, .ref q91, .ref q92, .int 0, .int 1, .ref q93, .int 0, .ref q94, .null, .ref q95, .null, .ref q96, .ref q97, .ref q98, .ref q99, .ref q100, .int 0, .ref q101, .ref q102, .ref q103, .ref q104, .ref q105, .int 0, .int 0]))]) hD hS hA [0] rfl
  refine va_calli (va_runV (As := []) (rest := []) ⟨hx, hb, hml, hown, hts⟩ (c_X13_simplify l dC dI q86 q87 q88 q89 q90 q91 q92 q93 q94 q95 q96 q97 q98 q99 q100 q101 q102 q103 q104 q105 H.size  ) (cwV 0 hts gL_law_X13_simplify rfl rfl rfl (by decide +kernel) ⟨Nat.le_of_ble_eq_true rfl, Nat.le_of_ble_eq_true rfl⟩) ⟨zB_blind, va_recv hK hP (ci := 15) (q0 := 0) rfl rfl, (zPre hPc hDc hKc hS hFc hZ hN)⟩ rfl rfl hl.1 rfl (lv_room (Nat.le_of_ble_eq_true rfl)) dL_law_1386 ⟨Nat.le_of_ble_eq_true rfl, Nat.le_of_ble_eq_true rfl⟩) hS (fun q _ h => hFc q h) hFc (fun r u t H1 locs ht hvm hw hB hz1 hk1 hS => ?_)
  subst hw
  obtain ⟨hP1, hK1, hD1⟩ := hB
  rw [ht] at hP1
  have hK1 := va_K.moved hvm.symm hK1
  obtain ⟨hP, hD⟩ := va_join (wr := []) (w1 := [(q86, .inr (15, [.ref q87, .ref q88, .ref q89, .ref q90, .ref q91, .ref q92, .int 0, .int 1, .ref q93, .int 0, .ref q94, .null, .ref q95, .null, .ref q96, .ref q97, .ref q98, .ref q99, .ref q100, .int 1, .ref q101, .ref q102, .ref q103, .ref q104, .ref q105, .int 0, .int 0]))]) hP hD [0] [] rfl rfl (by decide) (by decide) hk1 hFc hP1 hD1
  have hK := (hK.sub (tys' := []) [] rfl).app hK1
  generalize H1 = H at hP hS ⊢
  have hP : va_P (dC, dI) vwCl [(q86, .inr (15, [.ref q87, .ref q88, .ref q89, .ref q90, .ref q91, .ref q92, .int 0, .int 1, .ref q93, .int 0, .ref q94, .null, .ref q95, .null, .ref q96, .ref q97, .ref q98, .ref q99, .ref q100, .int 1, .ref q101, .ref q102, .ref q103, .ref q104, .ref q105, .int 0, .int 0]))] H := hP
  have hD : va_D (fun q : Nat => s.heap.size ≤ q) [(q86, .inr (15, [.ref q87, .ref q88, .ref q89, .ref q90, .ref q91, .ref q92, .int 0, .int 1, .ref q93, .int 0, .ref q94, .null, .ref q95, .null, .ref q96, .ref q97, .ref q98, .ref q99, .ref q100, .int 1, .ref q101, .ref q102, .ref q103, .ref q104, .ref q105, .int 0, .int 0]))] := hD
  have hK : va_K (dC, dI) vwCl [] s := hK
  refine W.widen (k := 132) (n := 6698) (Nat.le_of_ble_eq_true rfl) (Nat.le_of_ble_eq_true rfl) ?_
  refine lv_istore (lv' := [(6, .int 0), (5, .int 1), (4, .int 0), (3, .ref q106), (2, .ref q86), (1, .ref q0), (0, .ref b)]) hx hb dL_law_1389 hl (by decide) rfl (fun ls hl => ?_)
  refine lv_aload_n hx hb dL_law_1391 rfl (lv_at hl 4 rfl) ?_
  have hPc := hP.sub (ws' := [(q86, .inr (15, [.ref q87, .ref q88, .ref q89, .ref q90, .ref q91, .ref q92, .int 0, .int 1, .ref q93, .int 0, .ref q94, .null, .ref q95, .null, .ref q96, .ref q97, .ref q98, .ref q99, .ref q100, .int 1, .ref q101, .ref q102, .ref q103, .ref q104, .ref q105, .int 0, .int 0]))]) [0] rfl
  have hDc := hD.sub (ws' := [(q86, .inr (15, [.ref q87, .ref q88, .ref q89, .ref q90, .ref q91, .ref q92, .int 0, .int 1, .ref q93, .int 0, .ref q94, .null, .ref q95, .null, .ref q96, .ref q97, .ref q98, .ref q99, .ref q100, .int 1, .ref q101, .ref q102, .ref q103, .ref q104, .ref q105, .int 0, .int 0]))]) [0] (by decide) rfl
  have hKc := hK.sub (tys' := []) [] rfl
  have hFc := va_free (wc := [(q86, .inr (15, [.ref q87, .ref q88, .ref q89, .ref q90, .ref q91, .ref q92, .int 0, .int 1, .ref q93, .int 0, .ref q94, .null, .ref q95, .null, .ref q96, .ref q97, .ref q98, .ref q99, .ref q100, .int 1, .ref q101, .ref q102, .ref q103, .ref q104, .ref q105, .int 0, .int 0]))]) hD hS hA [0] rfl
  refine va_calli (va_runV (As := []) (rest := []) ⟨hx, hb, hml, hown, hts⟩ (c_X13_thrown l dC dI q86 q87 q88 q89 q90 q91 q92 q93 q94 q95 q96 q97 q98 q99 q100 q101 q102 q103 q104 q105 H.size  ) (cwV 0 hts gL_law_X13_thrown rfl rfl rfl (by decide +kernel) ⟨Nat.le_of_ble_eq_true rfl, Nat.le_of_ble_eq_true rfl⟩) ⟨zB_blind, va_recv hK hP (ci := 15) (q0 := 0) rfl rfl, (zPre hPc hDc hKc hS hFc hZ hN)⟩ rfl rfl hl.1 rfl (lv_room (Nat.le_of_ble_eq_true rfl)) dL_law_1392 ⟨Nat.le_of_ble_eq_true rfl, Nat.le_of_ble_eq_true rfl⟩) hS (fun q _ h => hFc q h) hFc (fun r u t H1 locs ht hvm hw hB hz1 hk1 hS => ?_)
  subst hw
  obtain ⟨hP1, hK1, hD1⟩ := hB
  rw [ht] at hP1
  have hK1 := va_K.moved hvm.symm hK1
  obtain ⟨hP, hD⟩ := va_join (wr := []) (w1 := []) hP hD [0] [] rfl rfl (by decide) (by decide) hk1 hFc hP1 hD1
  have hK := (hK.sub (tys' := []) [] rfl).app hK1
  generalize H1 = H at hP hS ⊢
  have hP : va_P (dC, dI) vwCl [] H := hP
  have hD : va_D (fun q : Nat => s.heap.size ≤ q) [] := hD
  have hK : va_K (dC, dI) vwCl [] s := hK
  refine W.widen (k := 132) (n := 6698) (Nat.le_of_ble_eq_true rfl) (Nat.le_of_ble_eq_true rfl) ?_
  refine lv_iload hx hb dL_law_1395 (lv_at hl 1 rfl) ?_
  refine lv_icmp_eq (tgt := 1402) hx hb dL_law_1397 (by decide) (fun _ => ?_) (fun h9 => absurd (show (1 : Int32) = (1 : Int32) by decide +kernel) h9)
  refine lv_iload hx hb dL_law_1402 (lv_at hl 1 rfl) ?_
  refine lv_if_ne (tgt := 1419) hx hb dL_law_1404 (by decide) (fun _ => ?_) (fun h9 => absurd h9 (show ¬ (1 : Int32) = (0 : Int32) by decide +kernel))
  refine lv_goto (tgt := 2311) hx hb dL_law_1419 (by decide) ?_
  exact law_exit C0 hS (Nat.le_of_ble_eq_true rfl) (Nat.le_of_ble_eq_true rfl) ls (lv_sub hl [2, 3, 4, 5, 6] rfl)
set_option maxHeartbeats 8000000 in
set_option maxRecDepth 100000 in
theorem law_case_26 {p : Program} {l : Launch} {e : Env} {s : State} {m : MethodId} {below : List Frame} {meth : Method} {c : Code} {b : Nat} {xs : Nat → Int32} (hfl : l.stackTraces = false) (C0 : lw_At p s m meth c b 4 xs) {dC : Nat → ClassId} {dI : Nat → Nat → Nat} {q0 q1 q3 q5 q7 q9 q11 q13 q15 q17 q21 q25 q26 q27 q2 q4 q6 q8 q10 q16 q18 q22 q23 q86 q87 q88 q89 q90 q91 q92 q93 q94 q95 q96 q97 q98 q99 q100 q101 q102 q103 q104 q105 q106 : Nat} {k2 k4 k87 k88 k89 k90 k91 k92 k93 k94 k96 k106 : ClassId} {H : Heap} {locs : List Loc} (hK : va_K (dC, dI) vwCl [(k2, .char), (k4, (.object "Seekwell$Text")), (k87, .boolean), (k88, .int), (k89, .int), (k90, .char), (k91, (.array .long)), (k92, (.array .long)), (k93, .int), (k94, .int), (k96, .boolean), (k106, .long)] s) (hP : va_P (dC, dI) vwCl [(q0, .inr (13, [.ref q1, .ref q3, .ref q5, .ref q7, .ref q9, .ref q11, .ref q13, .ref q15, .int 0, .ref q17, .ref q21, .ref q25, .ref q26, .ref q27])), (q1, .inr (7, [.ref q2, .int 0])), (q2, .inl (k2, 512, .inl (fun _ => 0))), (q3, .inr (11, [.ref q4, .int 0, .int 1])), (q4, .inl (k4, 24, .inr (.inr (.inr (.inr (fun _ => none)))))), (q5, .inr (11, [.ref q6, .int 0, .int 1])), (q7, .inr (10, [.ref q8, .int 0])), (q9, .inr (5, [.ref q10, .int 0, .int 0])), (q15, .inr (5, [.ref q16, .int 0, .int 0])), (q17, .inr (9, [.ref q18, .ref q18, .null])), (q21, .inr (9, [.ref q22, .ref q22, .null])), (q22, .inr (8, [.int 0, .int 0, .int 1, .int 0, .int 0, .int 0, .ref q23, .null, .null, .null, .null, .int 0, .int 0, .int 0, .int 0, .null, .null])), (q26, .inr (3, [.null, .null, .int 0, .int 0, .null])), (q86, .inr (15, [.ref q87, .ref q88, .ref q89, .ref q90, .ref q91, .ref q92, .int 0, .int 1, .ref q93, .int 0, .ref q94, .null, .ref q95, .null, .ref q96, .ref q97, .ref q98, .ref q99, .ref q100, .int 0, .ref q101, .ref q102, .ref q103, .ref q104, .ref q105, .int 0, .int 0])), (q87, .inl (k87, 24, .inl (fun _ => 0))), (q88, .inl (k88, 24, .inl (fun _ => 0))), (q89, .inl (k89, 24, .inl (fun _ => 0))), (q90, .inl (k90, 24, .inl (fun _ => 0))), (q91, .inl (k91, 24, .inr (.inr (.inr (.inr (fun _ => none)))))), (q92, .inl (k92, 24, .inr (.inr (.inr (.inr (fun _ => none)))))), (q93, .inl (k93, 4000, .inl (fun _ => 0))), (q94, .inl (k94, 0, .inl (fun _ => 0))), (q96, .inl (k96, 24, .inl (fun _ => 0))), (q106, .inl (k106, 1, .inr (.inl (fun _ => 0))))] H) (hD : va_D (fun q : Nat => s.heap.size ≤ q) [(q0, .inr (13, [.ref q1, .ref q3, .ref q5, .ref q7, .ref q9, .ref q11, .ref q13, .ref q15, .int 0, .ref q17, .ref q21, .ref q25, .ref q26, .ref q27])), (q1, .inr (7, [.ref q2, .int 0])), (q2, .inl (k2, 512, .inl (fun _ => 0))), (q3, .inr (11, [.ref q4, .int 0, .int 1])), (q4, .inl (k4, 24, .inr (.inr (.inr (.inr (fun _ => none)))))), (q5, .inr (11, [.ref q6, .int 0, .int 1])), (q7, .inr (10, [.ref q8, .int 0])), (q9, .inr (5, [.ref q10, .int 0, .int 0])), (q15, .inr (5, [.ref q16, .int 0, .int 0])), (q17, .inr (9, [.ref q18, .ref q18, .null])), (q21, .inr (9, [.ref q22, .ref q22, .null])), (q22, .inr (8, [.int 0, .int 0, .int 1, .int 0, .int 0, .int 0, .ref q23, .null, .null, .null, .null, .int 0, .int 0, .int 0, .int 0, .null, .null])), (q26, .inr (3, [.null, .null, .int 0, .int 0, .null])), (q86, .inr (15, [.ref q87, .ref q88, .ref q89, .ref q90, .ref q91, .ref q92, .int 0, .int 1, .ref q93, .int 0, .ref q94, .null, .ref q95, .null, .ref q96, .ref q97, .ref q98, .ref q99, .ref q100, .int 0, .ref q101, .ref q102, .ref q103, .ref q104, .ref q105, .int 0, .int 0])), (q87, .inl (k87, 24, .inl (fun _ => 0))), (q88, .inl (k88, 24, .inl (fun _ => 0))), (q89, .inl (k89, 24, .inl (fun _ => 0))), (q90, .inl (k90, 24, .inl (fun _ => 0))), (q91, .inl (k91, 24, .inr (.inr (.inr (.inr (fun _ => none)))))), (q92, .inl (k92, 24, .inr (.inr (.inr (.inr (fun _ => none)))))), (q93, .inl (k93, 4000, .inl (fun _ => 0))), (q94, .inl (k94, 0, .inl (fun _ => 0))), (q96, .inl (k96, 24, .inl (fun _ => 0))), (q106, .inl (k106, 1, .inr (.inl (fun _ => 0))))]) (hS : va_S (fun q : Nat => s.heap.size ≤ q) s.heap H locs) (hZ : zZ (fun q : Nat => s.heap.size ≤ q) s s.heap) (hN : zN s) (ls : Array Slot) (hl : lv_has ls 7 [(4, .int 0), (3, .ref q106), (2, .ref q86), (1, .ref q0), (0, .ref b)]) : W p l e room_1 s m #[Value.ref b] below meth c H locs 131 6692 (lw_Z below #[Value.ref b] s) (F0 m 1422 ls []) := by
  obtain ⟨hx, hb, hr, hml, hown, hts, hX, hbl, hlocks, hgv⟩ := id C0
  have hbA : ¬ (fun q : Nat => s.heap.size ≤ q) b := Nat.not_le.mpr hbl
  have hA : ∀ q : Nat, s.heap.size ≤ q → (fun q : Nat => s.heap.size ≤ q) q := fun _ h => h
  refine lv_aload_n hx hb dL_law_1422 rfl (lv_at hl 3 rfl) ?_
  refine lv_aload_n hx hb dL_law_1423 rfl (lv_at hl 1 rfl) ?_
  have hPc := hP.sub (ws' := [(q0, .inr (13, [.ref q1, .ref q3, .ref q5, .ref q7, .ref q9, .ref q11, .ref q13, .ref q15, .int 0, .ref q17, .ref q21, .ref q25, .ref q26, .ref q27])), (q17, .inr (9, [.ref q18, .ref q18, .null]))]) [0, 9] rfl
  have hDc := hD.sub (ws' := [(q0, .inr (13, [.ref q1, .ref q3, .ref q5, .ref q7, .ref q9, .ref q11, .ref q13, .ref q15, .int 0, .ref q17, .ref q21, .ref q25, .ref q26, .ref q27])), (q17, .inr (9, [.ref q18, .ref q18, .null]))]) [0, 9] (by decide) rfl
  have hKc := hK.sub (tys' := []) [] rfl
  have hFc := va_free (wc := [(q0, .inr (13, [.ref q1, .ref q3, .ref q5, .ref q7, .ref q9, .ref q11, .ref q13, .ref q15, .int 0, .ref q17, .ref q21, .ref q25, .ref q26, .ref q27])), (q17, .inr (9, [.ref q18, .ref q18, .null]))]) hD hS hA [0, 9] rfl
  refine va_calli (vx_runSW (As := [.ref q0, .ref q106]) (rest := []) ⟨hx, hb, hml, hown, hts⟩ (c_L_tellQuestion l hfl dC dI q0 q106 q1 q3 q5 q7 q9 q11 q13 q15 q17 q21 q25 q26 q27 q18 H.size  ) (vx_cwSW 2 hts gL_law_L_tellQuestion rfl rfl rfl (by decide +kernel) ⟨Nat.le_of_ble_eq_true rfl, Nat.le_of_ble_eq_true rfl⟩) ⟨zB_blind, (zPre hPc hDc hKc hS hFc hZ hN)⟩ rfl rfl hl.1 rfl (lv_room (Nat.le_of_ble_eq_true rfl)) dL_law_1424 ⟨Nat.le_of_ble_eq_true rfl, Nat.le_of_ble_eq_true rfl⟩) hS (fun q _ h => hFc q h) hFc (fun r u t H1 locs ht hvm hw hB hz1 hk1 hS => ?_)
  subst hw
  obtain ⟨hP1, hK1, hD1⟩ := hB
  rw [ht] at hP1
  have hK1 := va_K.moved hvm.symm hK1
  obtain ⟨hP, hD⟩ := va_join (wr := [(q86, .inr (15, [.ref q87, .ref q88, .ref q89, .ref q90, .ref q91, .ref q92, .int 0, .int 1, .ref q93, .int 0, .ref q94, .null, .ref q95, .null, .ref q96, .ref q97, .ref q98, .ref q99, .ref q100, .int 0, .ref q101, .ref q102, .ref q103, .ref q104, .ref q105, .int 0, .int 0]))]) (w1 := []) hP hD [0, 9] [13] rfl rfl (by decide) (by decide) hk1 hFc hP1 hD1
  have hK := (hK.sub (tys' := []) [] rfl).app hK1
  generalize H1 = H at hP hS ⊢
  have hP : va_P (dC, dI) vwCl [(q86, .inr (15, [.ref q87, .ref q88, .ref q89, .ref q90, .ref q91, .ref q92, .int 0, .int 1, .ref q93, .int 0, .ref q94, .null, .ref q95, .null, .ref q96, .ref q97, .ref q98, .ref q99, .ref q100, .int 0, .ref q101, .ref q102, .ref q103, .ref q104, .ref q105, .int 0, .int 0]))] H := hP
  have hD : va_D (fun q : Nat => s.heap.size ≤ q) [(q86, .inr (15, [.ref q87, .ref q88, .ref q89, .ref q90, .ref q91, .ref q92, .int 0, .int 1, .ref q93, .int 0, .ref q94, .null, .ref q95, .null, .ref q96, .ref q97, .ref q98, .ref q99, .ref q100, .int 0, .ref q101, .ref q102, .ref q103, .ref q104, .ref q105, .int 0, .int 0]))] := hD
  have hK : va_K (dC, dI) vwCl [] s := hK
  refine W.widen (k := 132) (n := 6698) (Nat.le_of_ble_eq_true rfl) (Nat.le_of_ble_eq_true rfl) ?_
  refine lv_istore (lv' := [(5, .int 1), (4, .int 0), (3, .ref q106), (2, .ref q86), (1, .ref q0), (0, .ref b)]) hx hb dL_law_1427 hl (by decide) rfl (fun ls hl => ?_)
  refine lv_aload_n hx hb dL_law_1429 rfl (lv_at hl 3 rfl) ?_
  have hPc := hP.sub (ws' := [(q86, .inr (15, [.ref q87, .ref q88, .ref q89, .ref q90, .ref q91, .ref q92, .int 0, .int 1, .ref q93, .int 0, .ref q94, .null, .ref q95, .null, .ref q96, .ref q97, .ref q98, .ref q99, .ref q100, .int 0, .ref q101, .ref q102, .ref q103, .ref q104, .ref q105, .int 0, .int 0]))]) [0] rfl
  have hDc := hD.sub (ws' := [(q86, .inr (15, [.ref q87, .ref q88, .ref q89, .ref q90, .ref q91, .ref q92, .int 0, .int 1, .ref q93, .int 0, .ref q94, .null, .ref q95, .null, .ref q96, .ref q97, .ref q98, .ref q99, .ref q100, .int 0, .ref q101, .ref q102, .ref q103, .ref q104, .ref q105, .int 0, .int 0]))]) [0] (by decide) rfl
  have hKc := hK.sub (tys' := []) [] rfl
  have hFc := va_free (wc := [(q86, .inr (15, [.ref q87, .ref q88, .ref q89, .ref q90, .ref q91, .ref q92, .int 0, .int 1, .ref q93, .int 0, .ref q94, .null, .ref q95, .null, .ref q96, .ref q97, .ref q98, .ref q99, .ref q100, .int 0, .ref q101, .ref q102, .ref q103, .ref q104, .ref q105, .int 0, .int 0]))]) hD hS hA [0] rfl
  refine va_calli (va_runV (As := []) (rest := []) ⟨hx, hb, hml, hown, hts⟩ (c_X13_tellQuestion l dC dI q86 q87 q88 q89 q90 q91 q92 q93 q94 q95 q96 q97 q98 q99 q100 q101 q102 q103 q104 q105 H.size  ) (cwV 0 hts gL_law_X13_tellQuestion rfl rfl rfl (by decide +kernel) ⟨Nat.le_of_ble_eq_true rfl, Nat.le_of_ble_eq_true rfl⟩) ⟨zB_blind, va_recv hK hP (ci := 15) (q0 := 0) rfl rfl, (zPre hPc hDc hKc hS hFc hZ hN)⟩ rfl rfl hl.1 rfl (lv_room (Nat.le_of_ble_eq_true rfl)) dL_law_1430 ⟨Nat.le_of_ble_eq_true rfl, Nat.le_of_ble_eq_true rfl⟩) hS (fun q _ h => hFc q h) hFc (fun r u t H1 locs ht hvm hw hB hz1 hk1 hS => ?_)
  subst hw
  obtain ⟨hP1, hK1, hD1⟩ := hB
  rw [ht] at hP1
  have hK1 := va_K.moved hvm.symm hK1
  obtain ⟨hP, hD⟩ := va_join (wr := []) (w1 := [(q86, .inr (15, [.ref q87, .ref q88, .ref q89, .ref q90, .ref q91, .ref q92, .int 0, .int 1, .ref q93, .int 0, .ref q94, .null, .ref q95, .null, .ref q96, .ref q97, .ref q98, .ref q99, .ref q100, .int 1, .ref q101, .ref q102, .ref q103, .ref q104, .ref q105, .int 0, .int 0]))]) hP hD [0] [] rfl rfl (by decide) (by decide) hk1 hFc hP1 hD1
  have hK := (hK.sub (tys' := []) [] rfl).app hK1
  generalize H1 = H at hP hS ⊢
  have hP : va_P (dC, dI) vwCl [(q86, .inr (15, [.ref q87, .ref q88, .ref q89, .ref q90, .ref q91, .ref q92, .int 0, .int 1, .ref q93, .int 0, .ref q94, .null, .ref q95, .null, .ref q96, .ref q97, .ref q98, .ref q99, .ref q100, .int 1, .ref q101, .ref q102, .ref q103, .ref q104, .ref q105, .int 0, .int 0]))] H := hP
  have hD : va_D (fun q : Nat => s.heap.size ≤ q) [(q86, .inr (15, [.ref q87, .ref q88, .ref q89, .ref q90, .ref q91, .ref q92, .int 0, .int 1, .ref q93, .int 0, .ref q94, .null, .ref q95, .null, .ref q96, .ref q97, .ref q98, .ref q99, .ref q100, .int 1, .ref q101, .ref q102, .ref q103, .ref q104, .ref q105, .int 0, .int 0]))] := hD
  have hK : va_K (dC, dI) vwCl [] s := hK
  refine W.widen (k := 132) (n := 6698) (Nat.le_of_ble_eq_true rfl) (Nat.le_of_ble_eq_true rfl) ?_
  refine lv_istore (lv' := [(6, .int 0), (5, .int 1), (4, .int 0), (3, .ref q106), (2, .ref q86), (1, .ref q0), (0, .ref b)]) hx hb dL_law_1433 hl (by decide) rfl (fun ls hl => ?_)
  refine lv_aload_n hx hb dL_law_1435 rfl (lv_at hl 4 rfl) ?_
  have hPc := hP.sub (ws' := [(q86, .inr (15, [.ref q87, .ref q88, .ref q89, .ref q90, .ref q91, .ref q92, .int 0, .int 1, .ref q93, .int 0, .ref q94, .null, .ref q95, .null, .ref q96, .ref q97, .ref q98, .ref q99, .ref q100, .int 1, .ref q101, .ref q102, .ref q103, .ref q104, .ref q105, .int 0, .int 0]))]) [0] rfl
  have hDc := hD.sub (ws' := [(q86, .inr (15, [.ref q87, .ref q88, .ref q89, .ref q90, .ref q91, .ref q92, .int 0, .int 1, .ref q93, .int 0, .ref q94, .null, .ref q95, .null, .ref q96, .ref q97, .ref q98, .ref q99, .ref q100, .int 1, .ref q101, .ref q102, .ref q103, .ref q104, .ref q105, .int 0, .int 0]))]) [0] (by decide) rfl
  have hKc := hK.sub (tys' := []) [] rfl
  have hFc := va_free (wc := [(q86, .inr (15, [.ref q87, .ref q88, .ref q89, .ref q90, .ref q91, .ref q92, .int 0, .int 1, .ref q93, .int 0, .ref q94, .null, .ref q95, .null, .ref q96, .ref q97, .ref q98, .ref q99, .ref q100, .int 1, .ref q101, .ref q102, .ref q103, .ref q104, .ref q105, .int 0, .int 0]))]) hD hS hA [0] rfl
  refine va_calli (va_runV (As := []) (rest := []) ⟨hx, hb, hml, hown, hts⟩ (c_X13_thrown l dC dI q86 q87 q88 q89 q90 q91 q92 q93 q94 q95 q96 q97 q98 q99 q100 q101 q102 q103 q104 q105 H.size  ) (cwV 0 hts gL_law_X13_thrown rfl rfl rfl (by decide +kernel) ⟨Nat.le_of_ble_eq_true rfl, Nat.le_of_ble_eq_true rfl⟩) ⟨zB_blind, va_recv hK hP (ci := 15) (q0 := 0) rfl rfl, (zPre hPc hDc hKc hS hFc hZ hN)⟩ rfl rfl hl.1 rfl (lv_room (Nat.le_of_ble_eq_true rfl)) dL_law_1436 ⟨Nat.le_of_ble_eq_true rfl, Nat.le_of_ble_eq_true rfl⟩) hS (fun q _ h => hFc q h) hFc (fun r u t H1 locs ht hvm hw hB hz1 hk1 hS => ?_)
  subst hw
  obtain ⟨hP1, hK1, hD1⟩ := hB
  rw [ht] at hP1
  have hK1 := va_K.moved hvm.symm hK1
  obtain ⟨hP, hD⟩ := va_join (wr := []) (w1 := []) hP hD [0] [] rfl rfl (by decide) (by decide) hk1 hFc hP1 hD1
  have hK := (hK.sub (tys' := []) [] rfl).app hK1
  generalize H1 = H at hP hS ⊢
  have hP : va_P (dC, dI) vwCl [] H := hP
  have hD : va_D (fun q : Nat => s.heap.size ≤ q) [] := hD
  have hK : va_K (dC, dI) vwCl [] s := hK
  refine W.widen (k := 132) (n := 6698) (Nat.le_of_ble_eq_true rfl) (Nat.le_of_ble_eq_true rfl) ?_
  refine lv_iload hx hb dL_law_1439 (lv_at hl 1 rfl) ?_
  refine lv_icmp_eq (tgt := 1446) hx hb dL_law_1441 (by decide) (fun _ => ?_) (fun h9 => absurd (show (1 : Int32) = (1 : Int32) by decide +kernel) h9)
  refine lv_iload hx hb dL_law_1446 (lv_at hl 1 rfl) ?_
  refine lv_if_ne (tgt := 1463) hx hb dL_law_1448 (by decide) (fun _ => ?_) (fun h9 => absurd h9 (show ¬ (1 : Int32) = (0 : Int32) by decide +kernel))
  refine lv_goto (tgt := 2311) hx hb dL_law_1463 (by decide) ?_
  exact law_exit C0 hS (Nat.le_of_ble_eq_true rfl) (Nat.le_of_ble_eq_true rfl) ls (lv_sub hl [2, 3, 4, 5, 6] rfl)
set_option maxHeartbeats 8000000 in
set_option maxRecDepth 100000 in
theorem law_case_27 {p : Program} {l : Launch} {e : Env} {s : State} {m : MethodId} {below : List Frame} {meth : Method} {c : Code} {b : Nat} {xs : Nat → Int32} (hfl : l.stackTraces = false) (C0 : lw_At p s m meth c b 4 xs) {dC : Nat → ClassId} {dI : Nat → Nat → Nat} {q0 q1 q3 q5 q7 q9 q11 q13 q15 q17 q21 q25 q26 q27 q2 q4 q6 q8 q10 q16 q18 q22 q23 q86 q87 q88 q89 q90 q91 q92 q93 q94 q95 q96 q97 q98 q99 q100 q101 q102 q103 q104 q105 q106 : Nat} {k2 k4 k87 k88 k89 k90 k91 k92 k93 k94 k96 k106 : ClassId} {H : Heap} {locs : List Loc} (hK : va_K (dC, dI) vwCl [(k2, .char), (k4, (.object "Seekwell$Text")), (k87, .boolean), (k88, .int), (k89, .int), (k90, .char), (k91, (.array .long)), (k92, (.array .long)), (k93, .int), (k94, .int), (k96, .boolean), (k106, .long)] s) (hP : va_P (dC, dI) vwCl [(q0, .inr (13, [.ref q1, .ref q3, .ref q5, .ref q7, .ref q9, .ref q11, .ref q13, .ref q15, .int 0, .ref q17, .ref q21, .ref q25, .ref q26, .ref q27])), (q1, .inr (7, [.ref q2, .int 0])), (q2, .inl (k2, 512, .inl (fun _ => 0))), (q3, .inr (11, [.ref q4, .int 0, .int 1])), (q4, .inl (k4, 24, .inr (.inr (.inr (.inr (fun _ => none)))))), (q5, .inr (11, [.ref q6, .int 0, .int 1])), (q7, .inr (10, [.ref q8, .int 0])), (q9, .inr (5, [.ref q10, .int 0, .int 0])), (q15, .inr (5, [.ref q16, .int 0, .int 0])), (q17, .inr (9, [.ref q18, .ref q18, .null])), (q21, .inr (9, [.ref q22, .ref q22, .null])), (q22, .inr (8, [.int 0, .int 0, .int 1, .int 0, .int 0, .int 0, .ref q23, .null, .null, .null, .null, .int 0, .int 0, .int 0, .int 0, .null, .null])), (q26, .inr (3, [.null, .null, .int 0, .int 0, .null])), (q86, .inr (15, [.ref q87, .ref q88, .ref q89, .ref q90, .ref q91, .ref q92, .int 0, .int 1, .ref q93, .int 0, .ref q94, .null, .ref q95, .null, .ref q96, .ref q97, .ref q98, .ref q99, .ref q100, .int 0, .ref q101, .ref q102, .ref q103, .ref q104, .ref q105, .int 0, .int 0])), (q87, .inl (k87, 24, .inl (fun _ => 0))), (q88, .inl (k88, 24, .inl (fun _ => 0))), (q89, .inl (k89, 24, .inl (fun _ => 0))), (q90, .inl (k90, 24, .inl (fun _ => 0))), (q91, .inl (k91, 24, .inr (.inr (.inr (.inr (fun _ => none)))))), (q92, .inl (k92, 24, .inr (.inr (.inr (.inr (fun _ => none)))))), (q93, .inl (k93, 4000, .inl (fun _ => 0))), (q94, .inl (k94, 0, .inl (fun _ => 0))), (q96, .inl (k96, 24, .inl (fun _ => 0))), (q106, .inl (k106, 1, .inr (.inl (fun _ => 0))))] H) (hD : va_D (fun q : Nat => s.heap.size ≤ q) [(q0, .inr (13, [.ref q1, .ref q3, .ref q5, .ref q7, .ref q9, .ref q11, .ref q13, .ref q15, .int 0, .ref q17, .ref q21, .ref q25, .ref q26, .ref q27])), (q1, .inr (7, [.ref q2, .int 0])), (q2, .inl (k2, 512, .inl (fun _ => 0))), (q3, .inr (11, [.ref q4, .int 0, .int 1])), (q4, .inl (k4, 24, .inr (.inr (.inr (.inr (fun _ => none)))))), (q5, .inr (11, [.ref q6, .int 0, .int 1])), (q7, .inr (10, [.ref q8, .int 0])), (q9, .inr (5, [.ref q10, .int 0, .int 0])), (q15, .inr (5, [.ref q16, .int 0, .int 0])), (q17, .inr (9, [.ref q18, .ref q18, .null])), (q21, .inr (9, [.ref q22, .ref q22, .null])), (q22, .inr (8, [.int 0, .int 0, .int 1, .int 0, .int 0, .int 0, .ref q23, .null, .null, .null, .null, .int 0, .int 0, .int 0, .int 0, .null, .null])), (q26, .inr (3, [.null, .null, .int 0, .int 0, .null])), (q86, .inr (15, [.ref q87, .ref q88, .ref q89, .ref q90, .ref q91, .ref q92, .int 0, .int 1, .ref q93, .int 0, .ref q94, .null, .ref q95, .null, .ref q96, .ref q97, .ref q98, .ref q99, .ref q100, .int 0, .ref q101, .ref q102, .ref q103, .ref q104, .ref q105, .int 0, .int 0])), (q87, .inl (k87, 24, .inl (fun _ => 0))), (q88, .inl (k88, 24, .inl (fun _ => 0))), (q89, .inl (k89, 24, .inl (fun _ => 0))), (q90, .inl (k90, 24, .inl (fun _ => 0))), (q91, .inl (k91, 24, .inr (.inr (.inr (.inr (fun _ => none)))))), (q92, .inl (k92, 24, .inr (.inr (.inr (.inr (fun _ => none)))))), (q93, .inl (k93, 4000, .inl (fun _ => 0))), (q94, .inl (k94, 0, .inl (fun _ => 0))), (q96, .inl (k96, 24, .inl (fun _ => 0))), (q106, .inl (k106, 1, .inr (.inl (fun _ => 0))))]) (hS : va_S (fun q : Nat => s.heap.size ≤ q) s.heap H locs) (hZ : zZ (fun q : Nat => s.heap.size ≤ q) s s.heap) (hN : zN s) (ls : Array Slot) (hl : lv_has ls 7 [(4, .int 0), (3, .ref q106), (2, .ref q86), (1, .ref q0), (0, .ref b)]) : W p l e room_1 s m #[Value.ref b] below meth c H locs 131 6692 (lw_Z below #[Value.ref b] s) (F0 m 1466 ls []) := by
  obtain ⟨hx, hb, hr, hml, hown, hts, hX, hbl, hlocks, hgv⟩ := id C0
  have hbA : ¬ (fun q : Nat => s.heap.size ≤ q) b := Nat.not_le.mpr hbl
  have hA : ∀ q : Nat, s.heap.size ≤ q → (fun q : Nat => s.heap.size ≤ q) q := fun _ h => h
  refine lv_aload_n hx hb dL_law_1466 rfl (lv_at hl 3 rfl) ?_
  refine lv_aload_n hx hb dL_law_1467 rfl (lv_at hl 4 rfl) ?_
  refine lv_iload hx hb dL_law_1468 (lv_at hl 0 rfl) ?_
  refine lv_iconst (v := 1) hx hb dL_law_1470 (by decide +kernel) ?_
  refine lv_iadd hx hb dL_law_1471 ?_
  refine zt_i (v := 1) (by decide +kernel) ?_
  refine va_sld hx hb hX hbl hbA hS (i := 1) (zin (by decide +kernel)) dL_law_1472 ?_
  refine zt_v (w := .int (xs 1)) rfl ?_
  refine lv_aload_n hx hb dL_law_1473 rfl (lv_at hl 1 rfl) ?_
  have hPc := hP.sub (ws' := [(q0, .inr (13, [.ref q1, .ref q3, .ref q5, .ref q7, .ref q9, .ref q11, .ref q13, .ref q15, .int 0, .ref q17, .ref q21, .ref q25, .ref q26, .ref q27])), (q17, .inr (9, [.ref q18, .ref q18, .null]))]) [0, 9] rfl
  have hDc := hD.sub (ws' := [(q0, .inr (13, [.ref q1, .ref q3, .ref q5, .ref q7, .ref q9, .ref q11, .ref q13, .ref q15, .int 0, .ref q17, .ref q21, .ref q25, .ref q26, .ref q27])), (q17, .inr (9, [.ref q18, .ref q18, .null]))]) [0, 9] (by decide) rfl
  have hKc := hK.sub (tys' := []) [] rfl
  have hFc := va_free (wc := [(q0, .inr (13, [.ref q1, .ref q3, .ref q5, .ref q7, .ref q9, .ref q11, .ref q13, .ref q15, .int 0, .ref q17, .ref q21, .ref q25, .ref q26, .ref q27])), (q17, .inr (9, [.ref q18, .ref q18, .null]))]) hD hS hA [0, 9] rfl
  refine va_calli (vx_runSW (As := [.ref q0, .int (xs 1), .ref q106]) (rest := []) ⟨hx, hb, hml, hown, hts⟩ (c_L_fits l hfl dC dI q0 q106 q1 q3 q5 q7 q9 q11 q13 q15 q17 q21 q25 q26 q27 q18 H.size (xs 1) ) (vx_cwSW 3 hts gL_law_L_fits rfl rfl rfl (by decide +kernel) ⟨Nat.le_of_ble_eq_true rfl, Nat.le_of_ble_eq_true rfl⟩) ⟨zB_blind, (zPre hPc hDc hKc hS hFc hZ hN)⟩ rfl rfl hl.1 rfl (lv_room (Nat.le_of_ble_eq_true rfl)) dL_law_1474 ⟨Nat.le_of_ble_eq_true rfl, Nat.le_of_ble_eq_true rfl⟩) hS (fun q _ h => hFc q h) hFc (fun r u t H1 locs ht hvm hw hB hz1 hk1 hS => ?_)
  subst hw
  obtain ⟨hP1, hK1, hD1⟩ := hB
  rw [ht] at hP1
  have hK1 := va_K.moved hvm.symm hK1
  obtain ⟨hP, hD⟩ := va_join (wr := [(q86, .inr (15, [.ref q87, .ref q88, .ref q89, .ref q90, .ref q91, .ref q92, .int 0, .int 1, .ref q93, .int 0, .ref q94, .null, .ref q95, .null, .ref q96, .ref q97, .ref q98, .ref q99, .ref q100, .int 0, .ref q101, .ref q102, .ref q103, .ref q104, .ref q105, .int 0, .int 0]))]) (w1 := []) hP hD [0, 9] [13] rfl rfl (by decide) (by decide) hk1 hFc hP1 hD1
  have hK := (hK.sub (tys' := []) [] rfl).app hK1
  generalize H1 = H at hP hS ⊢
  have hP : va_P (dC, dI) vwCl [(q86, .inr (15, [.ref q87, .ref q88, .ref q89, .ref q90, .ref q91, .ref q92, .int 0, .int 1, .ref q93, .int 0, .ref q94, .null, .ref q95, .null, .ref q96, .ref q97, .ref q98, .ref q99, .ref q100, .int 0, .ref q101, .ref q102, .ref q103, .ref q104, .ref q105, .int 0, .int 0]))] H := hP
  have hD : va_D (fun q : Nat => s.heap.size ≤ q) [(q86, .inr (15, [.ref q87, .ref q88, .ref q89, .ref q90, .ref q91, .ref q92, .int 0, .int 1, .ref q93, .int 0, .ref q94, .null, .ref q95, .null, .ref q96, .ref q97, .ref q98, .ref q99, .ref q100, .int 0, .ref q101, .ref q102, .ref q103, .ref q104, .ref q105, .int 0, .int 0]))] := hD
  have hK : va_K (dC, dI) vwCl [] s := hK
  refine W.widen (k := 132) (n := 6698) (Nat.le_of_ble_eq_true rfl) (Nat.le_of_ble_eq_true rfl) ?_
  refine lv_istore (lv' := [(5, .int 1), (4, .int 0), (3, .ref q106), (2, .ref q86), (1, .ref q0), (0, .ref b)]) hx hb dL_law_1477 hl (by decide) rfl (fun ls hl => ?_)
  refine lv_aload_n hx hb dL_law_1479 rfl (lv_at hl 3 rfl) ?_
  refine lv_aload_n hx hb dL_law_1480 rfl (lv_at hl 5 rfl) ?_
  refine lv_iload hx hb dL_law_1481 (lv_at hl 1 rfl) ?_
  refine lv_iconst (v := 1) hx hb dL_law_1483 (by decide +kernel) ?_
  refine lv_iadd hx hb dL_law_1484 ?_
  refine zt_i (v := 1) (by decide +kernel) ?_
  refine va_sld hx hb hX hbl hbA hS (i := 1) (zin (by decide +kernel)) dL_law_1485 ?_
  refine zt_v (w := .int (xs 1)) rfl ?_
  have hPc := hP.sub (ws' := [(q86, .inr (15, [.ref q87, .ref q88, .ref q89, .ref q90, .ref q91, .ref q92, .int 0, .int 1, .ref q93, .int 0, .ref q94, .null, .ref q95, .null, .ref q96, .ref q97, .ref q98, .ref q99, .ref q100, .int 0, .ref q101, .ref q102, .ref q103, .ref q104, .ref q105, .int 0, .int 0]))]) [0] rfl
  have hDc := hD.sub (ws' := [(q86, .inr (15, [.ref q87, .ref q88, .ref q89, .ref q90, .ref q91, .ref q92, .int 0, .int 1, .ref q93, .int 0, .ref q94, .null, .ref q95, .null, .ref q96, .ref q97, .ref q98, .ref q99, .ref q100, .int 0, .ref q101, .ref q102, .ref q103, .ref q104, .ref q105, .int 0, .int 0]))]) [0] (by decide) rfl
  have hKc := hK.sub (tys' := []) [] rfl
  have hFc := va_free (wc := [(q86, .inr (15, [.ref q87, .ref q88, .ref q89, .ref q90, .ref q91, .ref q92, .int 0, .int 1, .ref q93, .int 0, .ref q94, .null, .ref q95, .null, .ref q96, .ref q97, .ref q98, .ref q99, .ref q100, .int 0, .ref q101, .ref q102, .ref q103, .ref q104, .ref q105, .int 0, .int 0]))]) hD hS hA [0] rfl
  refine va_calli (va_runV (As := [.int (xs 1)]) (rest := []) ⟨hx, hb, hml, hown, hts⟩ (c_X13_fits l dC dI q86 q87 q88 q89 q90 q91 q92 q93 q94 q95 q96 q97 q98 q99 q100 q101 q102 q103 q104 q105 H.size (xs 1) ) (cwV 1 hts gL_law_X13_fits rfl rfl rfl (by decide +kernel) ⟨Nat.le_of_ble_eq_true rfl, Nat.le_of_ble_eq_true rfl⟩) ⟨zB_blind, va_recv hK hP (ci := 15) (q0 := 0) rfl rfl, (zPre hPc hDc hKc hS hFc hZ hN)⟩ rfl rfl hl.1 rfl (lv_room (Nat.le_of_ble_eq_true rfl)) dL_law_1486 ⟨Nat.le_of_ble_eq_true rfl, Nat.le_of_ble_eq_true rfl⟩) hS (fun q _ h => hFc q h) hFc (fun r u t H1 locs ht hvm hw hB hz1 hk1 hS => ?_)
  subst hw
  obtain ⟨hP1, hK1, hD1⟩ := hB
  rw [ht] at hP1
  have hK1 := va_K.moved hvm.symm hK1
  obtain ⟨hP, hD⟩ := va_join (wr := []) (w1 := [(q86, .inr (15, [.ref q87, .ref q88, .ref q89, .ref q90, .ref q91, .ref q92, .int 0, .int 1, .ref q93, .int 0, .ref q94, .null, .ref q95, .null, .ref q96, .ref q97, .ref q98, .ref q99, .ref q100, .int 1, .ref q101, .ref q102, .ref q103, .ref q104, .ref q105, .int 0, .int 0]))]) hP hD [0] [] rfl rfl (by decide) (by decide) hk1 hFc hP1 hD1
  have hK := (hK.sub (tys' := []) [] rfl).app hK1
  generalize H1 = H at hP hS ⊢
  have hP : va_P (dC, dI) vwCl [(q86, .inr (15, [.ref q87, .ref q88, .ref q89, .ref q90, .ref q91, .ref q92, .int 0, .int 1, .ref q93, .int 0, .ref q94, .null, .ref q95, .null, .ref q96, .ref q97, .ref q98, .ref q99, .ref q100, .int 1, .ref q101, .ref q102, .ref q103, .ref q104, .ref q105, .int 0, .int 0]))] H := hP
  have hD : va_D (fun q : Nat => s.heap.size ≤ q) [(q86, .inr (15, [.ref q87, .ref q88, .ref q89, .ref q90, .ref q91, .ref q92, .int 0, .int 1, .ref q93, .int 0, .ref q94, .null, .ref q95, .null, .ref q96, .ref q97, .ref q98, .ref q99, .ref q100, .int 1, .ref q101, .ref q102, .ref q103, .ref q104, .ref q105, .int 0, .int 0]))] := hD
  have hK : va_K (dC, dI) vwCl [] s := hK
  refine W.widen (k := 132) (n := 6698) (Nat.le_of_ble_eq_true rfl) (Nat.le_of_ble_eq_true rfl) ?_
  refine lv_istore (lv' := [(6, .int 0), (5, .int 1), (4, .int 0), (3, .ref q106), (2, .ref q86), (1, .ref q0), (0, .ref b)]) hx hb dL_law_1489 hl (by decide) rfl (fun ls hl => ?_)
  refine lv_aload_n hx hb dL_law_1491 rfl (lv_at hl 4 rfl) ?_
  have hPc := hP.sub (ws' := [(q86, .inr (15, [.ref q87, .ref q88, .ref q89, .ref q90, .ref q91, .ref q92, .int 0, .int 1, .ref q93, .int 0, .ref q94, .null, .ref q95, .null, .ref q96, .ref q97, .ref q98, .ref q99, .ref q100, .int 1, .ref q101, .ref q102, .ref q103, .ref q104, .ref q105, .int 0, .int 0]))]) [0] rfl
  have hDc := hD.sub (ws' := [(q86, .inr (15, [.ref q87, .ref q88, .ref q89, .ref q90, .ref q91, .ref q92, .int 0, .int 1, .ref q93, .int 0, .ref q94, .null, .ref q95, .null, .ref q96, .ref q97, .ref q98, .ref q99, .ref q100, .int 1, .ref q101, .ref q102, .ref q103, .ref q104, .ref q105, .int 0, .int 0]))]) [0] (by decide) rfl
  have hKc := hK.sub (tys' := []) [] rfl
  have hFc := va_free (wc := [(q86, .inr (15, [.ref q87, .ref q88, .ref q89, .ref q90, .ref q91, .ref q92, .int 0, .int 1, .ref q93, .int 0, .ref q94, .null, .ref q95, .null, .ref q96, .ref q97, .ref q98, .ref q99, .ref q100, .int 1, .ref q101, .ref q102, .ref q103, .ref q104, .ref q105, .int 0, .int 0]))]) hD hS hA [0] rfl
  refine va_calli (va_runV (As := []) (rest := []) ⟨hx, hb, hml, hown, hts⟩ (c_X13_thrown l dC dI q86 q87 q88 q89 q90 q91 q92 q93 q94 q95 q96 q97 q98 q99 q100 q101 q102 q103 q104 q105 H.size  ) (cwV 0 hts gL_law_X13_thrown rfl rfl rfl (by decide +kernel) ⟨Nat.le_of_ble_eq_true rfl, Nat.le_of_ble_eq_true rfl⟩) ⟨zB_blind, va_recv hK hP (ci := 15) (q0 := 0) rfl rfl, (zPre hPc hDc hKc hS hFc hZ hN)⟩ rfl rfl hl.1 rfl (lv_room (Nat.le_of_ble_eq_true rfl)) dL_law_1492 ⟨Nat.le_of_ble_eq_true rfl, Nat.le_of_ble_eq_true rfl⟩) hS (fun q _ h => hFc q h) hFc (fun r u t H1 locs ht hvm hw hB hz1 hk1 hS => ?_)
  subst hw
  obtain ⟨hP1, hK1, hD1⟩ := hB
  rw [ht] at hP1
  have hK1 := va_K.moved hvm.symm hK1
  obtain ⟨hP, hD⟩ := va_join (wr := []) (w1 := []) hP hD [0] [] rfl rfl (by decide) (by decide) hk1 hFc hP1 hD1
  have hK := (hK.sub (tys' := []) [] rfl).app hK1
  generalize H1 = H at hP hS ⊢
  have hP : va_P (dC, dI) vwCl [] H := hP
  have hD : va_D (fun q : Nat => s.heap.size ≤ q) [] := hD
  have hK : va_K (dC, dI) vwCl [] s := hK
  refine W.widen (k := 132) (n := 6698) (Nat.le_of_ble_eq_true rfl) (Nat.le_of_ble_eq_true rfl) ?_
  refine lv_iload hx hb dL_law_1495 (lv_at hl 1 rfl) ?_
  refine lv_icmp_eq (tgt := 1502) hx hb dL_law_1497 (by decide) (fun _ => ?_) (fun h9 => absurd (show (1 : Int32) = (1 : Int32) by decide +kernel) h9)
  refine lv_iload hx hb dL_law_1502 (lv_at hl 1 rfl) ?_
  refine lv_if_ne (tgt := 1526) hx hb dL_law_1504 (by decide) (fun _ => ?_) (fun h9 => absurd h9 (show ¬ (1 : Int32) = (0 : Int32) by decide +kernel))
  refine lv_goto (tgt := 2311) hx hb dL_law_1526 (by decide) ?_
  exact law_exit C0 hS (Nat.le_of_ble_eq_true rfl) (Nat.le_of_ble_eq_true rfl) ls (lv_sub hl [2, 3, 4, 5, 6] rfl)
