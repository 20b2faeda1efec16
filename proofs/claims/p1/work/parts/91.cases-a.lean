/-! the law, call by call, written by program -/
set_option maxHeartbeats 8000000 in
set_option maxRecDepth 100000 in
theorem law_case_0 {p : Program} {l : Launch} {e : Env} {s : State} {m : MethodId} {below : List Frame} {meth : Method} {c : Code} {b : Nat} {xs : Nat → Int32} (hfl : l.stackTraces = false) (C0 : lw_At p s m meth c b 4 xs) {dC : Nat → ClassId} {dI : Nat → Nat → Nat} {q0 q1 q3 q5 q7 q9 q11 q13 q15 q17 q21 q25 q26 q27 q2 q4 q6 q8 q10 q16 q18 q22 q23 q86 q87 q88 q89 q90 q91 q92 q93 q94 q95 q96 q97 q98 q99 q100 q101 q102 q103 q104 q105 q106 : Nat} {k2 k4 k87 k88 k89 k90 k91 k92 k93 k94 k96 k106 : ClassId} {H : Heap} {locs : List Loc} (hK : va_K (dC, dI) vwCl [(k2, .char), (k4, (.object "Seekwell$Text")), (k87, .boolean), (k88, .int), (k89, .int), (k90, .char), (k91, (.array .long)), (k92, (.array .long)), (k93, .int), (k94, .int), (k96, .boolean), (k106, .long)] s) (hP : va_P (dC, dI) vwCl [(q0, .inr (13, [.ref q1, .ref q3, .ref q5, .ref q7, .ref q9, .ref q11, .ref q13, .ref q15, .int 0, .ref q17, .ref q21, .ref q25, .ref q26, .ref q27])), (q1, .inr (7, [.ref q2, .int 0])), (q2, .inl (k2, 512, .inl (fun _ => 0))), (q3, .inr (11, [.ref q4, .int 0, .int 1])), (q4, .inl (k4, 24, .inr (.inr (.inr (.inr (fun _ => none)))))), (q5, .inr (11, [.ref q6, .int 0, .int 1])), (q7, .inr (10, [.ref q8, .int 0])), (q9, .inr (5, [.ref q10, .int 0, .int 0])), (q15, .inr (5, [.ref q16, .int 0, .int 0])), (q17, .inr (9, [.ref q18, .ref q18, .null])), (q21, .inr (9, [.ref q22, .ref q22, .null])), (q22, .inr (8, [.int 0, .int 0, .int 1, .int 0, .int 0, .int 0, .ref q23, .null, .null, .null, .null, .int 0, .int 0, .int 0, .int 0, .null, .null])), (q26, .inr (3, [.null, .null, .int 0, .int 0, .null])), (q86, .inr (15, [.ref q87, .ref q88, .ref q89, .ref q90, .ref q91, .ref q92, .int 0, .int 1, .ref q93, .int 0, .ref q94, .null, .ref q95, .null, .ref q96, .ref q97, .ref q98, .ref q99, .ref q100, .int 0, .ref q101, .ref q102, .ref q103, .ref q104, .ref q105, .int 0, .int 0])), (q87, .inl (k87, 24, .inl (fun _ => 0))), (q88, .inl (k88, 24, .inl (fun _ => 0))), (q89, .inl (k89, 24, .inl (fun _ => 0))), (q90, .inl (k90, 24, .inl (fun _ => 0))), (q91, .inl (k91, 24, .inr (.inr (.inr (.inr (fun _ => none)))))), (q92, .inl (k92, 24, .inr (.inr (.inr (.inr (fun _ => none)))))), (q93, .inl (k93, 4000, .inl (fun _ => 0))), (q94, .inl (k94, 0, .inl (fun _ => 0))), (q96, .inl (k96, 24, .inl (fun _ => 0))), (q106, .inl (k106, 1, .inr (.inl (fun _ => 0))))] H) (hD : va_D (fun q : Nat => s.heap.size ≤ q) [(q0, .inr (13, [.ref q1, .ref q3, .ref q5, .ref q7, .ref q9, .ref q11, .ref q13, .ref q15, .int 0, .ref q17, .ref q21, .ref q25, .ref q26, .ref q27])), (q1, .inr (7, [.ref q2, .int 0])), (q2, .inl (k2, 512, .inl (fun _ => 0))), (q3, .inr (11, [.ref q4, .int 0, .int 1])), (q4, .inl (k4, 24, .inr (.inr (.inr (.inr (fun _ => none)))))), (q5, .inr (11, [.ref q6, .int 0, .int 1])), (q7, .inr (10, [.ref q8, .int 0])), (q9, .inr (5, [.ref q10, .int 0, .int 0])), (q15, .inr (5, [.ref q16, .int 0, .int 0])), (q17, .inr (9, [.ref q18, .ref q18, .null])), (q21, .inr (9, [.ref q22, .ref q22, .null])), (q22, .inr (8, [.int 0, .int 0, .int 1, .int 0, .int 0, .int 0, .ref q23, .null, .null, .null, .null, .int 0, .int 0, .int 0, .int 0, .null, .null])), (q26, .inr (3, [.null, .null, .int 0, .int 0, .null])), (q86, .inr (15, [.ref q87, .ref q88, .ref q89, .ref q90, .ref q91, .ref q92, .int 0, .int 1, .ref q93, .int 0, .ref q94, .null, .ref q95, .null, .ref q96, .ref q97, .ref q98, .ref q99, .ref q100, .int 0, .ref q101, .ref q102, .ref q103, .ref q104, .ref q105, .int 0, .int 0])), (q87, .inl (k87, 24, .inl (fun _ => 0))), (q88, .inl (k88, 24, .inl (fun _ => 0))), (q89, .inl (k89, 24, .inl (fun _ => 0))), (q90, .inl (k90, 24, .inl (fun _ => 0))), (q91, .inl (k91, 24, .inr (.inr (.inr (.inr (fun _ => none)))))), (q92, .inl (k92, 24, .inr (.inr (.inr (.inr (fun _ => none)))))), (q93, .inl (k93, 4000, .inl (fun _ => 0))), (q94, .inl (k94, 0, .inl (fun _ => 0))), (q96, .inl (k96, 24, .inl (fun _ => 0))), (q106, .inl (k106, 1, .inr (.inl (fun _ => 0))))]) (hS : va_S (fun q : Nat => s.heap.size ≤ q) s.heap H locs) (hZ : zZ (fun q : Nat => s.heap.size ≤ q) s s.heap) (hN : zN s) (ls : Array Slot) (hl : lv_has ls 7 [(4, .int 0), (3, .ref q106), (2, .ref q86), (1, .ref q0), (0, .ref b)]) : W p l e room_1 s m #[Value.ref b] below meth c H locs 131 6692 (lw_Z below #[Value.ref b] s) (F0 m 228 ls []) := by
  obtain ⟨hx, hb, hr, hml, hown, hts, hX, hbl, hlocks, hgv⟩ := id C0
  have hbA : ¬ (fun q : Nat => s.heap.size ≤ q) b := Nat.not_le.mpr hbl
  have hA : ∀ q : Nat, s.heap.size ≤ q → (fun q : Nat => s.heap.size ≤ q) q := fun _ h => h
  by_cases hb0 : (zc (xs 1)) < (32 : Int32)
  · skip
    have hc0 : (zc (xs 1)) < (32 : Int32) := hb0
    refine lv_aload_n hx hb dL_law_228 rfl (lv_at hl 3 rfl) ?_
    refine lv_aload_n hx hb dL_law_229 rfl (lv_at hl 4 rfl) ?_
    refine lv_iload hx hb dL_law_230 (lv_at hl 0 rfl) ?_
    refine lv_iconst (v := 1) hx hb dL_law_232 (by decide +kernel) ?_
    refine lv_iadd hx hb dL_law_233 ?_
    refine zt_i (v := 1) (by decide +kernel) ?_
    refine va_sld hx hb hX hbl hbA hS (i := 1) (zin (by decide +kernel)) dL_law_234 ?_
    refine zt_v (w := .int (xs 1)) rfl ?_
    refine lv_i2c (v := (zc (xs 1))) hx hb dL_law_235 rfl ?_
    refine lv_aload_n hx hb dL_law_236 rfl (lv_at hl 1 rfl) ?_
    have hPc := hP.sub (ws' := [(q0, .inr (13, [.ref q1, .ref q3, .ref q5, .ref q7, .ref q9, .ref q11, .ref q13, .ref q15, .int 0, .ref q17, .ref q21, .ref q25, .ref q26, .ref q27]))]) [0] rfl
    have hDc := hD.sub (ws' := [(q0, .inr (13, [.ref q1, .ref q3, .ref q5, .ref q7, .ref q9, .ref q11, .ref q13, .ref q15, .int 0, .ref q17, .ref q21, .ref q25, .ref q26, .ref q27]))]) [0] (by decide) rfl
    have hKc := hK.sub (tys' := []) [] rfl
    have hFc := va_free (wc := [(q0, .inr (13, [.ref q1, .ref q3, .ref q5, .ref q7, .ref q9, .ref q11, .ref q13, .ref q15, .int 0, .ref q17, .ref q21, .ref q25, .ref q26, .ref q27]))]) hD hS hA [0] rfl
    refine va_calli (vx_runSW (As := [.ref q0, .int (zc (xs 1)), .ref q106]) (rest := []) ⟨hx, hb, hml, hown, hts⟩ (c_L_type l hfl dC dI q0 q106 q1 q3 q5 q7 q9 q11 q13 q15 q17 q21 q25 q26 q27 H.size (zc (xs 1)) hc0) (vx_cwSW 3 hts gL_law_L_type rfl rfl rfl (by decide +kernel) ⟨Nat.le_of_ble_eq_true rfl, Nat.le_of_ble_eq_true rfl⟩) ⟨zB_blind, (zPre hPc hDc hKc hS hFc hZ hN)⟩ rfl rfl hl.1 rfl (lv_room (Nat.le_of_ble_eq_true rfl)) dL_law_237 ⟨Nat.le_of_ble_eq_true rfl, Nat.le_of_ble_eq_true rfl⟩) hS (fun q _ h => hFc q h) hFc (fun r u t H1 locs ht hvm hw hB hz1 hk1 hS => ?_)
    subst hw
    obtain ⟨hP1, hK1, hD1⟩ := hB
    rw [ht] at hP1
    have hK1 := va_K.moved hvm.symm hK1
    obtain ⟨hP, hD⟩ := va_join (wr := [(q86, .inr (15, [.ref q87, .ref q88, .ref q89, .ref q90, .ref q91, .ref q92, .int 0, .int 1, .ref q93, .int 0, .ref q94, .null, .ref q95, .null, .ref q96, .ref q97, .ref q98, .ref q99, .ref q100, .int 0, .ref q101, .ref q102, .ref q103, .ref q104, .ref q105, .int 0, .int 0]))]) (w1 := []) hP hD [0] [13] rfl rfl (by decide) (by decide) hk1 hFc hP1 hD1
    have hK := (hK.sub (tys' := []) [] rfl).app hK1
    generalize H1 = H at hP hS ⊢
    have hP : va_P (dC, dI) vwCl [(q86, .inr (15, [.ref q87, .ref q88, .ref q89, .ref q90, .ref q91, .ref q92, .int 0, .int 1, .ref q93, .int 0, .ref q94, .null, .ref q95, .null, .ref q96, .ref q97, .ref q98, .ref q99, .ref q100, .int 0, .ref q101, .ref q102, .ref q103, .ref q104, .ref q105, .int 0, .int 0]))] H := hP
    have hD : va_D (fun q : Nat => s.heap.size ≤ q) [(q86, .inr (15, [.ref q87, .ref q88, .ref q89, .ref q90, .ref q91, .ref q92, .int 0, .int 1, .ref q93, .int 0, .ref q94, .null, .ref q95, .null, .ref q96, .ref q97, .ref q98, .ref q99, .ref q100, .int 0, .ref q101, .ref q102, .ref q103, .ref q104, .ref q105, .int 0, .int 0]))] := hD
    have hK : va_K (dC, dI) vwCl [] s := hK
    refine W.widen (k := 132) (n := 6698) (Nat.le_of_ble_eq_true rfl) (Nat.le_of_ble_eq_true rfl) ?_
    refine lv_istore (lv' := [(5, .int 1), (4, .int 0), (3, .ref q106), (2, .ref q86), (1, .ref q0), (0, .ref b)]) hx hb dL_law_240 hl (by decide) rfl (fun ls hl => ?_)
    refine lv_aload_n hx hb dL_law_242 rfl (lv_at hl 3 rfl) ?_
    refine lv_aload_n hx hb dL_law_243 rfl (lv_at hl 5 rfl) ?_
    refine lv_iload hx hb dL_law_244 (lv_at hl 1 rfl) ?_
    refine lv_iconst (v := 1) hx hb dL_law_246 (by decide +kernel) ?_
    refine lv_iadd hx hb dL_law_247 ?_
    refine zt_i (v := 1) (by decide +kernel) ?_
    refine va_sld hx hb hX hbl hbA hS (i := 1) (zin (by decide +kernel)) dL_law_248 ?_
    refine zt_v (w := .int (xs 1)) rfl ?_
    refine lv_i2c (v := (zc (xs 1))) hx hb dL_law_249 rfl ?_
    have hPc := hP.sub (ws' := [(q86, .inr (15, [.ref q87, .ref q88, .ref q89, .ref q90, .ref q91, .ref q92, .int 0, .int 1, .ref q93, .int 0, .ref q94, .null, .ref q95, .null, .ref q96, .ref q97, .ref q98, .ref q99, .ref q100, .int 0, .ref q101, .ref q102, .ref q103, .ref q104, .ref q105, .int 0, .int 0]))]) [0] rfl
    have hDc := hD.sub (ws' := [(q86, .inr (15, [.ref q87, .ref q88, .ref q89, .ref q90, .ref q91, .ref q92, .int 0, .int 1, .ref q93, .int 0, .ref q94, .null, .ref q95, .null, .ref q96, .ref q97, .ref q98, .ref q99, .ref q100, .int 0, .ref q101, .ref q102, .ref q103, .ref q104, .ref q105, .int 0, .int 0]))]) [0] (by decide) rfl
    have hKc := hK.sub (tys' := []) [] rfl
    have hFc := va_free (wc := [(q86, .inr (15, [.ref q87, .ref q88, .ref q89, .ref q90, .ref q91, .ref q92, .int 0, .int 1, .ref q93, .int 0, .ref q94, .null, .ref q95, .null, .ref q96, .ref q97, .ref q98, .ref q99, .ref q100, .int 0, .ref q101, .ref q102, .ref q103, .ref q104, .ref q105, .int 0, .int 0]))]) hD hS hA [0] rfl
    refine va_calli (va_runV (As := [.int (zc (xs 1))]) (rest := []) ⟨hx, hb, hml, hown, hts⟩ (c_X13_type l dC dI q86 q87 q88 q89 q90 q91 q92 q93 q94 q95 q96 q97 q98 q99 q100 q101 q102 q103 q104 q105 H.size (zc (xs 1)) hc0) (cwV 1 hts gL_law_X13_type rfl rfl rfl (by decide +kernel) ⟨Nat.le_of_ble_eq_true rfl, Nat.le_of_ble_eq_true rfl⟩) ⟨zB_blind, va_recv hK hP (ci := 15) (q0 := 0) rfl rfl, (zPre hPc hDc hKc hS hFc hZ hN)⟩ rfl rfl hl.1 rfl (lv_room (Nat.le_of_ble_eq_true rfl)) dL_law_250 ⟨Nat.le_of_ble_eq_true rfl, Nat.le_of_ble_eq_true rfl⟩) hS (fun q _ h => hFc q h) hFc (fun r u t H1 locs ht hvm hw hB hz1 hk1 hS => ?_)
    subst hw
    obtain ⟨hP1, hK1, hD1⟩ := hB
    rw [ht] at hP1
    have hK1 := va_K.moved hvm.symm hK1
    obtain ⟨hP, hD⟩ := va_join (wr := []) (w1 := [(q86, .inr (15, [.ref q87, .ref q88, .ref q89, .ref q90, .ref q91, .ref q92, .int 0, .int 1, .ref q93, .int 0, .ref q94, .null, .ref q95, .null, .ref q96, .ref q97, .ref q98, .ref q99, .ref q100, .int 1, .ref q101, .ref q102, .ref q103, .ref q104, .ref q105, .int 0, .int 0]))]) hP hD [0] [] rfl rfl (by decide) (by decide) hk1 hFc hP1 hD1
    have hK := (hK.sub (tys' := []) [] rfl).app hK1
    generalize H1 = H at hP hS ⊢
    have hP : va_P (dC, dI) vwCl [(q86, .inr (15, [.ref q87, .ref q88, .ref q89, .ref q90, .ref q91, .ref q92, .int 0, .int 1, .ref q93, .int 0, .ref q94, .null, .ref q95, .null, .ref q96, .ref q97, .ref q98, .ref q99, .ref q100, .int 1, .ref q101, .ref q102, .ref q103, .ref q104, .ref q105, .int 0, .int 0]))] H := hP
    have hD : va_D (fun q : Nat => s.heap.size ≤ q) [(q86, .inr (15, [.ref q87, .ref q88, .ref q89, .ref q90, .ref q91, .ref q92, .int 0, .int 1, .ref q93, .int 0, .ref q94, .null, .ref q95, .null, .ref q96, .ref q97, .ref q98, .ref q99, .ref q100, .int 1, .ref q101, .ref q102, .ref q103, .ref q104, .ref q105, .int 0, .int 0]))] := hD
    have hK : va_K (dC, dI) vwCl [] s := hK
    refine W.widen (k := 132) (n := 6698) (Nat.le_of_ble_eq_true rfl) (Nat.le_of_ble_eq_true rfl) ?_
    refine lv_istore (lv' := [(6, .int 0), (5, .int 1), (4, .int 0), (3, .ref q106), (2, .ref q86), (1, .ref q0), (0, .ref b)]) hx hb dL_law_253 hl (by decide) rfl (fun ls hl => ?_)
    refine lv_aload_n hx hb dL_law_255 rfl (lv_at hl 4 rfl) ?_
    have hPc := hP.sub (ws' := [(q86, .inr (15, [.ref q87, .ref q88, .ref q89, .ref q90, .ref q91, .ref q92, .int 0, .int 1, .ref q93, .int 0, .ref q94, .null, .ref q95, .null, .ref q96, .ref q97, .ref q98, .ref q99, .ref q100, .int 1, .ref q101, .ref q102, .ref q103, .ref q104, .ref q105, .int 0, .int 0]))]) [0] rfl
    have hDc := hD.sub (ws' := [(q86, .inr (15, [.ref q87, .ref q88, .ref q89, .ref q90, .ref q91, .ref q92, .int 0, .int 1, .ref q93, .int 0, .ref q94, .null, .ref q95, .null, .ref q96, .ref q97, .ref q98, .ref q99, .ref q100, .int 1, .ref q101, .ref q102, .ref q103, .ref q104, .ref q105, .int 0, .int 0]))]) [0] (by decide) rfl
    have hKc := hK.sub (tys' := []) [] rfl
    have hFc := va_free (wc := [(q86, .inr (15, [.ref q87, .ref q88, .ref q89, .ref q90, .ref q91, .ref q92, .int 0, .int 1, .ref q93, .int 0, .ref q94, .null, .ref q95, .null, .ref q96, .ref q97, .ref q98, .ref q99, .ref q100, .int 1, .ref q101, .ref q102, .ref q103, .ref q104, .ref q105, .int 0, .int 0]))]) hD hS hA [0] rfl
    refine va_calli (va_runV (As := []) (rest := []) ⟨hx, hb, hml, hown, hts⟩ (c_X13_thrown l dC dI q86 q87 q88 q89 q90 q91 q92 q93 q94 q95 q96 q97 q98 q99 q100 q101 q102 q103 q104 q105 H.size  ) (cwV 0 hts gL_law_X13_thrown rfl rfl rfl (by decide +kernel) ⟨Nat.le_of_ble_eq_true rfl, Nat.le_of_ble_eq_true rfl⟩) ⟨zB_blind, va_recv hK hP (ci := 15) (q0 := 0) rfl rfl, (zPre hPc hDc hKc hS hFc hZ hN)⟩ rfl rfl hl.1 rfl (lv_room (Nat.le_of_ble_eq_true rfl)) dL_law_256 ⟨Nat.le_of_ble_eq_true rfl, Nat.le_of_ble_eq_true rfl⟩) hS (fun q _ h => hFc q h) hFc (fun r u t H1 locs ht hvm hw hB hz1 hk1 hS => ?_)
    subst hw
    obtain ⟨hP1, hK1, hD1⟩ := hB
    rw [ht] at hP1
    have hK1 := va_K.moved hvm.symm hK1
    obtain ⟨hP, hD⟩ := va_join (wr := []) (w1 := []) hP hD [0] [] rfl rfl (by decide) (by decide) hk1 hFc hP1 hD1
    have hK := (hK.sub (tys' := []) [] rfl).app hK1
    generalize H1 = H at hP hS ⊢
    have hP : va_P (dC, dI) vwCl [] H := hP
    have hD : va_D (fun q : Nat => s.heap.size ≤ q) [] := hD
    have hK : va_K (dC, dI) vwCl [] s := hK
    refine W.widen (k := 132) (n := 6698) (Nat.le_of_ble_eq_true rfl) (Nat.le_of_ble_eq_true rfl) ?_
    refine lv_iload hx hb dL_law_259 (lv_at hl 1 rfl) ?_
    refine lv_icmp_eq (tgt := 266) hx hb dL_law_261 (by decide) (fun _ => ?_) (fun h9 => absurd (show (1 : Int32) = (1 : Int32) by decide +kernel) h9)
    refine lv_iload hx hb dL_law_266 (lv_at hl 1 rfl) ?_
    refine lv_if_ne (tgt := 283) hx hb dL_law_268 (by decide) (fun _ => ?_) (fun h9 => absurd h9 (show ¬ (1 : Int32) = (0 : Int32) by decide +kernel))
    refine lv_goto (tgt := 2311) hx hb dL_law_283 (by decide) ?_
    exact law_exit C0 hS (Nat.le_of_ble_eq_true rfl) (Nat.le_of_ble_eq_true rfl) ls (lv_sub hl [2, 3, 4, 5, 6] rfl)
  · skip
    by_cases hb1 : (zc (xs 1)) ≤ (126 : Int32)
    · skip
      have hc0 : ¬ (zc (xs 1)) < (32 : Int32) := hb0
      have hc1 : (zc (xs 1)) ≤ (126 : Int32) := hb1
      have hc2 : ¬ (126 : Int32) < (zc (xs 1)) := zd_1 hb0 hb1
      refine lv_aload_n hx hb dL_law_228 rfl (lv_at hl 3 rfl) ?_
      refine lv_aload_n hx hb dL_law_229 rfl (lv_at hl 4 rfl) ?_
      refine lv_iload hx hb dL_law_230 (lv_at hl 0 rfl) ?_
      refine lv_iconst (v := 1) hx hb dL_law_232 (by decide +kernel) ?_
      refine lv_iadd hx hb dL_law_233 ?_
      refine zt_i (v := 1) (by decide +kernel) ?_
      refine va_sld hx hb hX hbl hbA hS (i := 1) (zin (by decide +kernel)) dL_law_234 ?_
      refine zt_v (w := .int (xs 1)) rfl ?_
      refine lv_i2c (v := (zc (xs 1))) hx hb dL_law_235 rfl ?_
      refine lv_aload_n hx hb dL_law_236 rfl (lv_at hl 1 rfl) ?_
      have hPc := hP.sub (ws' := [(q0, .inr (13, [.ref q1, .ref q3, .ref q5, .ref q7, .ref q9, .ref q11, .ref q13, .ref q15, .int 0, .ref q17, .ref q21, .ref q25, .ref q26, .ref q27])), (q1, .inr (7, [.ref q2, .int 0])), (q2, .inl (k2, 512, .inl (fun _ => 0))), (q106, .inl (k106, 1, .inr (.inl (fun _ => 0))))]) [0, 1, 2, 23] rfl
      have hDc := hD.sub (ws' := [(q0, .inr (13, [.ref q1, .ref q3, .ref q5, .ref q7, .ref q9, .ref q11, .ref q13, .ref q15, .int 0, .ref q17, .ref q21, .ref q25, .ref q26, .ref q27])), (q1, .inr (7, [.ref q2, .int 0])), (q2, .inl (k2, 512, .inl (fun _ => 0))), (q106, .inl (k106, 1, .inr (.inl (fun _ => 0))))]) [0, 1, 2, 23] (by decide) rfl
      have hKc := hK.sub (tys' := [(k2, .char), (k106, .long)]) [0, 11] rfl
      have hFc := va_free (wc := [(q0, .inr (13, [.ref q1, .ref q3, .ref q5, .ref q7, .ref q9, .ref q11, .ref q13, .ref q15, .int 0, .ref q17, .ref q21, .ref q25, .ref q26, .ref q27])), (q1, .inr (7, [.ref q2, .int 0])), (q2, .inl (k2, 512, .inl (fun _ => 0))), (q106, .inl (k106, 1, .inr (.inl (fun _ => 0))))]) hD hS hA [0, 1, 2, 23] rfl
      refine va_calli (vx_runSW (As := [.ref q0, .int (zc (xs 1)), .ref q106]) (rest := []) ⟨hx, hb, hml, hown, hts⟩ (c_L_type_2 l dC dI q0 q106 q1 q3 q5 q7 q9 q11 q13 q15 q17 q21 q25 q26 q27 q2 k2 k106 H.size (zc (xs 1)) hc0 hc1) (vx_cwSW 3 hts gL_law_L_type rfl rfl rfl (by decide +kernel) ⟨Nat.le_of_ble_eq_true rfl, Nat.le_of_ble_eq_true rfl⟩) ⟨zB_blind, (zPre hPc hDc hKc hS hFc hZ hN)⟩ rfl rfl hl.1 rfl (lv_room (Nat.le_of_ble_eq_true rfl)) dL_law_237 ⟨Nat.le_of_ble_eq_true rfl, Nat.le_of_ble_eq_true rfl⟩) hS (fun q _ h => hFc q h) hFc (fun r u t H1 locs ht hvm hw hB hz1 hk1 hS => ?_)
      subst hw
      obtain ⟨hP1, hK1, hD1⟩ := hB
      rw [ht] at hP1
      have hK1 := va_K.moved hvm.symm hK1
      obtain ⟨hP, hD⟩ := va_join (wr := [(q86, .inr (15, [.ref q87, .ref q88, .ref q89, .ref q90, .ref q91, .ref q92, .int 0, .int 1, .ref q93, .int 0, .ref q94, .null, .ref q95, .null, .ref q96, .ref q97, .ref q98, .ref q99, .ref q100, .int 0, .ref q101, .ref q102, .ref q103, .ref q104, .ref q105, .int 0, .int 0])), (q93, .inl (k93, 4000, .inl (fun _ => 0)))]) (w1 := [(q106, .inl (k106, 1, .inr (.inl (vp_updL (fun _ => 0) (0 : Int32).toNatClampNeg 1))))]) hP hD [0, 1, 2, 23] [13, 20] rfl rfl (by decide) (by decide) hk1 hFc hP1 hD1
      have hK := (hK.sub (tys' := [(k93, .int)]) [8] rfl).app hK1
      generalize H1 = H at hP hS ⊢
      have hP : va_P (dC, dI) vwCl [(q86, .inr (15, [.ref q87, .ref q88, .ref q89, .ref q90, .ref q91, .ref q92, .int 0, .int 1, .ref q93, .int 0, .ref q94, .null, .ref q95, .null, .ref q96, .ref q97, .ref q98, .ref q99, .ref q100, .int 0, .ref q101, .ref q102, .ref q103, .ref q104, .ref q105, .int 0, .int 0])), (q93, .inl (k93, 4000, .inl (fun _ => 0))), (q106, .inl (k106, 1, .inr (.inl (vp_updL (fun _ => 0) (0 : Int32).toNatClampNeg 1))))] H := hP
      have hD : va_D (fun q : Nat => s.heap.size ≤ q) [(q86, .inr (15, [.ref q87, .ref q88, .ref q89, .ref q90, .ref q91, .ref q92, .int 0, .int 1, .ref q93, .int 0, .ref q94, .null, .ref q95, .null, .ref q96, .ref q97, .ref q98, .ref q99, .ref q100, .int 0, .ref q101, .ref q102, .ref q103, .ref q104, .ref q105, .int 0, .int 0])), (q93, .inl (k93, 4000, .inl (fun _ => 0))), (q106, .inl (k106, 1, .inr (.inl (vp_updL (fun _ => 0) (0 : Int32).toNatClampNeg 1))))] := hD
      have hK : va_K (dC, dI) vwCl [(k93, .int), (k106, .long)] s := hK
      refine W.widen (k := 131) (n := 6692) (Nat.le_of_ble_eq_true rfl) (Nat.le_of_ble_eq_true rfl) ?_
      refine lv_istore (lv' := [(5, .int 0), (4, .int 0), (3, .ref q106), (2, .ref q86), (1, .ref q0), (0, .ref b)]) hx hb dL_law_240 hl (by decide) rfl (fun ls hl => ?_)
      refine lv_aload_n hx hb dL_law_242 rfl (lv_at hl 3 rfl) ?_
      refine lv_aload_n hx hb dL_law_243 rfl (lv_at hl 5 rfl) ?_
      refine lv_iload hx hb dL_law_244 (lv_at hl 1 rfl) ?_
      refine lv_iconst (v := 1) hx hb dL_law_246 (by decide +kernel) ?_
      refine lv_iadd hx hb dL_law_247 ?_
      refine zt_i (v := 1) (by decide +kernel) ?_
      refine va_sld hx hb hX hbl hbA hS (i := 1) (zin (by decide +kernel)) dL_law_248 ?_
      refine zt_v (w := .int (xs 1)) rfl ?_
      refine lv_i2c (v := (zc (xs 1))) hx hb dL_law_249 rfl ?_
      have hPc := hP.sub (ws' := [(q86, .inr (15, [.ref q87, .ref q88, .ref q89, .ref q90, .ref q91, .ref q92, .int 0, .int 1, .ref q93, .int 0, .ref q94, .null, .ref q95, .null, .ref q96, .ref q97, .ref q98, .ref q99, .ref q100, .int 0, .ref q101, .ref q102, .ref q103, .ref q104, .ref q105, .int 0, .int 0])), (q93, .inl (k93, 4000, .inl (fun _ => 0)))]) [0, 1] rfl
      have hDc := hD.sub (ws' := [(q86, .inr (15, [.ref q87, .ref q88, .ref q89, .ref q90, .ref q91, .ref q92, .int 0, .int 1, .ref q93, .int 0, .ref q94, .null, .ref q95, .null, .ref q96, .ref q97, .ref q98, .ref q99, .ref q100, .int 0, .ref q101, .ref q102, .ref q103, .ref q104, .ref q105, .int 0, .int 0])), (q93, .inl (k93, 4000, .inl (fun _ => 0)))]) [0, 1] (by decide) rfl
      have hKc := hK.sub (tys' := [(k93, .int)]) [0] rfl
      have hFc := va_free (wc := [(q86, .inr (15, [.ref q87, .ref q88, .ref q89, .ref q90, .ref q91, .ref q92, .int 0, .int 1, .ref q93, .int 0, .ref q94, .null, .ref q95, .null, .ref q96, .ref q97, .ref q98, .ref q99, .ref q100, .int 0, .ref q101, .ref q102, .ref q103, .ref q104, .ref q105, .int 0, .int 0])), (q93, .inl (k93, 4000, .inl (fun _ => 0)))]) hD hS hA [0, 1] rfl
      refine va_calli (va_runV (As := [.int (zc (xs 1))]) (rest := []) ⟨hx, hb, hml, hown, hts⟩ (c_X13_type_2 l dC dI q86 q87 q88 q89 q90 q91 q92 q93 q94 q95 q96 q97 q98 q99 q100 q101 q102 q103 q104 q105 k93 H.size (zc (xs 1)) hc0 hc2) (cwV 1 hts gL_law_X13_type rfl rfl rfl (by decide +kernel) ⟨Nat.le_of_ble_eq_true rfl, Nat.le_of_ble_eq_true rfl⟩) ⟨zB_blind, va_recv hK hP (ci := 15) (q0 := 0) rfl rfl, (zPre hPc hDc hKc hS hFc hZ hN)⟩ rfl rfl hl.1 rfl (lv_room (Nat.le_of_ble_eq_true rfl)) dL_law_250 ⟨Nat.le_of_ble_eq_true rfl, Nat.le_of_ble_eq_true rfl⟩) hS (fun q _ h => hFc q h) hFc (fun r u t H1 locs ht hvm hw hB hz1 hk1 hS => ?_)
      subst hw
      obtain ⟨hP1, hK1, hD1⟩ := hB
      rw [ht] at hP1
      have hK1 := va_K.moved hvm.symm hK1
      obtain ⟨hP, hD⟩ := va_join (wr := [(q106, .inl (k106, 1, .inr (.inl (vp_updL (fun _ => 0) (0 : Int32).toNatClampNeg 1))))]) (w1 := [(q86, .inr (15, [.ref q87, .ref q88, .ref q89, .ref q90, .ref q91, .ref q92, .int 0, .int 1, .ref q93, .int 1, .ref q94, .null, .ref q95, .null, .ref q96, .ref q97, .ref q98, .ref q99, .ref q100, .int 0, .ref q101, .ref q102, .ref q103, .ref q104, .ref q105, .int 0, .int 0]))]) hP hD [0, 1] [2] rfl rfl (by decide) (by decide) hk1 hFc hP1 hD1
      have hK := (hK.sub (tys' := [(k106, .long)]) [1] rfl).app hK1
      generalize H1 = H at hP hS ⊢
      have hP : va_P (dC, dI) vwCl [(q106, .inl (k106, 1, .inr (.inl (vp_updL (fun _ => 0) (0 : Int32).toNatClampNeg 1)))), (q86, .inr (15, [.ref q87, .ref q88, .ref q89, .ref q90, .ref q91, .ref q92, .int 0, .int 1, .ref q93, .int 1, .ref q94, .null, .ref q95, .null, .ref q96, .ref q97, .ref q98, .ref q99, .ref q100, .int 0, .ref q101, .ref q102, .ref q103, .ref q104, .ref q105, .int 0, .int 0]))] H := hP
      have hD : va_D (fun q : Nat => s.heap.size ≤ q) [(q106, .inl (k106, 1, .inr (.inl (vp_updL (fun _ => 0) (0 : Int32).toNatClampNeg 1)))), (q86, .inr (15, [.ref q87, .ref q88, .ref q89, .ref q90, .ref q91, .ref q92, .int 0, .int 1, .ref q93, .int 1, .ref q94, .null, .ref q95, .null, .ref q96, .ref q97, .ref q98, .ref q99, .ref q100, .int 0, .ref q101, .ref q102, .ref q103, .ref q104, .ref q105, .int 0, .int 0]))] := hD
      have hK : va_K (dC, dI) vwCl [(k106, .long)] s := hK
      refine W.widen (k := 131) (n := 6692) (Nat.le_of_ble_eq_true rfl) (Nat.le_of_ble_eq_true rfl) ?_
      refine lv_istore (lv' := [(6, .int 1), (5, .int 0), (4, .int 0), (3, .ref q106), (2, .ref q86), (1, .ref q0), (0, .ref b)]) hx hb dL_law_253 hl (by decide) rfl (fun ls hl => ?_)
      refine lv_aload_n hx hb dL_law_255 rfl (lv_at hl 4 rfl) ?_
      have hPc := hP.sub (ws' := [(q86, .inr (15, [.ref q87, .ref q88, .ref q89, .ref q90, .ref q91, .ref q92, .int 0, .int 1, .ref q93, .int 1, .ref q94, .null, .ref q95, .null, .ref q96, .ref q97, .ref q98, .ref q99, .ref q100, .int 0, .ref q101, .ref q102, .ref q103, .ref q104, .ref q105, .int 0, .int 0]))]) [1] rfl
      have hDc := hD.sub (ws' := [(q86, .inr (15, [.ref q87, .ref q88, .ref q89, .ref q90, .ref q91, .ref q92, .int 0, .int 1, .ref q93, .int 1, .ref q94, .null, .ref q95, .null, .ref q96, .ref q97, .ref q98, .ref q99, .ref q100, .int 0, .ref q101, .ref q102, .ref q103, .ref q104, .ref q105, .int 0, .int 0]))]) [1] (by decide) rfl
      have hKc := hK.sub (tys' := []) [] rfl
      have hFc := va_free (wc := [(q86, .inr (15, [.ref q87, .ref q88, .ref q89, .ref q90, .ref q91, .ref q92, .int 0, .int 1, .ref q93, .int 1, .ref q94, .null, .ref q95, .null, .ref q96, .ref q97, .ref q98, .ref q99, .ref q100, .int 0, .ref q101, .ref q102, .ref q103, .ref q104, .ref q105, .int 0, .int 0]))]) hD hS hA [1] rfl
      refine va_calli (va_runV (As := []) (rest := []) ⟨hx, hb, hml, hown, hts⟩ (c_X13_thrown_2 l dC dI q86 q87 q88 q89 q90 q91 q92 q93 q94 q95 q96 q97 q98 q99 q100 q101 q102 q103 q104 q105 H.size  ) (cwV 0 hts gL_law_X13_thrown rfl rfl rfl (by decide +kernel) ⟨Nat.le_of_ble_eq_true rfl, Nat.le_of_ble_eq_true rfl⟩) ⟨zB_blind, va_recv hK hP (ci := 15) (q0 := 1) rfl rfl, (zPre hPc hDc hKc hS hFc hZ hN)⟩ rfl rfl hl.1 rfl (lv_room (Nat.le_of_ble_eq_true rfl)) dL_law_256 ⟨Nat.le_of_ble_eq_true rfl, Nat.le_of_ble_eq_true rfl⟩) hS (fun q _ h => hFc q h) hFc (fun r u t H1 locs ht hvm hw hB hz1 hk1 hS => ?_)
      subst hw
      obtain ⟨hP1, hK1, hD1⟩ := hB
      rw [ht] at hP1
      have hK1 := va_K.moved hvm.symm hK1
      obtain ⟨hP, hD⟩ := va_join (wr := [(q106, .inl (k106, 1, .inr (.inl (vp_updL (fun _ => 0) (0 : Int32).toNatClampNeg 1))))]) (w1 := []) hP hD [1] [0] rfl rfl (by decide) (by decide) hk1 hFc hP1 hD1
      have hK := (hK.sub (tys' := [(k106, .long)]) [0] rfl).app hK1
      generalize H1 = H at hP hS ⊢
      have hP : va_P (dC, dI) vwCl [(q106, .inl (k106, 1, .inr (.inl (vp_updL (fun _ => 0) (0 : Int32).toNatClampNeg 1))))] H := hP
      have hD : va_D (fun q : Nat => s.heap.size ≤ q) [(q106, .inl (k106, 1, .inr (.inl (vp_updL (fun _ => 0) (0 : Int32).toNatClampNeg 1))))] := hD
      have hK : va_K (dC, dI) vwCl [(k106, .long)] s := hK
      refine W.widen (k := 131) (n := 6692) (Nat.le_of_ble_eq_true rfl) (Nat.le_of_ble_eq_true rfl) ?_
      refine lv_iload hx hb dL_law_259 (lv_at hl 1 rfl) ?_
      refine lv_icmp_eq (tgt := 266) hx hb dL_law_261 (by decide) (fun _ => ?_) (fun h9 => absurd (show (0 : Int32) = (0 : Int32) by decide +kernel) h9)
      refine lv_iload hx hb dL_law_266 (lv_at hl 1 rfl) ?_
      refine lv_if_ne (tgt := 283) hx hb dL_law_268 (by decide) (fun h9 => absurd (show (0 : Int32) = (0 : Int32) by decide +kernel) h9) (fun _ => ?_)
      refine lv_aload_n hx hb dL_law_271 rfl (lv_at hl 3 rfl) ?_
      refine lv_iconst (v := 0) hx hb dL_law_272 (by decide +kernel) ?_
      refine va_lald (D := (dC, dI)) hx hb hK hP 0 0 rfl rfl (i := 0) (zin (by decide +kernel)) dL_law_273 ?_
      refine zt_v (w := .long 1) rfl ?_
      refine lv_iload hx hb dL_law_274 (lv_at hl 0 rfl) ?_
      refine lv_i2l (v := 1) hx hb dL_law_276 (by decide +kernel) ?_
      refine W.lcmp hx hb dL_law_277 ?_
      refine zt_i (v := 0) (by decide +kernel) ?_
      refine lv_if_eq (tgt := 283) hx hb dL_law_278 (by decide) (fun _ => ?_) (fun h9 => absurd (show (0 : Int32) = (0 : Int32) by decide +kernel) h9)
      refine lv_goto (tgt := 2311) hx hb dL_law_283 (by decide) ?_
      exact law_exit C0 hS (Nat.le_of_ble_eq_true rfl) (Nat.le_of_ble_eq_true rfl) ls (lv_sub hl [2, 3, 4, 5, 6] rfl)
    · skip
      have hc0 : ¬ (zc (xs 1)) < (32 : Int32) := hb0
      have hc1 : ¬ (zc (xs 1)) ≤ (126 : Int32) := hb1
      have hc2 : (126 : Int32) < (zc (xs 1)) := zd_2 hb0 hb1
      refine lv_aload_n hx hb dL_law_228 rfl (lv_at hl 3 rfl) ?_
      refine lv_aload_n hx hb dL_law_229 rfl (lv_at hl 4 rfl) ?_
      refine lv_iload hx hb dL_law_230 (lv_at hl 0 rfl) ?_
      refine lv_iconst (v := 1) hx hb dL_law_232 (by decide +kernel) ?_
      refine lv_iadd hx hb dL_law_233 ?_
      refine zt_i (v := 1) (by decide +kernel) ?_
      refine va_sld hx hb hX hbl hbA hS (i := 1) (zin (by decide +kernel)) dL_law_234 ?_
      refine zt_v (w := .int (xs 1)) rfl ?_
      refine lv_i2c (v := (zc (xs 1))) hx hb dL_law_235 rfl ?_
      refine lv_aload_n hx hb dL_law_236 rfl (lv_at hl 1 rfl) ?_
      have hPc := hP.sub (ws' := [(q0, .inr (13, [.ref q1, .ref q3, .ref q5, .ref q7, .ref q9, .ref q11, .ref q13, .ref q15, .int 0, .ref q17, .ref q21, .ref q25, .ref q26, .ref q27]))]) [0] rfl
      have hDc := hD.sub (ws' := [(q0, .inr (13, [.ref q1, .ref q3, .ref q5, .ref q7, .ref q9, .ref q11, .ref q13, .ref q15, .int 0, .ref q17, .ref q21, .ref q25, .ref q26, .ref q27]))]) [0] (by decide) rfl
      have hKc := hK.sub (tys' := []) [] rfl
      have hFc := va_free (wc := [(q0, .inr (13, [.ref q1, .ref q3, .ref q5, .ref q7, .ref q9, .ref q11, .ref q13, .ref q15, .int 0, .ref q17, .ref q21, .ref q25, .ref q26, .ref q27]))]) hD hS hA [0] rfl
      refine va_calli (vx_runSW (As := [.ref q0, .int (zc (xs 1)), .ref q106]) (rest := []) ⟨hx, hb, hml, hown, hts⟩ (c_L_type_3 l hfl dC dI q0 q106 q1 q3 q5 q7 q9 q11 q13 q15 q17 q21 q25 q26 q27 H.size (zc (xs 1)) hc0 hc1) (vx_cwSW 3 hts gL_law_L_type rfl rfl rfl (by decide +kernel) ⟨Nat.le_of_ble_eq_true rfl, Nat.le_of_ble_eq_true rfl⟩) ⟨zB_blind, (zPre hPc hDc hKc hS hFc hZ hN)⟩ rfl rfl hl.1 rfl (lv_room (Nat.le_of_ble_eq_true rfl)) dL_law_237 ⟨Nat.le_of_ble_eq_true rfl, Nat.le_of_ble_eq_true rfl⟩) hS (fun q _ h => hFc q h) hFc (fun r u t H1 locs ht hvm hw hB hz1 hk1 hS => ?_)
      subst hw
      obtain ⟨hP1, hK1, hD1⟩ := hB
      rw [ht] at hP1
      have hK1 := va_K.moved hvm.symm hK1
      obtain ⟨hP, hD⟩ := va_join (wr := [(q86, .inr (15, [.ref q87, .ref q88, .ref q89, .ref q90, .ref q91, .ref q92, .int 0, .int 1, .ref q93, .int 0, .ref q94, .null, .ref q95, .null, .ref q96, .ref q97, .ref q98, .ref q99, .ref q100, .int 0, .ref q101, .ref q102, .ref q103, .ref q104, .ref q105, .int 0, .int 0]))]) (w1 := []) hP hD [0] [13] rfl rfl (by decide) (by decide) hk1 hFc hP1 hD1
      have hK := (hK.sub (tys' := []) [] rfl).app hK1
      generalize H1 = H at hP hS ⊢
      have hP : va_P (dC, dI) vwCl [(q86, .inr (15, [.ref q87, .ref q88, .ref q89, .ref q90, .ref q91, .ref q92, .int 0, .int 1, .ref q93, .int 0, .ref q94, .null, .ref q95, .null, .ref q96, .ref q97, .ref q98, .ref q99, .ref q100, .int 0, .ref q101, .ref q102, .ref q103, .ref q104, .ref q105, .int 0, .int 0]))] H := hP
      have hD : va_D (fun q : Nat => s.heap.size ≤ q) [(q86, .inr (15, [.ref q87, .ref q88, .ref q89, .ref q90, .ref q91, .ref q92, .int 0, .int 1, .ref q93, .int 0, .ref q94, .null, .ref q95, .null, .ref q96, .ref q97, .ref q98, .ref q99, .ref q100, .int 0, .ref q101, .ref q102, .ref q103, .ref q104, .ref q105, .int 0, .int 0]))] := hD
      have hK : va_K (dC, dI) vwCl [] s := hK
      refine W.widen (k := 132) (n := 6698) (Nat.le_of_ble_eq_true rfl) (Nat.le_of_ble_eq_true rfl) ?_
      refine lv_istore (lv' := [(5, .int 1), (4, .int 0), (3, .ref q106), (2, .ref q86), (1, .ref q0), (0, .ref b)]) hx hb dL_law_240 hl (by decide) rfl (fun ls hl => ?_)
      refine lv_aload_n hx hb dL_law_242 rfl (lv_at hl 3 rfl) ?_
      refine lv_aload_n hx hb dL_law_243 rfl (lv_at hl 5 rfl) ?_
      refine lv_iload hx hb dL_law_244 (lv_at hl 1 rfl) ?_
      refine lv_iconst (v := 1) hx hb dL_law_246 (by decide +kernel) ?_
      refine lv_iadd hx hb dL_law_247 ?_
      refine zt_i (v := 1) (by decide +kernel) ?_
      refine va_sld hx hb hX hbl hbA hS (i := 1) (zin (by decide +kernel)) dL_law_248 ?_
      refine zt_v (w := .int (xs 1)) rfl ?_
      refine lv_i2c (v := (zc (xs 1))) hx hb dL_law_249 rfl ?_
      have hPc := hP.sub (ws' := [(q86, .inr (15, [.ref q87, .ref q88, .ref q89, .ref q90, .ref q91, .ref q92, .int 0, .int 1, .ref q93, .int 0, .ref q94, .null, .ref q95, .null, .ref q96, .ref q97, .ref q98, .ref q99, .ref q100, .int 0, .ref q101, .ref q102, .ref q103, .ref q104, .ref q105, .int 0, .int 0]))]) [0] rfl
      have hDc := hD.sub (ws' := [(q86, .inr (15, [.ref q87, .ref q88, .ref q89, .ref q90, .ref q91, .ref q92, .int 0, .int 1, .ref q93, .int 0, .ref q94, .null, .ref q95, .null, .ref q96, .ref q97, .ref q98, .ref q99, .ref q100, .int 0, .ref q101, .ref q102, .ref q103, .ref q104, .ref q105, .int 0, .int 0]))]) [0] (by decide) rfl
      have hKc := hK.sub (tys' := []) [] rfl
      have hFc := va_free (wc := [(q86, .inr (15, [.ref q87, .ref q88, .ref q89, .ref q90, .ref q91, .ref q92, .int 0, .int 1, .ref q93, .int 0, .ref q94, .null, .ref q95, .null, .ref q96, .ref q97, .ref q98, .ref q99, .ref q100, .int 0, .ref q101, .ref q102, .ref q103, .ref q104, .ref q105, .int 0, .int 0]))]) hD hS hA [0] rfl
      refine va_calli (va_runV (As := [.int (zc (xs 1))]) (rest := []) ⟨hx, hb, hml, hown, hts⟩ (c_X13_type_3 l dC dI q86 q87 q88 q89 q90 q91 q92 q93 q94 q95 q96 q97 q98 q99 q100 q101 q102 q103 q104 q105 H.size (zc (xs 1)) hc0 hc2) (cwV 1 hts gL_law_X13_type rfl rfl rfl (by decide +kernel) ⟨Nat.le_of_ble_eq_true rfl, Nat.le_of_ble_eq_true rfl⟩) ⟨zB_blind, va_recv hK hP (ci := 15) (q0 := 0) rfl rfl, (zPre hPc hDc hKc hS hFc hZ hN)⟩ rfl rfl hl.1 rfl (lv_room (Nat.le_of_ble_eq_true rfl)) dL_law_250 ⟨Nat.le_of_ble_eq_true rfl, Nat.le_of_ble_eq_true rfl⟩) hS (fun q _ h => hFc q h) hFc (fun r u t H1 locs ht hvm hw hB hz1 hk1 hS => ?_)
      subst hw
      obtain ⟨hP1, hK1, hD1⟩ := hB
      rw [ht] at hP1
      have hK1 := va_K.moved hvm.symm hK1
      obtain ⟨hP, hD⟩ := va_join (wr := []) (w1 := [(q86, .inr (15, [.ref q87, .ref q88, .ref q89, .ref q90, .ref q91, .ref q92, .int 0, .int 1, .ref q93, .int 0, .ref q94, .null, .ref q95, .null, .ref q96, .ref q97, .ref q98, .ref q99, .ref q100, .int 1, .ref q101, .ref q102, .ref q103, .ref q104, .ref q105, .int 0, .int 0]))]) hP hD [0] [] rfl rfl (by decide) (by decide) hk1 hFc hP1 hD1
      have hK := (hK.sub (tys' := []) [] rfl).app hK1
      generalize H1 = H at hP hS ⊢
      have hP : va_P (dC, dI) vwCl [(q86, .inr (15, [.ref q87, .ref q88, .ref q89, .ref q90, .ref q91, .ref q92, .int 0, .int 1, .ref q93, .int 0, .ref q94, .null, .ref q95, .null, .ref q96, .ref q97, .ref q98, .ref q99, .ref q100, .int 1, .ref q101, .ref q102, .ref q103, .ref q104, .ref q105, .int 0, .int 0]))] H := hP
      have hD : va_D (fun q : Nat => s.heap.size ≤ q) [(q86, .inr (15, [.ref q87, .ref q88, .ref q89, .ref q90, .ref q91, .ref q92, .int 0, .int 1, .ref q93, .int 0, .ref q94, .null, .ref q95, .null, .ref q96, .ref q97, .ref q98, .ref q99, .ref q100, .int 1, .ref q101, .ref q102, .ref q103, .ref q104, .ref q105, .int 0, .int 0]))] := hD
      have hK : va_K (dC, dI) vwCl [] s := hK
      refine W.widen (k := 132) (n := 6698) (Nat.le_of_ble_eq_true rfl) (Nat.le_of_ble_eq_true rfl) ?_
      refine lv_istore (lv' := [(6, .int 0), (5, .int 1), (4, .int 0), (3, .ref q106), (2, .ref q86), (1, .ref q0), (0, .ref b)]) hx hb dL_law_253 hl (by decide) rfl (fun ls hl => ?_)
      refine lv_aload_n hx hb dL_law_255 rfl (lv_at hl 4 rfl) ?_
      have hPc := hP.sub (ws' := [(q86, .inr (15, [.ref q87, .ref q88, .ref q89, .ref q90, .ref q91, .ref q92, .int 0, .int 1, .ref q93, .int 0, .ref q94, .null, .ref q95, .null, .ref q96, .ref q97, .ref q98, .ref q99, .ref q100, .int 1, .ref q101, .ref q102, .ref q103, .ref q104, .ref q105, .int 0, .int 0]))]) [0] rfl
      have hDc := hD.sub (ws' := [(q86, .inr (15, [.ref q87, .ref q88, .ref q89, .ref q90, .ref q91, .ref q92, .int 0, .int 1, .ref q93, .int 0, .ref q94, .null, .ref q95, .null, .ref q96, .ref q97, .ref q98, .ref q99, .ref q100, .int 1, .ref q101, .ref q102, .ref q103, .ref q104, .ref q105, .int 0, .int 0]))]) [0] (by decide) rfl
      have hKc := hK.sub (tys' := []) [] rfl
      have hFc := va_free (wc := [(q86, .inr (15, [.ref q87, .ref q88, .ref q89, .ref q90, .ref q91, .ref q92, .int 0, .int 1, .ref q93, .int 0, .ref q94, .null, .ref q95, .null, .ref q96, .ref q97, .ref q98, .ref q99, .ref q100, .int 1, .ref q101, .ref q102, .ref q103, .ref q104, .ref q105, .int 0, .int 0]))]) hD hS hA [0] rfl
      refine va_calli (va_runV (As := []) (rest := []) ⟨hx, hb, hml, hown, hts⟩ (c_X13_thrown l dC dI q86 q87 q88 q89 q90 q91 q92 q93 q94 q95 q96 q97 q98 q99 q100 q101 q102 q103 q104 q105 H.size  ) (cwV 0 hts gL_law_X13_thrown rfl rfl rfl (by decide +kernel) ⟨Nat.le_of_ble_eq_true rfl, Nat.le_of_ble_eq_true rfl⟩) ⟨zB_blind, va_recv hK hP (ci := 15) (q0 := 0) rfl rfl, (zPre hPc hDc hKc hS hFc hZ hN)⟩ rfl rfl hl.1 rfl (lv_room (Nat.le_of_ble_eq_true rfl)) dL_law_256 ⟨Nat.le_of_ble_eq_true rfl, Nat.le_of_ble_eq_true rfl⟩) hS (fun q _ h => hFc q h) hFc (fun r u t H1 locs ht hvm hw hB hz1 hk1 hS => ?_)
      subst hw
      obtain ⟨hP1, hK1, hD1⟩ := hB
      rw [ht] at hP1
      have hK1 := va_K.moved hvm.symm hK1
      obtain ⟨hP, hD⟩ := va_join (wr := []) (w1 := []) hP hD [0] [] rfl rfl (by decide) (by decide) hk1 hFc hP1 hD1
      have hK := (hK.sub (tys' := []) [] rfl).app hK1
      generalize H1 = H at hP hS ⊢
      have hP : va_P (dC, dI) vwCl [] H := hP
      have hD : va_D (fun q : Nat => s.heap.size ≤ q) [] := hD
      have hK : va_K (dC, dI) vwCl [] s := hK
      refine W.widen (k := 132) (n := 6698) (Nat.le_of_ble_eq_true rfl) (Nat.le_of_ble_eq_true rfl) ?_
      refine lv_iload hx hb dL_law_259 (lv_at hl 1 rfl) ?_
      refine lv_icmp_eq (tgt := 266) hx hb dL_law_261 (by decide) (fun _ => ?_) (fun h9 => absurd (show (1 : Int32) = (1 : Int32) by decide +kernel) h9)
      refine lv_iload hx hb dL_law_266 (lv_at hl 1 rfl) ?_
      refine lv_if_ne (tgt := 283) hx hb dL_law_268 (by decide) (fun _ => ?_) (fun h9 => absurd h9 (show ¬ (1 : Int32) = (0 : Int32) by decide +kernel))
      refine lv_goto (tgt := 2311) hx hb dL_law_283 (by decide) ?_
      exact law_exit C0 hS (Nat.le_of_ble_eq_true rfl) (Nat.le_of_ble_eq_true rfl) ls (lv_sub hl [2, 3, 4, 5, 6] rfl)
set_option maxHeartbeats 8000000 in
set_option maxRecDepth 100000 in
theorem law_case_1 {p : Program} {l : Launch} {e : Env} {s : State} {m : MethodId} {below : List Frame} {meth : Method} {c : Code} {b : Nat} {xs : Nat → Int32} (hfl : l.stackTraces = false) (C0 : lw_At p s m meth c b 4 xs) {dC : Nat → ClassId} {dI : Nat → Nat → Nat} {q0 q1 q3 q5 q7 q9 q11 q13 q15 q17 q21 q25 q26 q27 q2 q4 q6 q8 q10 q16 q18 q22 q23 q86 q87 q88 q89 q90 q91 q92 q93 q94 q95 q96 q97 q98 q99 q100 q101 q102 q103 q104 q105 q106 : Nat} {k2 k4 k87 k88 k89 k90 k91 k92 k93 k94 k96 k106 : ClassId} {H : Heap} {locs : List Loc} (hK : va_K (dC, dI) vwCl [(k2, .char), (k4, (.object "Seekwell$Text")), (k87, .boolean), (k88, .int), (k89, .int), (k90, .char), (k91, (.array .long)), (k92, (.array .long)), (k93, .int), (k94, .int), (k96, .boolean), (k106, .long)] s) (hP : va_P (dC, dI) vwCl [(q0, .inr (13, [.ref q1, .ref q3, .ref q5, .ref q7, .ref q9, .ref q11, .ref q13, .ref q15, .int 0, .ref q17, .ref q21, .ref q25, .ref q26, .ref q27])), (q1, .inr (7, [.ref q2, .int 0])), (q2, .inl (k2, 512, .inl (fun _ => 0))), (q3, .inr (11, [.ref q4, .int 0, .int 1])), (q4, .inl (k4, 24, .inr (.inr (.inr (.inr (fun _ => none)))))), (q5, .inr (11, [.ref q6, .int 0, .int 1])), (q7, .inr (10, [.ref q8, .int 0])), (q9, .inr (5, [.ref q10, .int 0, .int 0])), (q15, .inr (5, [.ref q16, .int 0, .int 0])), (q17, .inr (9, [.ref q18, .ref q18, .null])), (q21, .inr (9, [.ref q22, .ref q22, .null])), (q22, .inr (8, [.int 0, .int 0, .int 1, .int 0, .int 0, .int 0, .ref q23, .null, .null, .null, .null, .int 0, .int 0, .int 0, .int 0, .null, .null])), (q26, .inr (3, [.null, .null, .int 0, .int 0, .null])), (q86, .inr (15, [.ref q87, .ref q88, .ref q89, .ref q90, .ref q91, .ref q92, .int 0, .int 1, .ref q93, .int 0, .ref q94, .null, .ref q95, .null, .ref q96, .ref q97, .ref q98, .ref q99, .ref q100, .int 0, .ref q101, .ref q102, .ref q103, .ref q104, .ref q105, .int 0, .int 0])), (q87, .inl (k87, 24, .inl (fun _ => 0))), (q88, .inl (k88, 24, .inl (fun _ => 0))), (q89, .inl (k89, 24, .inl (fun _ => 0))), (q90, .inl (k90, 24, .inl (fun _ => 0))), (q91, .inl (k91, 24, .inr (.inr (.inr (.inr (fun _ => none)))))), (q92, .inl (k92, 24, .inr (.inr (.inr (.inr (fun _ => none)))))), (q93, .inl (k93, 4000, .inl (fun _ => 0))), (q94, .inl (k94, 0, .inl (fun _ => 0))), (q96, .inl (k96, 24, .inl (fun _ => 0))), (q106, .inl (k106, 1, .inr (.inl (fun _ => 0))))] H) (hD : va_D (fun q : Nat => s.heap.size ≤ q) [(q0, .inr (13, [.ref q1, .ref q3, .ref q5, .ref q7, .ref q9, .ref q11, .ref q13, .ref q15, .int 0, .ref q17, .ref q21, .ref q25, .ref q26, .ref q27])), (q1, .inr (7, [.ref q2, .int 0])), (q2, .inl (k2, 512, .inl (fun _ => 0))), (q3, .inr (11, [.ref q4, .int 0, .int 1])), (q4, .inl (k4, 24, .inr (.inr (.inr (.inr (fun _ => none)))))), (q5, .inr (11, [.ref q6, .int 0, .int 1])), (q7, .inr (10, [.ref q8, .int 0])), (q9, .inr (5, [.ref q10, .int 0, .int 0])), (q15, .inr (5, [.ref q16, .int 0, .int 0])), (q17, .inr (9, [.ref q18, .ref q18, .null])), (q21, .inr (9, [.ref q22, .ref q22, .null])), (q22, .inr (8, [.int 0, .int 0, .int 1, .int 0, .int 0, .int 0, .ref q23, .null, .null, .null, .null, .int 0, .int 0, .int 0, .int 0, .null, .null])), (q26, .inr (3, [.null, .null, .int 0, .int 0, .null])), (q86, .inr (15, [.ref q87, .ref q88, .ref q89, .ref q90, .ref q91, .ref q92, .int 0, .int 1, .ref q93, .int 0, .ref q94, .null, .ref q95, .null, .ref q96, .ref q97, .ref q98, .ref q99, .ref q100, .int 0, .ref q101, .ref q102, .ref q103, .ref q104, .ref q105, .int 0, .int 0])), (q87, .inl (k87, 24, .inl (fun _ => 0))), (q88, .inl (k88, 24, .inl (fun _ => 0))), (q89, .inl (k89, 24, .inl (fun _ => 0))), (q90, .inl (k90, 24, .inl (fun _ => 0))), (q91, .inl (k91, 24, .inr (.inr (.inr (.inr (fun _ => none)))))), (q92, .inl (k92, 24, .inr (.inr (.inr (.inr (fun _ => none)))))), (q93, .inl (k93, 4000, .inl (fun _ => 0))), (q94, .inl (k94, 0, .inl (fun _ => 0))), (q96, .inl (k96, 24, .inl (fun _ => 0))), (q106, .inl (k106, 1, .inr (.inl (fun _ => 0))))]) (hS : va_S (fun q : Nat => s.heap.size ≤ q) s.heap H locs) (hZ : zZ (fun q : Nat => s.heap.size ≤ q) s s.heap) (hN : zN s) (ls : Array Slot) (hl : lv_has ls 7 [(4, .int 0), (3, .ref q106), (2, .ref q86), (1, .ref q0), (0, .ref b)]) : W p l e room_1 s m #[Value.ref b] below meth c H locs 131 6692 (lw_Z below #[Value.ref b] s) (F0 m 286 ls []) := by
  obtain ⟨hx, hb, hr, hml, hown, hts, hX, hbl, hlocks, hgv⟩ := id C0
  have hbA : ¬ (fun q : Nat => s.heap.size ≤ q) b := Nat.not_le.mpr hbl
  have hA : ∀ q : Nat, s.heap.size ≤ q → (fun q : Nat => s.heap.size ≤ q) q := fun _ h => h
  refine lv_aload_n hx hb dL_law_286 rfl (lv_at hl 3 rfl) ?_
  have hPc := hP.sub (ws' := [(q0, .inr (13, [.ref q1, .ref q3, .ref q5, .ref q7, .ref q9, .ref q11, .ref q13, .ref q15, .int 0, .ref q17, .ref q21, .ref q25, .ref q26, .ref q27])), (q1, .inr (7, [.ref q2, .int 0]))]) [0, 1] rfl
  have hDc := hD.sub (ws' := [(q0, .inr (13, [.ref q1, .ref q3, .ref q5, .ref q7, .ref q9, .ref q11, .ref q13, .ref q15, .int 0, .ref q17, .ref q21, .ref q25, .ref q26, .ref q27])), (q1, .inr (7, [.ref q2, .int 0]))]) [0, 1] (by decide) rfl
  have hKc := hK.sub (tys' := []) [] rfl
  have hFc := va_free (wc := [(q0, .inr (13, [.ref q1, .ref q3, .ref q5, .ref q7, .ref q9, .ref q11, .ref q13, .ref q15, .int 0, .ref q17, .ref q21, .ref q25, .ref q26, .ref q27])), (q1, .inr (7, [.ref q2, .int 0]))]) hD hS hA [0, 1] rfl
  refine va_calli (va_runV (As := []) (rest := []) ⟨hx, hb, hml, hown, hts⟩ (c_X11_erase l dC dI q0 q1 q3 q5 q7 q9 q11 q13 q15 q17 q21 q25 q26 q27 q2 H.size  ) (cwV 0 hts gL_law_X11_erase rfl rfl rfl (by decide +kernel) ⟨Nat.le_of_ble_eq_true rfl, Nat.le_of_ble_eq_true rfl⟩) ⟨zB_blind, va_recv hK hP (ci := 13) (q0 := 0) rfl rfl, (zPre hPc hDc hKc hS hFc hZ hN)⟩ rfl rfl hl.1 rfl (lv_room (Nat.le_of_ble_eq_true rfl)) dL_law_287 ⟨Nat.le_of_ble_eq_true rfl, Nat.le_of_ble_eq_true rfl⟩) hS (fun q _ h => hFc q h) hFc (fun r u t H1 locs ht hvm hw hB hz1 hk1 hS => ?_)
  subst hw
  obtain ⟨hP1, hK1, hD1⟩ := hB
  rw [ht] at hP1
  have hK1 := va_K.moved hvm.symm hK1
  obtain ⟨hP, hD⟩ := va_join (wr := [(q86, .inr (15, [.ref q87, .ref q88, .ref q89, .ref q90, .ref q91, .ref q92, .int 0, .int 1, .ref q93, .int 0, .ref q94, .null, .ref q95, .null, .ref q96, .ref q97, .ref q98, .ref q99, .ref q100, .int 0, .ref q101, .ref q102, .ref q103, .ref q104, .ref q105, .int 0, .int 0]))]) (w1 := []) hP hD [0, 1] [13] rfl rfl (by decide) (by decide) hk1 hFc hP1 hD1
  have hK := (hK.sub (tys' := []) [] rfl).app hK1
  generalize H1 = H at hP hS ⊢
  have hP : va_P (dC, dI) vwCl [(q86, .inr (15, [.ref q87, .ref q88, .ref q89, .ref q90, .ref q91, .ref q92, .int 0, .int 1, .ref q93, .int 0, .ref q94, .null, .ref q95, .null, .ref q96, .ref q97, .ref q98, .ref q99, .ref q100, .int 0, .ref q101, .ref q102, .ref q103, .ref q104, .ref q105, .int 0, .int 0]))] H := hP
  have hD : va_D (fun q : Nat => s.heap.size ≤ q) [(q86, .inr (15, [.ref q87, .ref q88, .ref q89, .ref q90, .ref q91, .ref q92, .int 0, .int 1, .ref q93, .int 0, .ref q94, .null, .ref q95, .null, .ref q96, .ref q97, .ref q98, .ref q99, .ref q100, .int 0, .ref q101, .ref q102, .ref q103, .ref q104, .ref q105, .int 0, .int 0]))] := hD
  have hK : va_K (dC, dI) vwCl [] s := hK
  refine W.widen (k := 131) (n := 6692) (Nat.le_of_ble_eq_true rfl) (Nat.le_of_ble_eq_true rfl) ?_
  refine lv_aload_n hx hb dL_law_290 rfl (lv_at hl 2 rfl) ?_
  have hPc := hP.sub (ws' := [(q86, .inr (15, [.ref q87, .ref q88, .ref q89, .ref q90, .ref q91, .ref q92, .int 0, .int 1, .ref q93, .int 0, .ref q94, .null, .ref q95, .null, .ref q96, .ref q97, .ref q98, .ref q99, .ref q100, .int 0, .ref q101, .ref q102, .ref q103, .ref q104, .ref q105, .int 0, .int 0]))]) [0] rfl
  have hDc := hD.sub (ws' := [(q86, .inr (15, [.ref q87, .ref q88, .ref q89, .ref q90, .ref q91, .ref q92, .int 0, .int 1, .ref q93, .int 0, .ref q94, .null, .ref q95, .null, .ref q96, .ref q97, .ref q98, .ref q99, .ref q100, .int 0, .ref q101, .ref q102, .ref q103, .ref q104, .ref q105, .int 0, .int 0]))]) [0] (by decide) rfl
  have hKc := hK.sub (tys' := []) [] rfl
  have hFc := va_free (wc := [(q86, .inr (15, [.ref q87, .ref q88, .ref q89, .ref q90, .ref q91, .ref q92, .int 0, .int 1, .ref q93, .int 0, .ref q94, .null, .ref q95, .null, .ref q96, .ref q97, .ref q98, .ref q99, .ref q100, .int 0, .ref q101, .ref q102, .ref q103, .ref q104, .ref q105, .int 0, .int 0]))]) hD hS hA [0] rfl
  refine va_calli (va_runV (As := []) (rest := [.int 0]) ⟨hx, hb, hml, hown, hts⟩ (c_X13_erase l dC dI q86 q87 q88 q89 q90 q91 q92 q93 q94 q95 q96 q97 q98 q99 q100 q101 q102 q103 q104 q105 H.size  ) (cwV 0 hts gL_law_X13_erase rfl rfl rfl (by decide +kernel) ⟨Nat.le_of_ble_eq_true rfl, Nat.le_of_ble_eq_true rfl⟩) ⟨zB_blind, va_recv hK hP (ci := 15) (q0 := 0) rfl rfl, (zPre hPc hDc hKc hS hFc hZ hN)⟩ rfl rfl hl.1 rfl (lv_room (Nat.le_of_ble_eq_true rfl)) dL_law_291 ⟨Nat.le_of_ble_eq_true rfl, Nat.le_of_ble_eq_true rfl⟩) hS (fun q _ h => hFc q h) hFc (fun r u t H1 locs ht hvm hw hB hz1 hk1 hS => ?_)
  subst hw
  obtain ⟨hP1, hK1, hD1⟩ := hB
  rw [ht] at hP1
  have hK1 := va_K.moved hvm.symm hK1
  obtain ⟨hP, hD⟩ := va_join (wr := []) (w1 := []) hP hD [0] [] rfl rfl (by decide) (by decide) hk1 hFc hP1 hD1
  have hK := (hK.sub (tys' := []) [] rfl).app hK1
  generalize H1 = H at hP hS ⊢
  have hP : va_P (dC, dI) vwCl [] H := hP
  have hD : va_D (fun q : Nat => s.heap.size ≤ q) [] := hD
  have hK : va_K (dC, dI) vwCl [] s := hK
  refine W.widen (k := 131) (n := 6692) (Nat.le_of_ble_eq_true rfl) (Nat.le_of_ble_eq_true rfl) ?_
  refine lv_icmp_eq (tgt := 2311) hx hb dL_law_294 (by decide) (fun _ => ?_) (fun h9 => absurd (show (0 : Int32) = (0 : Int32) by decide +kernel) h9)
  exact law_exit C0 hS (Nat.le_of_ble_eq_true rfl) (Nat.le_of_ble_eq_true rfl) ls (lv_sub hl [0, 1, 2, 3, 4] rfl)
set_option maxHeartbeats 8000000 in
set_option maxRecDepth 100000 in
theorem law_case_2 {p : Program} {l : Launch} {e : Env} {s : State} {m : MethodId} {below : List Frame} {meth : Method} {c : Code} {b : Nat} {xs : Nat → Int32} (hfl : l.stackTraces = false) (C0 : lw_At p s m meth c b 4 xs) {dC : Nat → ClassId} {dI : Nat → Nat → Nat} {q0 q1 q3 q5 q7 q9 q11 q13 q15 q17 q21 q25 q26 q27 q2 q4 q6 q8 q10 q16 q18 q22 q23 q86 q87 q88 q89 q90 q91 q92 q93 q94 q95 q96 q97 q98 q99 q100 q101 q102 q103 q104 q105 q106 : Nat} {k2 k4 k87 k88 k89 k90 k91 k92 k93 k94 k96 k106 : ClassId} {H : Heap} {locs : List Loc} (hK : va_K (dC, dI) vwCl [(k2, .char), (k4, (.object "Seekwell$Text")), (k87, .boolean), (k88, .int), (k89, .int), (k90, .char), (k91, (.array .long)), (k92, (.array .long)), (k93, .int), (k94, .int), (k96, .boolean), (k106, .long)] s) (hP : va_P (dC, dI) vwCl [(q0, .inr (13, [.ref q1, .ref q3, .ref q5, .ref q7, .ref q9, .ref q11, .ref q13, .ref q15, .int 0, .ref q17, .ref q21, .ref q25, .ref q26, .ref q27])), (q1, .inr (7, [.ref q2, .int 0])), (q2, .inl (k2, 512, .inl (fun _ => 0))), (q3, .inr (11, [.ref q4, .int 0, .int 1])), (q4, .inl (k4, 24, .inr (.inr (.inr (.inr (fun _ => none)))))), (q5, .inr (11, [.ref q6, .int 0, .int 1])), (q7, .inr (10, [.ref q8, .int 0])), (q9, .inr (5, [.ref q10, .int 0, .int 0])), (q15, .inr (5, [.ref q16, .int 0, .int 0])), (q17, .inr (9, [.ref q18, .ref q18, .null])), (q21, .inr (9, [.ref q22, .ref q22, .null])), (q22, .inr (8, [.int 0, .int 0, .int 1, .int 0, .int 0, .int 0, .ref q23, .null, .null, .null, .null, .int 0, .int 0, .int 0, .int 0, .null, .null])), (q26, .inr (3, [.null, .null, .int 0, .int 0, .null])), (q86, .inr (15, [.ref q87, .ref q88, .ref q89, .ref q90, .ref q91, .ref q92, .int 0, .int 1, .ref q93, .int 0, .ref q94, .null, .ref q95, .null, .ref q96, .ref q97, .ref q98, .ref q99, .ref q100, .int 0, .ref q101, .ref q102, .ref q103, .ref q104, .ref q105, .int 0, .int 0])), (q87, .inl (k87, 24, .inl (fun _ => 0))), (q88, .inl (k88, 24, .inl (fun _ => 0))), (q89, .inl (k89, 24, .inl (fun _ => 0))), (q90, .inl (k90, 24, .inl (fun _ => 0))), (q91, .inl (k91, 24, .inr (.inr (.inr (.inr (fun _ => none)))))), (q92, .inl (k92, 24, .inr (.inr (.inr (.inr (fun _ => none)))))), (q93, .inl (k93, 4000, .inl (fun _ => 0))), (q94, .inl (k94, 0, .inl (fun _ => 0))), (q96, .inl (k96, 24, .inl (fun _ => 0))), (q106, .inl (k106, 1, .inr (.inl (fun _ => 0))))] H) (hD : va_D (fun q : Nat => s.heap.size ≤ q) [(q0, .inr (13, [.ref q1, .ref q3, .ref q5, .ref q7, .ref q9, .ref q11, .ref q13, .ref q15, .int 0, .ref q17, .ref q21, .ref q25, .ref q26, .ref q27])), (q1, .inr (7, [.ref q2, .int 0])), (q2, .inl (k2, 512, .inl (fun _ => 0))), (q3, .inr (11, [.ref q4, .int 0, .int 1])), (q4, .inl (k4, 24, .inr (.inr (.inr (.inr (fun _ => none)))))), (q5, .inr (11, [.ref q6, .int 0, .int 1])), (q7, .inr (10, [.ref q8, .int 0])), (q9, .inr (5, [.ref q10, .int 0, .int 0])), (q15, .inr (5, [.ref q16, .int 0, .int 0])), (q17, .inr (9, [.ref q18, .ref q18, .null])), (q21, .inr (9, [.ref q22, .ref q22, .null])), (q22, .inr (8, [.int 0, .int 0, .int 1, .int 0, .int 0, .int 0, .ref q23, .null, .null, .null, .null, .int 0, .int 0, .int 0, .int 0, .null, .null])), (q26, .inr (3, [.null, .null, .int 0, .int 0, .null])), (q86, .inr (15, [.ref q87, .ref q88, .ref q89, .ref q90, .ref q91, .ref q92, .int 0, .int 1, .ref q93, .int 0, .ref q94, .null, .ref q95, .null, .ref q96, .ref q97, .ref q98, .ref q99, .ref q100, .int 0, .ref q101, .ref q102, .ref q103, .ref q104, .ref q105, .int 0, .int 0])), (q87, .inl (k87, 24, .inl (fun _ => 0))), (q88, .inl (k88, 24, .inl (fun _ => 0))), (q89, .inl (k89, 24, .inl (fun _ => 0))), (q90, .inl (k90, 24, .inl (fun _ => 0))), (q91, .inl (k91, 24, .inr (.inr (.inr (.inr (fun _ => none)))))), (q92, .inl (k92, 24, .inr (.inr (.inr (.inr (fun _ => none)))))), (q93, .inl (k93, 4000, .inl (fun _ => 0))), (q94, .inl (k94, 0, .inl (fun _ => 0))), (q96, .inl (k96, 24, .inl (fun _ => 0))), (q106, .inl (k106, 1, .inr (.inl (fun _ => 0))))]) (hS : va_S (fun q : Nat => s.heap.size ≤ q) s.heap H locs) (hZ : zZ (fun q : Nat => s.heap.size ≤ q) s s.heap) (hN : zN s) (ls : Array Slot) (hl : lv_has ls 7 [(4, .int 0), (3, .ref q106), (2, .ref q86), (1, .ref q0), (0, .ref b)]) : W p l e room_1 s m #[Value.ref b] below meth c H locs 131 6692 (lw_Z below #[Value.ref b] s) (F0 m 299 ls []) := by
  obtain ⟨hx, hb, hr, hml, hown, hts, hX, hbl, hlocks, hgv⟩ := id C0
  have hbA : ¬ (fun q : Nat => s.heap.size ≤ q) b := Nat.not_le.mpr hbl
  have hA : ∀ q : Nat, s.heap.size ≤ q → (fun q : Nat => s.heap.size ≤ q) q := fun _ h => h
  by_cases hb0 : (xs 1) < (0 : Int32)
  · skip
    have hc0 : (xs 1) < (0 : Int32) := hb0
    refine lv_aload_n hx hb dL_law_299 rfl (lv_at hl 3 rfl) ?_
    refine lv_aload_n hx hb dL_law_300 rfl (lv_at hl 4 rfl) ?_
    refine lv_iload hx hb dL_law_301 (lv_at hl 0 rfl) ?_
    refine lv_iconst (v := 1) hx hb dL_law_303 (by decide +kernel) ?_
    refine lv_iadd hx hb dL_law_304 ?_
    refine zt_i (v := 1) (by decide +kernel) ?_
    refine va_sld hx hb hX hbl hbA hS (i := 1) (zin (by decide +kernel)) dL_law_305 ?_
    refine zt_v (w := .int (xs 1)) rfl ?_
    refine lv_aload_n hx hb dL_law_306 rfl (lv_at hl 1 rfl) ?_
    have hPc := hP.sub (ws' := [(q0, .inr (13, [.ref q1, .ref q3, .ref q5, .ref q7, .ref q9, .ref q11, .ref q13, .ref q15, .int 0, .ref q17, .ref q21, .ref q25, .ref q26, .ref q27]))]) [0] rfl
    have hDc := hD.sub (ws' := [(q0, .inr (13, [.ref q1, .ref q3, .ref q5, .ref q7, .ref q9, .ref q11, .ref q13, .ref q15, .int 0, .ref q17, .ref q21, .ref q25, .ref q26, .ref q27]))]) [0] (by decide) rfl
    have hKc := hK.sub (tys' := []) [] rfl
    have hFc := va_free (wc := [(q0, .inr (13, [.ref q1, .ref q3, .ref q5, .ref q7, .ref q9, .ref q11, .ref q13, .ref q15, .int 0, .ref q17, .ref q21, .ref q25, .ref q26, .ref q27]))]) hD hS hA [0] rfl
    refine va_calli (vx_runSW (As := [.ref q0, .int (xs 1), .ref q106]) (rest := []) ⟨hx, hb, hml, hown, hts⟩ (c_L_signAt l hfl dC dI q0 q106 q1 q3 q5 q7 q9 q11 q13 q15 q17 q21 q25 q26 q27 H.size (xs 1) hc0) (vx_cwSW 3 hts gL_law_L_signAt rfl rfl rfl (by decide +kernel) ⟨Nat.le_of_ble_eq_true rfl, Nat.le_of_ble_eq_true rfl⟩) ⟨zB_blind, (zPre hPc hDc hKc hS hFc hZ hN)⟩ rfl rfl hl.1 rfl (lv_room (Nat.le_of_ble_eq_true rfl)) dL_law_307 ⟨Nat.le_of_ble_eq_true rfl, Nat.le_of_ble_eq_true rfl⟩) hS (fun q _ h => hFc q h) hFc (fun r u t H1 locs ht hvm hw hB hz1 hk1 hS => ?_)
    subst hw
    obtain ⟨hP1, hK1, hD1⟩ := hB
    rw [ht] at hP1
    have hK1 := va_K.moved hvm.symm hK1
    obtain ⟨hP, hD⟩ := va_join (wr := [(q86, .inr (15, [.ref q87, .ref q88, .ref q89, .ref q90, .ref q91, .ref q92, .int 0, .int 1, .ref q93, .int 0, .ref q94, .null, .ref q95, .null, .ref q96, .ref q97, .ref q98, .ref q99, .ref q100, .int 0, .ref q101, .ref q102, .ref q103, .ref q104, .ref q105, .int 0, .int 0]))]) (w1 := []) hP hD [0] [13] rfl rfl (by decide) (by decide) hk1 hFc hP1 hD1
    have hK := (hK.sub (tys' := []) [] rfl).app hK1
    generalize H1 = H at hP hS ⊢
    have hP : va_P (dC, dI) vwCl [(q86, .inr (15, [.ref q87, .ref q88, .ref q89, .ref q90, .ref q91, .ref q92, .int 0, .int 1, .ref q93, .int 0, .ref q94, .null, .ref q95, .null, .ref q96, .ref q97, .ref q98, .ref q99, .ref q100, .int 0, .ref q101, .ref q102, .ref q103, .ref q104, .ref q105, .int 0, .int 0]))] H := hP
    have hD : va_D (fun q : Nat => s.heap.size ≤ q) [(q86, .inr (15, [.ref q87, .ref q88, .ref q89, .ref q90, .ref q91, .ref q92, .int 0, .int 1, .ref q93, .int 0, .ref q94, .null, .ref q95, .null, .ref q96, .ref q97, .ref q98, .ref q99, .ref q100, .int 0, .ref q101, .ref q102, .ref q103, .ref q104, .ref q105, .int 0, .int 0]))] := hD
    have hK : va_K (dC, dI) vwCl [] s := hK
    refine W.widen (k := 132) (n := 6698) (Nat.le_of_ble_eq_true rfl) (Nat.le_of_ble_eq_true rfl) ?_
    refine lv_istore (lv' := [(5, .int 1), (4, .int 0), (3, .ref q106), (2, .ref q86), (1, .ref q0), (0, .ref b)]) hx hb dL_law_310 hl (by decide) rfl (fun ls hl => ?_)
    refine lv_aload_n hx hb dL_law_312 rfl (lv_at hl 3 rfl) ?_
    refine lv_aload_n hx hb dL_law_313 rfl (lv_at hl 5 rfl) ?_
    refine lv_iload hx hb dL_law_314 (lv_at hl 1 rfl) ?_
    refine lv_iconst (v := 1) hx hb dL_law_316 (by decide +kernel) ?_
    refine lv_iadd hx hb dL_law_317 ?_
    refine zt_i (v := 1) (by decide +kernel) ?_
    refine va_sld hx hb hX hbl hbA hS (i := 1) (zin (by decide +kernel)) dL_law_318 ?_
    refine zt_v (w := .int (xs 1)) rfl ?_
    have hPc := hP.sub (ws' := [(q86, .inr (15, [.ref q87, .ref q88, .ref q89, .ref q90, .ref q91, .ref q92, .int 0, .int 1, .ref q93, .int 0, .ref q94, .null, .ref q95, .null, .ref q96, .ref q97, .ref q98, .ref q99, .ref q100, .int 0, .ref q101, .ref q102, .ref q103, .ref q104, .ref q105, .int 0, .int 0]))]) [0] rfl
    have hDc := hD.sub (ws' := [(q86, .inr (15, [.ref q87, .ref q88, .ref q89, .ref q90, .ref q91, .ref q92, .int 0, .int 1, .ref q93, .int 0, .ref q94, .null, .ref q95, .null, .ref q96, .ref q97, .ref q98, .ref q99, .ref q100, .int 0, .ref q101, .ref q102, .ref q103, .ref q104, .ref q105, .int 0, .int 0]))]) [0] (by decide) rfl
    have hKc := hK.sub (tys' := []) [] rfl
    have hFc := va_free (wc := [(q86, .inr (15, [.ref q87, .ref q88, .ref q89, .ref q90, .ref q91, .ref q92, .int 0, .int 1, .ref q93, .int 0, .ref q94, .null, .ref q95, .null, .ref q96, .ref q97, .ref q98, .ref q99, .ref q100, .int 0, .ref q101, .ref q102, .ref q103, .ref q104, .ref q105, .int 0, .int 0]))]) hD hS hA [0] rfl
    refine va_calli (va_runV (As := [.int (xs 1)]) (rest := []) ⟨hx, hb, hml, hown, hts⟩ (c_X13_signAt l dC dI q86 q87 q88 q89 q90 q91 q92 q93 q94 q95 q96 q97 q98 q99 q100 q101 q102 q103 q104 q105 H.size (xs 1) hc0) (cwV 1 hts gL_law_X13_signAt rfl rfl rfl (by decide +kernel) ⟨Nat.le_of_ble_eq_true rfl, Nat.le_of_ble_eq_true rfl⟩) ⟨zB_blind, va_recv hK hP (ci := 15) (q0 := 0) rfl rfl, (zPre hPc hDc hKc hS hFc hZ hN)⟩ rfl rfl hl.1 rfl (lv_room (Nat.le_of_ble_eq_true rfl)) dL_law_319 ⟨Nat.le_of_ble_eq_true rfl, Nat.le_of_ble_eq_true rfl⟩) hS (fun q _ h => hFc q h) hFc (fun r u t H1 locs ht hvm hw hB hz1 hk1 hS => ?_)
    subst hw
    obtain ⟨hP1, hK1, hD1⟩ := hB
    rw [ht] at hP1
    have hK1 := va_K.moved hvm.symm hK1
    obtain ⟨hP, hD⟩ := va_join (wr := []) (w1 := [(q86, .inr (15, [.ref q87, .ref q88, .ref q89, .ref q90, .ref q91, .ref q92, .int 0, .int 1, .ref q93, .int 0, .ref q94, .null, .ref q95, .null, .ref q96, .ref q97, .ref q98, .ref q99, .ref q100, .int 1, .ref q101, .ref q102, .ref q103, .ref q104, .ref q105, .int 0, .int 0]))]) hP hD [0] [] rfl rfl (by decide) (by decide) hk1 hFc hP1 hD1
    have hK := (hK.sub (tys' := []) [] rfl).app hK1
    generalize H1 = H at hP hS ⊢
    have hP : va_P (dC, dI) vwCl [(q86, .inr (15, [.ref q87, .ref q88, .ref q89, .ref q90, .ref q91, .ref q92, .int 0, .int 1, .ref q93, .int 0, .ref q94, .null, .ref q95, .null, .ref q96, .ref q97, .ref q98, .ref q99, .ref q100, .int 1, .ref q101, .ref q102, .ref q103, .ref q104, .ref q105, .int 0, .int 0]))] H := hP
    have hD : va_D (fun q : Nat => s.heap.size ≤ q) [(q86, .inr (15, [.ref q87, .ref q88, .ref q89, .ref q90, .ref q91, .ref q92, .int 0, .int 1, .ref q93, .int 0, .ref q94, .null, .ref q95, .null, .ref q96, .ref q97, .ref q98, .ref q99, .ref q100, .int 1, .ref q101, .ref q102, .ref q103, .ref q104, .ref q105, .int 0, .int 0]))] := hD
    have hK : va_K (dC, dI) vwCl [] s := hK
    refine W.widen (k := 132) (n := 6698) (Nat.le_of_ble_eq_true rfl) (Nat.le_of_ble_eq_true rfl) ?_
    refine lv_istore (lv' := [(6, .int 32), (5, .int 1), (4, .int 0), (3, .ref q106), (2, .ref q86), (1, .ref q0), (0, .ref b)]) hx hb dL_law_322 hl (by decide) rfl (fun ls hl => ?_)
    refine lv_aload_n hx hb dL_law_324 rfl (lv_at hl 4 rfl) ?_
    have hPc := hP.sub (ws' := [(q86, .inr (15, [.ref q87, .ref q88, .ref q89, .ref q90, .ref q91, .ref q92, .int 0, .int 1, .ref q93, .int 0, .ref q94, .null, .ref q95, .null, .ref q96, .ref q97, .ref q98, .ref q99, .ref q100, .int 1, .ref q101, .ref q102, .ref q103, .ref q104, .ref q105, .int 0, .int 0]))]) [0] rfl
    have hDc := hD.sub (ws' := [(q86, .inr (15, [.ref q87, .ref q88, .ref q89, .ref q90, .ref q91, .ref q92, .int 0, .int 1, .ref q93, .int 0, .ref q94, .null, .ref q95, .null, .ref q96, .ref q97, .ref q98, .ref q99, .ref q100, .int 1, .ref q101, .ref q102, .ref q103, .ref q104, .ref q105, .int 0, .int 0]))]) [0] (by decide) rfl
    have hKc := hK.sub (tys' := []) [] rfl
    have hFc := va_free (wc := [(q86, .inr (15, [.ref q87, .ref q88, .ref q89, .ref q90, .ref q91, .ref q92, .int 0, .int 1, .ref q93, .int 0, .ref q94, .null, .ref q95, .null, .ref q96, .ref q97, .ref q98, .ref q99, .ref q100, .int 1, .ref q101, .ref q102, .ref q103, .ref q104, .ref q105, .int 0, .int 0]))]) hD hS hA [0] rfl
    refine va_calli (va_runV (As := []) (rest := []) ⟨hx, hb, hml, hown, hts⟩ (c_X13_thrown l dC dI q86 q87 q88 q89 q90 q91 q92 q93 q94 q95 q96 q97 q98 q99 q100 q101 q102 q103 q104 q105 H.size  ) (cwV 0 hts gL_law_X13_thrown rfl rfl rfl (by decide +kernel) ⟨Nat.le_of_ble_eq_true rfl, Nat.le_of_ble_eq_true rfl⟩) ⟨zB_blind, va_recv hK hP (ci := 15) (q0 := 0) rfl rfl, (zPre hPc hDc hKc hS hFc hZ hN)⟩ rfl rfl hl.1 rfl (lv_room (Nat.le_of_ble_eq_true rfl)) dL_law_325 ⟨Nat.le_of_ble_eq_true rfl, Nat.le_of_ble_eq_true rfl⟩) hS (fun q _ h => hFc q h) hFc (fun r u t H1 locs ht hvm hw hB hz1 hk1 hS => ?_)
    subst hw
    obtain ⟨hP1, hK1, hD1⟩ := hB
    rw [ht] at hP1
    have hK1 := va_K.moved hvm.symm hK1
    obtain ⟨hP, hD⟩ := va_join (wr := []) (w1 := []) hP hD [0] [] rfl rfl (by decide) (by decide) hk1 hFc hP1 hD1
    have hK := (hK.sub (tys' := []) [] rfl).app hK1
    generalize H1 = H at hP hS ⊢
    have hP : va_P (dC, dI) vwCl [] H := hP
    have hD : va_D (fun q : Nat => s.heap.size ≤ q) [] := hD
    have hK : va_K (dC, dI) vwCl [] s := hK
    refine W.widen (k := 132) (n := 6698) (Nat.le_of_ble_eq_true rfl) (Nat.le_of_ble_eq_true rfl) ?_
    refine lv_iload hx hb dL_law_328 (lv_at hl 1 rfl) ?_
    refine lv_icmp_eq (tgt := 335) hx hb dL_law_330 (by decide) (fun _ => ?_) (fun h9 => absurd (show (1 : Int32) = (1 : Int32) by decide +kernel) h9)
    refine lv_iload hx hb dL_law_335 (lv_at hl 1 rfl) ?_
    refine lv_if_ne (tgt := 352) hx hb dL_law_337 (by decide) (fun _ => ?_) (fun h9 => absurd h9 (show ¬ (1 : Int32) = (0 : Int32) by decide +kernel))
    refine lv_goto (tgt := 2311) hx hb dL_law_352 (by decide) ?_
    exact law_exit C0 hS (Nat.le_of_ble_eq_true rfl) (Nat.le_of_ble_eq_true rfl) ls (lv_sub hl [2, 3, 4, 5, 6] rfl)
  · skip
    have hc0 : ¬ (xs 1) < (0 : Int32) := hb0
    have hc1 : ((-1) : Int32) < (xs 1) := zd_3 hb0
    refine lv_aload_n hx hb dL_law_299 rfl (lv_at hl 3 rfl) ?_
    refine lv_aload_n hx hb dL_law_300 rfl (lv_at hl 4 rfl) ?_
    refine lv_iload hx hb dL_law_301 (lv_at hl 0 rfl) ?_
    refine lv_iconst (v := 1) hx hb dL_law_303 (by decide +kernel) ?_
    refine lv_iadd hx hb dL_law_304 ?_
    refine zt_i (v := 1) (by decide +kernel) ?_
    refine va_sld hx hb hX hbl hbA hS (i := 1) (zin (by decide +kernel)) dL_law_305 ?_
    refine zt_v (w := .int (xs 1)) rfl ?_
    refine lv_aload_n hx hb dL_law_306 rfl (lv_at hl 1 rfl) ?_
    have hPc := hP.sub (ws' := [(q0, .inr (13, [.ref q1, .ref q3, .ref q5, .ref q7, .ref q9, .ref q11, .ref q13, .ref q15, .int 0, .ref q17, .ref q21, .ref q25, .ref q26, .ref q27])), (q1, .inr (7, [.ref q2, .int 0]))]) [0, 1] rfl
    have hDc := hD.sub (ws' := [(q0, .inr (13, [.ref q1, .ref q3, .ref q5, .ref q7, .ref q9, .ref q11, .ref q13, .ref q15, .int 0, .ref q17, .ref q21, .ref q25, .ref q26, .ref q27])), (q1, .inr (7, [.ref q2, .int 0]))]) [0, 1] (by decide) rfl
    have hKc := hK.sub (tys' := []) [] rfl
    have hFc := va_free (wc := [(q0, .inr (13, [.ref q1, .ref q3, .ref q5, .ref q7, .ref q9, .ref q11, .ref q13, .ref q15, .int 0, .ref q17, .ref q21, .ref q25, .ref q26, .ref q27])), (q1, .inr (7, [.ref q2, .int 0]))]) hD hS hA [0, 1] rfl
    refine va_calli (vx_runSW (As := [.ref q0, .int (xs 1), .ref q106]) (rest := []) ⟨hx, hb, hml, hown, hts⟩ (c_L_signAt_2 l hfl dC dI q0 q106 q1 q3 q5 q7 q9 q11 q13 q15 q17 q21 q25 q26 q27 q2 H.size (xs 1) hc0) (vx_cwSW 3 hts gL_law_L_signAt rfl rfl rfl (by decide +kernel) ⟨Nat.le_of_ble_eq_true rfl, Nat.le_of_ble_eq_true rfl⟩) ⟨zB_blind, (zPre hPc hDc hKc hS hFc hZ hN)⟩ rfl rfl hl.1 rfl (lv_room (Nat.le_of_ble_eq_true rfl)) dL_law_307 ⟨Nat.le_of_ble_eq_true rfl, Nat.le_of_ble_eq_true rfl⟩) hS (fun q _ h => hFc q h) hFc (fun r u t H1 locs ht hvm hw hB hz1 hk1 hS => ?_)
    subst hw
    obtain ⟨hP1, hK1, hD1⟩ := hB
    rw [ht] at hP1
    have hK1 := va_K.moved hvm.symm hK1
    obtain ⟨hP, hD⟩ := va_join (wr := [(q86, .inr (15, [.ref q87, .ref q88, .ref q89, .ref q90, .ref q91, .ref q92, .int 0, .int 1, .ref q93, .int 0, .ref q94, .null, .ref q95, .null, .ref q96, .ref q97, .ref q98, .ref q99, .ref q100, .int 0, .ref q101, .ref q102, .ref q103, .ref q104, .ref q105, .int 0, .int 0]))]) (w1 := []) hP hD [0, 1] [13] rfl rfl (by decide) (by decide) hk1 hFc hP1 hD1
    have hK := (hK.sub (tys' := []) [] rfl).app hK1
    generalize H1 = H at hP hS ⊢
    have hP : va_P (dC, dI) vwCl [(q86, .inr (15, [.ref q87, .ref q88, .ref q89, .ref q90, .ref q91, .ref q92, .int 0, .int 1, .ref q93, .int 0, .ref q94, .null, .ref q95, .null, .ref q96, .ref q97, .ref q98, .ref q99, .ref q100, .int 0, .ref q101, .ref q102, .ref q103, .ref q104, .ref q105, .int 0, .int 0]))] H := hP
    have hD : va_D (fun q : Nat => s.heap.size ≤ q) [(q86, .inr (15, [.ref q87, .ref q88, .ref q89, .ref q90, .ref q91, .ref q92, .int 0, .int 1, .ref q93, .int 0, .ref q94, .null, .ref q95, .null, .ref q96, .ref q97, .ref q98, .ref q99, .ref q100, .int 0, .ref q101, .ref q102, .ref q103, .ref q104, .ref q105, .int 0, .int 0]))] := hD
    have hK : va_K (dC, dI) vwCl [] s := hK
    refine W.widen (k := 132) (n := 6698) (Nat.le_of_ble_eq_true rfl) (Nat.le_of_ble_eq_true rfl) ?_
    refine lv_istore (lv' := [(5, .int 1), (4, .int 0), (3, .ref q106), (2, .ref q86), (1, .ref q0), (0, .ref b)]) hx hb dL_law_310 hl (by decide) rfl (fun ls hl => ?_)
    refine lv_aload_n hx hb dL_law_312 rfl (lv_at hl 3 rfl) ?_
    refine lv_aload_n hx hb dL_law_313 rfl (lv_at hl 5 rfl) ?_
    refine lv_iload hx hb dL_law_314 (lv_at hl 1 rfl) ?_
    refine lv_iconst (v := 1) hx hb dL_law_316 (by decide +kernel) ?_
    refine lv_iadd hx hb dL_law_317 ?_
    refine zt_i (v := 1) (by decide +kernel) ?_
    refine va_sld hx hb hX hbl hbA hS (i := 1) (zin (by decide +kernel)) dL_law_318 ?_
    refine zt_v (w := .int (xs 1)) rfl ?_
    have hPc := hP.sub (ws' := [(q86, .inr (15, [.ref q87, .ref q88, .ref q89, .ref q90, .ref q91, .ref q92, .int 0, .int 1, .ref q93, .int 0, .ref q94, .null, .ref q95, .null, .ref q96, .ref q97, .ref q98, .ref q99, .ref q100, .int 0, .ref q101, .ref q102, .ref q103, .ref q104, .ref q105, .int 0, .int 0]))]) [0] rfl
    have hDc := hD.sub (ws' := [(q86, .inr (15, [.ref q87, .ref q88, .ref q89, .ref q90, .ref q91, .ref q92, .int 0, .int 1, .ref q93, .int 0, .ref q94, .null, .ref q95, .null, .ref q96, .ref q97, .ref q98, .ref q99, .ref q100, .int 0, .ref q101, .ref q102, .ref q103, .ref q104, .ref q105, .int 0, .int 0]))]) [0] (by decide) rfl
    have hKc := hK.sub (tys' := []) [] rfl
    have hFc := va_free (wc := [(q86, .inr (15, [.ref q87, .ref q88, .ref q89, .ref q90, .ref q91, .ref q92, .int 0, .int 1, .ref q93, .int 0, .ref q94, .null, .ref q95, .null, .ref q96, .ref q97, .ref q98, .ref q99, .ref q100, .int 0, .ref q101, .ref q102, .ref q103, .ref q104, .ref q105, .int 0, .int 0]))]) hD hS hA [0] rfl
    refine va_calli (va_runV (As := [.int (xs 1)]) (rest := []) ⟨hx, hb, hml, hown, hts⟩ (c_X13_signAt_2 l dC dI q86 q87 q88 q89 q90 q91 q92 q93 q94 q95 q96 q97 q98 q99 q100 q101 q102 q103 q104 q105 H.size (xs 1) hc0 hc1) (cwV 1 hts gL_law_X13_signAt rfl rfl rfl (by decide +kernel) ⟨Nat.le_of_ble_eq_true rfl, Nat.le_of_ble_eq_true rfl⟩) ⟨zB_blind, va_recv hK hP (ci := 15) (q0 := 0) rfl rfl, (zPre hPc hDc hKc hS hFc hZ hN)⟩ rfl rfl hl.1 rfl (lv_room (Nat.le_of_ble_eq_true rfl)) dL_law_319 ⟨Nat.le_of_ble_eq_true rfl, Nat.le_of_ble_eq_true rfl⟩) hS (fun q _ h => hFc q h) hFc (fun r u t H1 locs ht hvm hw hB hz1 hk1 hS => ?_)
    subst hw
    obtain ⟨hP1, hK1, hD1⟩ := hB
    rw [ht] at hP1
    have hK1 := va_K.moved hvm.symm hK1
    obtain ⟨hP, hD⟩ := va_join (wr := []) (w1 := [(q86, .inr (15, [.ref q87, .ref q88, .ref q89, .ref q90, .ref q91, .ref q92, .int 0, .int 1, .ref q93, .int 0, .ref q94, .null, .ref q95, .null, .ref q96, .ref q97, .ref q98, .ref q99, .ref q100, .int 1, .ref q101, .ref q102, .ref q103, .ref q104, .ref q105, .int 0, .int 0]))]) hP hD [0] [] rfl rfl (by decide) (by decide) hk1 hFc hP1 hD1
    have hK := (hK.sub (tys' := []) [] rfl).app hK1
    generalize H1 = H at hP hS ⊢
    have hP : va_P (dC, dI) vwCl [(q86, .inr (15, [.ref q87, .ref q88, .ref q89, .ref q90, .ref q91, .ref q92, .int 0, .int 1, .ref q93, .int 0, .ref q94, .null, .ref q95, .null, .ref q96, .ref q97, .ref q98, .ref q99, .ref q100, .int 1, .ref q101, .ref q102, .ref q103, .ref q104, .ref q105, .int 0, .int 0]))] H := hP
    have hD : va_D (fun q : Nat => s.heap.size ≤ q) [(q86, .inr (15, [.ref q87, .ref q88, .ref q89, .ref q90, .ref q91, .ref q92, .int 0, .int 1, .ref q93, .int 0, .ref q94, .null, .ref q95, .null, .ref q96, .ref q97, .ref q98, .ref q99, .ref q100, .int 1, .ref q101, .ref q102, .ref q103, .ref q104, .ref q105, .int 0, .int 0]))] := hD
    have hK : va_K (dC, dI) vwCl [] s := hK
    refine W.widen (k := 132) (n := 6698) (Nat.le_of_ble_eq_true rfl) (Nat.le_of_ble_eq_true rfl) ?_
    refine lv_istore (lv' := [(6, .int 32), (5, .int 1), (4, .int 0), (3, .ref q106), (2, .ref q86), (1, .ref q0), (0, .ref b)]) hx hb dL_law_322 hl (by decide) rfl (fun ls hl => ?_)
    refine lv_aload_n hx hb dL_law_324 rfl (lv_at hl 4 rfl) ?_
    have hPc := hP.sub (ws' := [(q86, .inr (15, [.ref q87, .ref q88, .ref q89, .ref q90, .ref q91, .ref q92, .int 0, .int 1, .ref q93, .int 0, .ref q94, .null, .ref q95, .null, .ref q96, .ref q97, .ref q98, .ref q99, .ref q100, .int 1, .ref q101, .ref q102, .ref q103, .ref q104, .ref q105, .int 0, .int 0]))]) [0] rfl
    have hDc := hD.sub (ws' := [(q86, .inr (15, [.ref q87, .ref q88, .ref q89, .ref q90, .ref q91, .ref q92, .int 0, .int 1, .ref q93, .int 0, .ref q94, .null, .ref q95, .null, .ref q96, .ref q97, .ref q98, .ref q99, .ref q100, .int 1, .ref q101, .ref q102, .ref q103, .ref q104, .ref q105, .int 0, .int 0]))]) [0] (by decide) rfl
    have hKc := hK.sub (tys' := []) [] rfl
    have hFc := va_free (wc := [(q86, .inr (15, [.ref q87, .ref q88, .ref q89, .ref q90, .ref q91, .ref q92, .int 0, .int 1, .ref q93, .int 0, .ref q94, .null, .ref q95, .null, .ref q96, .ref q97, .ref q98, .ref q99, .ref q100, .int 1, .ref q101, .ref q102, .ref q103, .ref q104, .ref q105, .int 0, .int 0]))]) hD hS hA [0] rfl
    refine va_calli (va_runV (As := []) (rest := []) ⟨hx, hb, hml, hown, hts⟩ (c_X13_thrown l dC dI q86 q87 q88 q89 q90 q91 q92 q93 q94 q95 q96 q97 q98 q99 q100 q101 q102 q103 q104 q105 H.size  ) (cwV 0 hts gL_law_X13_thrown rfl rfl rfl (by decide +kernel) ⟨Nat.le_of_ble_eq_true rfl, Nat.le_of_ble_eq_true rfl⟩) ⟨zB_blind, va_recv hK hP (ci := 15) (q0 := 0) rfl rfl, (zPre hPc hDc hKc hS hFc hZ hN)⟩ rfl rfl hl.1 rfl (lv_room (Nat.le_of_ble_eq_true rfl)) dL_law_325 ⟨Nat.le_of_ble_eq_true rfl, Nat.le_of_ble_eq_true rfl⟩) hS (fun q _ h => hFc q h) hFc (fun r u t H1 locs ht hvm hw hB hz1 hk1 hS => ?_)
    subst hw
    obtain ⟨hP1, hK1, hD1⟩ := hB
    rw [ht] at hP1
    have hK1 := va_K.moved hvm.symm hK1
    obtain ⟨hP, hD⟩ := va_join (wr := []) (w1 := []) hP hD [0] [] rfl rfl (by decide) (by decide) hk1 hFc hP1 hD1
    have hK := (hK.sub (tys' := []) [] rfl).app hK1
    generalize H1 = H at hP hS ⊢
    have hP : va_P (dC, dI) vwCl [] H := hP
    have hD : va_D (fun q : Nat => s.heap.size ≤ q) [] := hD
    have hK : va_K (dC, dI) vwCl [] s := hK
    refine W.widen (k := 132) (n := 6698) (Nat.le_of_ble_eq_true rfl) (Nat.le_of_ble_eq_true rfl) ?_
    refine lv_iload hx hb dL_law_328 (lv_at hl 1 rfl) ?_
    refine lv_icmp_eq (tgt := 335) hx hb dL_law_330 (by decide) (fun _ => ?_) (fun h9 => absurd (show (1 : Int32) = (1 : Int32) by decide +kernel) h9)
    refine lv_iload hx hb dL_law_335 (lv_at hl 1 rfl) ?_
    refine lv_if_ne (tgt := 352) hx hb dL_law_337 (by decide) (fun _ => ?_) (fun h9 => absurd h9 (show ¬ (1 : Int32) = (0 : Int32) by decide +kernel))
    refine lv_goto (tgt := 2311) hx hb dL_law_352 (by decide) ?_
    exact law_exit C0 hS (Nat.le_of_ble_eq_true rfl) (Nat.le_of_ble_eq_true rfl) ls (lv_sub hl [2, 3, 4, 5, 6] rfl)
set_option maxHeartbeats 8000000 in
set_option maxRecDepth 100000 in
theorem law_case_3 {p : Program} {l : Launch} {e : Env} {s : State} {m : MethodId} {below : List Frame} {meth : Method} {c : Code} {b : Nat} {xs : Nat → Int32} (hfl : l.stackTraces = false) (C0 : lw_At p s m meth c b 4 xs) {dC : Nat → ClassId} {dI : Nat → Nat → Nat} {q0 q1 q3 q5 q7 q9 q11 q13 q15 q17 q21 q25 q26 q27 q2 q4 q6 q8 q10 q16 q18 q22 q23 q86 q87 q88 q89 q90 q91 q92 q93 q94 q95 q96 q97 q98 q99 q100 q101 q102 q103 q104 q105 q106 : Nat} {k2 k4 k87 k88 k89 k90 k91 k92 k93 k94 k96 k106 : ClassId} {H : Heap} {locs : List Loc} (hK : va_K (dC, dI) vwCl [(k2, .char), (k4, (.object "Seekwell$Text")), (k87, .boolean), (k88, .int), (k89, .int), (k90, .char), (k91, (.array .long)), (k92, (.array .long)), (k93, .int), (k94, .int), (k96, .boolean), (k106, .long)] s) (hP : va_P (dC, dI) vwCl [(q0, .inr (13, [.ref q1, .ref q3, .ref q5, .ref q7, .ref q9, .ref q11, .ref q13, .ref q15, .int 0, .ref q17, .ref q21, .ref q25, .ref q26, .ref q27])), (q1, .inr (7, [.ref q2, .int 0])), (q2, .inl (k2, 512, .inl (fun _ => 0))), (q3, .inr (11, [.ref q4, .int 0, .int 1])), (q4, .inl (k4, 24, .inr (.inr (.inr (.inr (fun _ => none)))))), (q5, .inr (11, [.ref q6, .int 0, .int 1])), (q7, .inr (10, [.ref q8, .int 0])), (q9, .inr (5, [.ref q10, .int 0, .int 0])), (q15, .inr (5, [.ref q16, .int 0, .int 0])), (q17, .inr (9, [.ref q18, .ref q18, .null])), (q21, .inr (9, [.ref q22, .ref q22, .null])), (q22, .inr (8, [.int 0, .int 0, .int 1, .int 0, .int 0, .int 0, .ref q23, .null, .null, .null, .null, .int 0, .int 0, .int 0, .int 0, .null, .null])), (q26, .inr (3, [.null, .null, .int 0, .int 0, .null])), (q86, .inr (15, [.ref q87, .ref q88, .ref q89, .ref q90, .ref q91, .ref q92, .int 0, .int 1, .ref q93, .int 0, .ref q94, .null, .ref q95, .null, .ref q96, .ref q97, .ref q98, .ref q99, .ref q100, .int 0, .ref q101, .ref q102, .ref q103, .ref q104, .ref q105, .int 0, .int 0])), (q87, .inl (k87, 24, .inl (fun _ => 0))), (q88, .inl (k88, 24, .inl (fun _ => 0))), (q89, .inl (k89, 24, .inl (fun _ => 0))), (q90, .inl (k90, 24, .inl (fun _ => 0))), (q91, .inl (k91, 24, .inr (.inr (.inr (.inr (fun _ => none)))))), (q92, .inl (k92, 24, .inr (.inr (.inr (.inr (fun _ => none)))))), (q93, .inl (k93, 4000, .inl (fun _ => 0))), (q94, .inl (k94, 0, .inl (fun _ => 0))), (q96, .inl (k96, 24, .inl (fun _ => 0))), (q106, .inl (k106, 1, .inr (.inl (fun _ => 0))))] H) (hD : va_D (fun q : Nat => s.heap.size ≤ q) [(q0, .inr (13, [.ref q1, .ref q3, .ref q5, .ref q7, .ref q9, .ref q11, .ref q13, .ref q15, .int 0, .ref q17, .ref q21, .ref q25, .ref q26, .ref q27])), (q1, .inr (7, [.ref q2, .int 0])), (q2, .inl (k2, 512, .inl (fun _ => 0))), (q3, .inr (11, [.ref q4, .int 0, .int 1])), (q4, .inl (k4, 24, .inr (.inr (.inr (.inr (fun _ => none)))))), (q5, .inr (11, [.ref q6, .int 0, .int 1])), (q7, .inr (10, [.ref q8, .int 0])), (q9, .inr (5, [.ref q10, .int 0, .int 0])), (q15, .inr (5, [.ref q16, .int 0, .int 0])), (q17, .inr (9, [.ref q18, .ref q18, .null])), (q21, .inr (9, [.ref q22, .ref q22, .null])), (q22, .inr (8, [.int 0, .int 0, .int 1, .int 0, .int 0, .int 0, .ref q23, .null, .null, .null, .null, .int 0, .int 0, .int 0, .int 0, .null, .null])), (q26, .inr (3, [.null, .null, .int 0, .int 0, .null])), (q86, .inr (15, [.ref q87, .ref q88, .ref q89, .ref q90, .ref q91, .ref q92, .int 0, .int 1, .ref q93, .int 0, .ref q94, .null, .ref q95, .null, .ref q96, .ref q97, .ref q98, .ref q99, .ref q100, .int 0, .ref q101, .ref q102, .ref q103, .ref q104, .ref q105, .int 0, .int 0])), (q87, .inl (k87, 24, .inl (fun _ => 0))), (q88, .inl (k88, 24, .inl (fun _ => 0))), (q89, .inl (k89, 24, .inl (fun _ => 0))), (q90, .inl (k90, 24, .inl (fun _ => 0))), (q91, .inl (k91, 24, .inr (.inr (.inr (.inr (fun _ => none)))))), (q92, .inl (k92, 24, .inr (.inr (.inr (.inr (fun _ => none)))))), (q93, .inl (k93, 4000, .inl (fun _ => 0))), (q94, .inl (k94, 0, .inl (fun _ => 0))), (q96, .inl (k96, 24, .inl (fun _ => 0))), (q106, .inl (k106, 1, .inr (.inl (fun _ => 0))))]) (hS : va_S (fun q : Nat => s.heap.size ≤ q) s.heap H locs) (hZ : zZ (fun q : Nat => s.heap.size ≤ q) s s.heap) (hN : zN s) (ls : Array Slot) (hl : lv_has ls 7 [(4, .int 0), (3, .ref q106), (2, .ref q86), (1, .ref q0), (0, .ref b)]) : W p l e room_1 s m #[Value.ref b] below meth c H locs 131 6692 (lw_Z below #[Value.ref b] s) (F0 m 355 ls []) := by
  obtain ⟨hx, hb, hr, hml, hown, hts, hX, hbl, hlocks, hgv⟩ := id C0
  have hbA : ¬ (fun q : Nat => s.heap.size ≤ q) b := Nat.not_le.mpr hbl
  have hA : ∀ q : Nat, s.heap.size ≤ q → (fun q : Nat => s.heap.size ≤ q) q := fun _ h => h
  by_cases hb0 : (xs 1) < (0 : Int32)
  · skip
    have hc0 : (xs 1) < (0 : Int32) := hb0
    refine lv_aload_n hx hb dL_law_355 rfl (lv_at hl 3 rfl) ?_
    refine lv_aload_n hx hb dL_law_356 rfl (lv_at hl 4 rfl) ?_
    refine lv_iload hx hb dL_law_357 (lv_at hl 0 rfl) ?_
    refine lv_iconst (v := 1) hx hb dL_law_359 (by decide +kernel) ?_
    refine lv_iadd hx hb dL_law_360 ?_
    refine zt_i (v := 1) (by decide +kernel) ?_
    refine va_sld hx hb hX hbl hbA hS (i := 1) (zin (by decide +kernel)) dL_law_361 ?_
    refine zt_v (w := .int (xs 1)) rfl ?_
    refine lv_aload_n hx hb dL_law_362 rfl (lv_at hl 4 rfl) ?_
    refine lv_iload hx hb dL_law_363 (lv_at hl 0 rfl) ?_
    refine lv_iconst (v := 2) hx hb dL_law_365 (by decide +kernel) ?_
    refine lv_iadd hx hb dL_law_366 ?_
    refine zt_i (v := 2) (by decide +kernel) ?_
    refine va_sld hx hb hX hbl hbA hS (i := 2) (zin (by decide +kernel)) dL_law_367 ?_
    refine zt_v (w := .int (xs 2)) rfl ?_
    refine lv_i2c (v := (zc (xs 2))) hx hb dL_law_368 rfl ?_
    refine lv_aload_n hx hb dL_law_369 rfl (lv_at hl 1 rfl) ?_
    have hPc := hP.sub (ws' := [(q0, .inr (13, [.ref q1, .ref q3, .ref q5, .ref q7, .ref q9, .ref q11, .ref q13, .ref q15, .int 0, .ref q17, .ref q21, .ref q25, .ref q26, .ref q27]))]) [0] rfl
    have hDc := hD.sub (ws' := [(q0, .inr (13, [.ref q1, .ref q3, .ref q5, .ref q7, .ref q9, .ref q11, .ref q13, .ref q15, .int 0, .ref q17, .ref q21, .ref q25, .ref q26, .ref q27]))]) [0] (by decide) rfl
    have hKc := hK.sub (tys' := []) [] rfl
    have hFc := va_free (wc := [(q0, .inr (13, [.ref q1, .ref q3, .ref q5, .ref q7, .ref q9, .ref q11, .ref q13, .ref q15, .int 0, .ref q17, .ref q21, .ref q25, .ref q26, .ref q27]))]) hD hS hA [0] rfl
    refine va_calli (vx_runSW (As := [.ref q0, .int (xs 1), .int (zc (xs 2)), .ref q106]) (rest := []) ⟨hx, hb, hml, hown, hts⟩ (c_L_add l hfl dC dI q0 q106 q1 q3 q5 q7 q9 q11 q13 q15 q17 q21 q25 q26 q27 H.size (xs 1) (zc (xs 2)) hc0) (vx_cwSW 4 hts gL_law_L_add rfl rfl rfl (by decide +kernel) ⟨Nat.le_of_ble_eq_true rfl, Nat.le_of_ble_eq_true rfl⟩) ⟨zB_blind, (zPre hPc hDc hKc hS hFc hZ hN)⟩ rfl rfl hl.1 rfl (lv_room (Nat.le_of_ble_eq_true rfl)) dL_law_370 ⟨Nat.le_of_ble_eq_true rfl, Nat.le_of_ble_eq_true rfl⟩) hS (fun q _ h => hFc q h) hFc (fun r u t H1 locs ht hvm hw hB hz1 hk1 hS => ?_)
    subst hw
    obtain ⟨hP1, hK1, hD1⟩ := hB
    rw [ht] at hP1
    have hK1 := va_K.moved hvm.symm hK1
    obtain ⟨hP, hD⟩ := va_join (wr := [(q86, .inr (15, [.ref q87, .ref q88, .ref q89, .ref q90, .ref q91, .ref q92, .int 0, .int 1, .ref q93, .int 0, .ref q94, .null, .ref q95, .null, .ref q96, .ref q97, .ref q98, .ref q99, .ref q100, .int 0, .ref q101, .ref q102, .ref q103, .ref q104, .ref q105, .int 0, .int 0]))]) (w1 := []) hP hD [0] [13] rfl rfl (by decide) (by decide) hk1 hFc hP1 hD1
    have hK := (hK.sub (tys' := []) [] rfl).app hK1
    generalize H1 = H at hP hS ⊢
    have hP : va_P (dC, dI) vwCl [(q86, .inr (15, [.ref q87, .ref q88, .ref q89, .ref q90, .ref q91, .ref q92, .int 0, .int 1, .ref q93, .int 0, .ref q94, .null, .ref q95, .null, .ref q96, .ref q97, .ref q98, .ref q99, .ref q100, .int 0, .ref q101, .ref q102, .ref q103, .ref q104, .ref q105, .int 0, .int 0]))] H := hP
    have hD : va_D (fun q : Nat => s.heap.size ≤ q) [(q86, .inr (15, [.ref q87, .ref q88, .ref q89, .ref q90, .ref q91, .ref q92, .int 0, .int 1, .ref q93, .int 0, .ref q94, .null, .ref q95, .null, .ref q96, .ref q97, .ref q98, .ref q99, .ref q100, .int 0, .ref q101, .ref q102, .ref q103, .ref q104, .ref q105, .int 0, .int 0]))] := hD
    have hK : va_K (dC, dI) vwCl [] s := hK
    refine W.widen (k := 132) (n := 6698) (Nat.le_of_ble_eq_true rfl) (Nat.le_of_ble_eq_true rfl) ?_
    refine lv_istore (lv' := [(5, .int 1), (4, .int 0), (3, .ref q106), (2, .ref q86), (1, .ref q0), (0, .ref b)]) hx hb dL_law_373 hl (by decide) rfl (fun ls hl => ?_)
    refine lv_aload_n hx hb dL_law_375 rfl (lv_at hl 3 rfl) ?_
    refine lv_aload_n hx hb dL_law_376 rfl (lv_at hl 5 rfl) ?_
    refine lv_iload hx hb dL_law_377 (lv_at hl 1 rfl) ?_
    refine lv_iconst (v := 1) hx hb dL_law_379 (by decide +kernel) ?_
    refine lv_iadd hx hb dL_law_380 ?_
    refine zt_i (v := 1) (by decide +kernel) ?_
    refine va_sld hx hb hX hbl hbA hS (i := 1) (zin (by decide +kernel)) dL_law_381 ?_
    refine zt_v (w := .int (xs 1)) rfl ?_
    refine lv_aload_n hx hb dL_law_382 rfl (lv_at hl 5 rfl) ?_
    refine lv_iload hx hb dL_law_383 (lv_at hl 1 rfl) ?_
    refine lv_iconst (v := 2) hx hb dL_law_385 (by decide +kernel) ?_
    refine lv_iadd hx hb dL_law_386 ?_
    refine zt_i (v := 2) (by decide +kernel) ?_
    refine va_sld hx hb hX hbl hbA hS (i := 2) (zin (by decide +kernel)) dL_law_387 ?_
    refine zt_v (w := .int (xs 2)) rfl ?_
    refine lv_i2c (v := (zc (xs 2))) hx hb dL_law_388 rfl ?_
    have hPc := hP.sub (ws' := [(q86, .inr (15, [.ref q87, .ref q88, .ref q89, .ref q90, .ref q91, .ref q92, .int 0, .int 1, .ref q93, .int 0, .ref q94, .null, .ref q95, .null, .ref q96, .ref q97, .ref q98, .ref q99, .ref q100, .int 0, .ref q101, .ref q102, .ref q103, .ref q104, .ref q105, .int 0, .int 0]))]) [0] rfl
    have hDc := hD.sub (ws' := [(q86, .inr (15, [.ref q87, .ref q88, .ref q89, .ref q90, .ref q91, .ref q92, .int 0, .int 1, .ref q93, .int 0, .ref q94, .null, .ref q95, .null, .ref q96, .ref q97, .ref q98, .ref q99, .ref q100, .int 0, .ref q101, .ref q102, .ref q103, .ref q104, .ref q105, .int 0, .int 0]))]) [0] (by decide) rfl
    have hKc := hK.sub (tys' := []) [] rfl
    have hFc := va_free (wc := [(q86, .inr (15, [.ref q87, .ref q88, .ref q89, .ref q90, .ref q91, .ref q92, .int 0, .int 1, .ref q93, .int 0, .ref q94, .null, .ref q95, .null, .ref q96, .ref q97, .ref q98, .ref q99, .ref q100, .int 0, .ref q101, .ref q102, .ref q103, .ref q104, .ref q105, .int 0, .int 0]))]) hD hS hA [0] rfl
    refine va_calli (va_runV (As := [.int (xs 1), .int (zc (xs 2))]) (rest := []) ⟨hx, hb, hml, hown, hts⟩ (c_X13_add l dC dI q86 q87 q88 q89 q90 q91 q92 q93 q94 q95 q96 q97 q98 q99 q100 q101 q102 q103 q104 q105 H.size (xs 1) (zc (xs 2)) hc0) (cwV 2 hts gL_law_X13_add rfl rfl rfl (by decide +kernel) ⟨Nat.le_of_ble_eq_true rfl, Nat.le_of_ble_eq_true rfl⟩) ⟨zB_blind, va_recv hK hP (ci := 15) (q0 := 0) rfl rfl, (zPre hPc hDc hKc hS hFc hZ hN)⟩ rfl rfl hl.1 rfl (lv_room (Nat.le_of_ble_eq_true rfl)) dL_law_389 ⟨Nat.le_of_ble_eq_true rfl, Nat.le_of_ble_eq_true rfl⟩) hS (fun q _ h => hFc q h) hFc (fun r u t H1 locs ht hvm hw hB hz1 hk1 hS => ?_)
    subst hw
    obtain ⟨hP1, hK1, hD1⟩ := hB
    rw [ht] at hP1
    have hK1 := va_K.moved hvm.symm hK1
    obtain ⟨hP, hD⟩ := va_join (wr := []) (w1 := [(q86, .inr (15, [.ref q87, .ref q88, .ref q89, .ref q90, .ref q91, .ref q92, .int 0, .int 1, .ref q93, .int 0, .ref q94, .null, .ref q95, .null, .ref q96, .ref q97, .ref q98, .ref q99, .ref q100, .int 1, .ref q101, .ref q102, .ref q103, .ref q104, .ref q105, .int 0, .int 0]))]) hP hD [0] [] rfl rfl (by decide) (by decide) hk1 hFc hP1 hD1
    have hK := (hK.sub (tys' := []) [] rfl).app hK1
    generalize H1 = H at hP hS ⊢
    have hP : va_P (dC, dI) vwCl [(q86, .inr (15, [.ref q87, .ref q88, .ref q89, .ref q90, .ref q91, .ref q92, .int 0, .int 1, .ref q93, .int 0, .ref q94, .null, .ref q95, .null, .ref q96, .ref q97, .ref q98, .ref q99, .ref q100, .int 1, .ref q101, .ref q102, .ref q103, .ref q104, .ref q105, .int 0, .int 0]))] H := hP
    have hD : va_D (fun q : Nat => s.heap.size ≤ q) [(q86, .inr (15, [.ref q87, .ref q88, .ref q89, .ref q90, .ref q91, .ref q92, .int 0, .int 1, .ref q93, .int 0, .ref q94, .null, .ref q95, .null, .ref q96, .ref q97, .ref q98, .ref q99, .ref q100, .int 1, .ref q101, .ref q102, .ref q103, .ref q104, .ref q105, .int 0, .int 0]))] := hD
    have hK : va_K (dC, dI) vwCl [] s := hK
    refine W.widen (k := 132) (n := 6698) (Nat.le_of_ble_eq_true rfl) (Nat.le_of_ble_eq_true rfl) ?_
    refine lv_istore (lv' := [(6, .int 0), (5, .int 1), (4, .int 0), (3, .ref q106), (2, .ref q86), (1, .ref q0), (0, .ref b)]) hx hb dL_law_392 hl (by decide) rfl (fun ls hl => ?_)
    refine lv_aload_n hx hb dL_law_394 rfl (lv_at hl 4 rfl) ?_
    have hPc := hP.sub (ws' := [(q86, .inr (15, [.ref q87, .ref q88, .ref q89, .ref q90, .ref q91, .ref q92, .int 0, .int 1, .ref q93, .int 0, .ref q94, .null, .ref q95, .null, .ref q96, .ref q97, .ref q98, .ref q99, .ref q100, .int 1, .ref q101, .ref q102, .ref q103, .ref q104, .ref q105, .int 0, .int 0]))]) [0] rfl
    have hDc := hD.sub (ws' := [(q86, .inr (15, [.ref q87, .ref q88, .ref q89, .ref q90, .ref q91, .ref q92, .int 0, .int 1, .ref q93, .int 0, .ref q94, .null, .ref q95, .null, .ref q96, .ref q97, .ref q98, .ref q99, .ref q100, .int 1, .ref q101, .ref q102, .ref q103, .ref q104, .ref q105, .int 0, .int 0]))]) [0] (by decide) rfl
    have hKc := hK.sub (tys' := []) [] rfl
    have hFc := va_free (wc := [(q86, .inr (15, [.ref q87, .ref q88, .ref q89, .ref q90, .ref q91, .ref q92, .int 0, .int 1, .ref q93, .int 0, .ref q94, .null, .ref q95, .null, .ref q96, .ref q97, .ref q98, .ref q99, .ref q100, .int 1, .ref q101, .ref q102, .ref q103, .ref q104, .ref q105, .int 0, .int 0]))]) hD hS hA [0] rfl
    refine va_calli (va_runV (As := []) (rest := []) ⟨hx, hb, hml, hown, hts⟩ (c_X13_thrown l dC dI q86 q87 q88 q89 q90 q91 q92 q93 q94 q95 q96 q97 q98 q99 q100 q101 q102 q103 q104 q105 H.size  ) (cwV 0 hts gL_law_X13_thrown rfl rfl rfl (by decide +kernel) ⟨Nat.le_of_ble_eq_true rfl, Nat.le_of_ble_eq_true rfl⟩) ⟨zB_blind, va_recv hK hP (ci := 15) (q0 := 0) rfl rfl, (zPre hPc hDc hKc hS hFc hZ hN)⟩ rfl rfl hl.1 rfl (lv_room (Nat.le_of_ble_eq_true rfl)) dL_law_395 ⟨Nat.le_of_ble_eq_true rfl, Nat.le_of_ble_eq_true rfl⟩) hS (fun q _ h => hFc q h) hFc (fun r u t H1 locs ht hvm hw hB hz1 hk1 hS => ?_)
    subst hw
    obtain ⟨hP1, hK1, hD1⟩ := hB
    rw [ht] at hP1
    have hK1 := va_K.moved hvm.symm hK1
    obtain ⟨hP, hD⟩ := va_join (wr := []) (w1 := []) hP hD [0] [] rfl rfl (by decide) (by decide) hk1 hFc hP1 hD1
    have hK := (hK.sub (tys' := []) [] rfl).app hK1
    generalize H1 = H at hP hS ⊢
    have hP : va_P (dC, dI) vwCl [] H := hP
    have hD : va_D (fun q : Nat => s.heap.size ≤ q) [] := hD
    have hK : va_K (dC, dI) vwCl [] s := hK
    refine W.widen (k := 132) (n := 6698) (Nat.le_of_ble_eq_true rfl) (Nat.le_of_ble_eq_true rfl) ?_
    refine lv_iload hx hb dL_law_398 (lv_at hl 1 rfl) ?_
    refine lv_icmp_eq (tgt := 405) hx hb dL_law_400 (by decide) (fun _ => ?_) (fun h9 => absurd (show (1 : Int32) = (1 : Int32) by decide +kernel) h9)
    refine lv_iload hx hb dL_law_405 (lv_at hl 1 rfl) ?_
    refine lv_if_ne (tgt := 422) hx hb dL_law_407 (by decide) (fun _ => ?_) (fun h9 => absurd h9 (show ¬ (1 : Int32) = (0 : Int32) by decide +kernel))
    refine lv_goto (tgt := 2311) hx hb dL_law_422 (by decide) ?_
    exact law_exit C0 hS (Nat.le_of_ble_eq_true rfl) (Nat.le_of_ble_eq_true rfl) ls (lv_sub hl [2, 3, 4, 5, 6] rfl)
  · skip
    by_cases hb1 : (999 : Int32) < (xs 1)
    · skip
      have hc0 : ¬ (xs 1) < (0 : Int32) := hb0
      have hc1 : (999 : Int32) < (xs 1) := hb1
      refine lv_aload_n hx hb dL_law_355 rfl (lv_at hl 3 rfl) ?_
      refine lv_aload_n hx hb dL_law_356 rfl (lv_at hl 4 rfl) ?_
      refine lv_iload hx hb dL_law_357 (lv_at hl 0 rfl) ?_
      refine lv_iconst (v := 1) hx hb dL_law_359 (by decide +kernel) ?_
      refine lv_iadd hx hb dL_law_360 ?_
      refine zt_i (v := 1) (by decide +kernel) ?_
      refine va_sld hx hb hX hbl hbA hS (i := 1) (zin (by decide +kernel)) dL_law_361 ?_
      refine zt_v (w := .int (xs 1)) rfl ?_
      refine lv_aload_n hx hb dL_law_362 rfl (lv_at hl 4 rfl) ?_
      refine lv_iload hx hb dL_law_363 (lv_at hl 0 rfl) ?_
      refine lv_iconst (v := 2) hx hb dL_law_365 (by decide +kernel) ?_
      refine lv_iadd hx hb dL_law_366 ?_
      refine zt_i (v := 2) (by decide +kernel) ?_
      refine va_sld hx hb hX hbl hbA hS (i := 2) (zin (by decide +kernel)) dL_law_367 ?_
      refine zt_v (w := .int (xs 2)) rfl ?_
      refine lv_i2c (v := (zc (xs 2))) hx hb dL_law_368 rfl ?_
      refine lv_aload_n hx hb dL_law_369 rfl (lv_at hl 1 rfl) ?_
      have hPc := hP.sub (ws' := [(q0, .inr (13, [.ref q1, .ref q3, .ref q5, .ref q7, .ref q9, .ref q11, .ref q13, .ref q15, .int 0, .ref q17, .ref q21, .ref q25, .ref q26, .ref q27]))]) [0] rfl
      have hDc := hD.sub (ws' := [(q0, .inr (13, [.ref q1, .ref q3, .ref q5, .ref q7, .ref q9, .ref q11, .ref q13, .ref q15, .int 0, .ref q17, .ref q21, .ref q25, .ref q26, .ref q27]))]) [0] (by decide) rfl
      have hKc := hK.sub (tys' := []) [] rfl
      have hFc := va_free (wc := [(q0, .inr (13, [.ref q1, .ref q3, .ref q5, .ref q7, .ref q9, .ref q11, .ref q13, .ref q15, .int 0, .ref q17, .ref q21, .ref q25, .ref q26, .ref q27]))]) hD hS hA [0] rfl
      refine va_calli (vx_runSW (As := [.ref q0, .int (xs 1), .int (zc (xs 2)), .ref q106]) (rest := []) ⟨hx, hb, hml, hown, hts⟩ (c_L_add_2 l hfl dC dI q0 q106 q1 q3 q5 q7 q9 q11 q13 q15 q17 q21 q25 q26 q27 H.size (xs 1) (zc (xs 2)) hc0 hc1) (vx_cwSW 4 hts gL_law_L_add rfl rfl rfl (by decide +kernel) ⟨Nat.le_of_ble_eq_true rfl, Nat.le_of_ble_eq_true rfl⟩) ⟨zB_blind, (zPre hPc hDc hKc hS hFc hZ hN)⟩ rfl rfl hl.1 rfl (lv_room (Nat.le_of_ble_eq_true rfl)) dL_law_370 ⟨Nat.le_of_ble_eq_true rfl, Nat.le_of_ble_eq_true rfl⟩) hS (fun q _ h => hFc q h) hFc (fun r u t H1 locs ht hvm hw hB hz1 hk1 hS => ?_)
      subst hw
      obtain ⟨hP1, hK1, hD1⟩ := hB
      rw [ht] at hP1
      have hK1 := va_K.moved hvm.symm hK1
      obtain ⟨hP, hD⟩ := va_join (wr := [(q86, .inr (15, [.ref q87, .ref q88, .ref q89, .ref q90, .ref q91, .ref q92, .int 0, .int 1, .ref q93, .int 0, .ref q94, .null, .ref q95, .null, .ref q96, .ref q97, .ref q98, .ref q99, .ref q100, .int 0, .ref q101, .ref q102, .ref q103, .ref q104, .ref q105, .int 0, .int 0]))]) (w1 := []) hP hD [0] [13] rfl rfl (by decide) (by decide) hk1 hFc hP1 hD1
      have hK := (hK.sub (tys' := []) [] rfl).app hK1
      generalize H1 = H at hP hS ⊢
      have hP : va_P (dC, dI) vwCl [(q86, .inr (15, [.ref q87, .ref q88, .ref q89, .ref q90, .ref q91, .ref q92, .int 0, .int 1, .ref q93, .int 0, .ref q94, .null, .ref q95, .null, .ref q96, .ref q97, .ref q98, .ref q99, .ref q100, .int 0, .ref q101, .ref q102, .ref q103, .ref q104, .ref q105, .int 0, .int 0]))] H := hP
      have hD : va_D (fun q : Nat => s.heap.size ≤ q) [(q86, .inr (15, [.ref q87, .ref q88, .ref q89, .ref q90, .ref q91, .ref q92, .int 0, .int 1, .ref q93, .int 0, .ref q94, .null, .ref q95, .null, .ref q96, .ref q97, .ref q98, .ref q99, .ref q100, .int 0, .ref q101, .ref q102, .ref q103, .ref q104, .ref q105, .int 0, .int 0]))] := hD
      have hK : va_K (dC, dI) vwCl [] s := hK
      refine W.widen (k := 132) (n := 6698) (Nat.le_of_ble_eq_true rfl) (Nat.le_of_ble_eq_true rfl) ?_
      refine lv_istore (lv' := [(5, .int 1), (4, .int 0), (3, .ref q106), (2, .ref q86), (1, .ref q0), (0, .ref b)]) hx hb dL_law_373 hl (by decide) rfl (fun ls hl => ?_)
      refine lv_aload_n hx hb dL_law_375 rfl (lv_at hl 3 rfl) ?_
      refine lv_aload_n hx hb dL_law_376 rfl (lv_at hl 5 rfl) ?_
      refine lv_iload hx hb dL_law_377 (lv_at hl 1 rfl) ?_
      refine lv_iconst (v := 1) hx hb dL_law_379 (by decide +kernel) ?_
      refine lv_iadd hx hb dL_law_380 ?_
      refine zt_i (v := 1) (by decide +kernel) ?_
      refine va_sld hx hb hX hbl hbA hS (i := 1) (zin (by decide +kernel)) dL_law_381 ?_
      refine zt_v (w := .int (xs 1)) rfl ?_
      refine lv_aload_n hx hb dL_law_382 rfl (lv_at hl 5 rfl) ?_
      refine lv_iload hx hb dL_law_383 (lv_at hl 1 rfl) ?_
      refine lv_iconst (v := 2) hx hb dL_law_385 (by decide +kernel) ?_
      refine lv_iadd hx hb dL_law_386 ?_
      refine zt_i (v := 2) (by decide +kernel) ?_
      refine va_sld hx hb hX hbl hbA hS (i := 2) (zin (by decide +kernel)) dL_law_387 ?_
      refine zt_v (w := .int (xs 2)) rfl ?_
      refine lv_i2c (v := (zc (xs 2))) hx hb dL_law_388 rfl ?_
      have hPc := hP.sub (ws' := [(q86, .inr (15, [.ref q87, .ref q88, .ref q89, .ref q90, .ref q91, .ref q92, .int 0, .int 1, .ref q93, .int 0, .ref q94, .null, .ref q95, .null, .ref q96, .ref q97, .ref q98, .ref q99, .ref q100, .int 0, .ref q101, .ref q102, .ref q103, .ref q104, .ref q105, .int 0, .int 0]))]) [0] rfl
      have hDc := hD.sub (ws' := [(q86, .inr (15, [.ref q87, .ref q88, .ref q89, .ref q90, .ref q91, .ref q92, .int 0, .int 1, .ref q93, .int 0, .ref q94, .null, .ref q95, .null, .ref q96, .ref q97, .ref q98, .ref q99, .ref q100, .int 0, .ref q101, .ref q102, .ref q103, .ref q104, .ref q105, .int 0, .int 0]))]) [0] (by decide) rfl
      have hKc := hK.sub (tys' := []) [] rfl
      have hFc := va_free (wc := [(q86, .inr (15, [.ref q87, .ref q88, .ref q89, .ref q90, .ref q91, .ref q92, .int 0, .int 1, .ref q93, .int 0, .ref q94, .null, .ref q95, .null, .ref q96, .ref q97, .ref q98, .ref q99, .ref q100, .int 0, .ref q101, .ref q102, .ref q103, .ref q104, .ref q105, .int 0, .int 0]))]) hD hS hA [0] rfl
      refine va_calli (va_runV (As := [.int (xs 1), .int (zc (xs 2))]) (rest := []) ⟨hx, hb, hml, hown, hts⟩ (c_X13_add_2 l dC dI q86 q87 q88 q89 q90 q91 q92 q93 q94 q95 q96 q97 q98 q99 q100 q101 q102 q103 q104 q105 H.size (xs 1) (zc (xs 2)) hc0 hc1) (cwV 2 hts gL_law_X13_add rfl rfl rfl (by decide +kernel) ⟨Nat.le_of_ble_eq_true rfl, Nat.le_of_ble_eq_true rfl⟩) ⟨zB_blind, va_recv hK hP (ci := 15) (q0 := 0) rfl rfl, (zPre hPc hDc hKc hS hFc hZ hN)⟩ rfl rfl hl.1 rfl (lv_room (Nat.le_of_ble_eq_true rfl)) dL_law_389 ⟨Nat.le_of_ble_eq_true rfl, Nat.le_of_ble_eq_true rfl⟩) hS (fun q _ h => hFc q h) hFc (fun r u t H1 locs ht hvm hw hB hz1 hk1 hS => ?_)
      subst hw
      obtain ⟨hP1, hK1, hD1⟩ := hB
      rw [ht] at hP1
      have hK1 := va_K.moved hvm.symm hK1
      obtain ⟨hP, hD⟩ := va_join (wr := []) (w1 := [(q86, .inr (15, [.ref q87, .ref q88, .ref q89, .ref q90, .ref q91, .ref q92, .int 0, .int 1, .ref q93, .int 0, .ref q94, .null, .ref q95, .null, .ref q96, .ref q97, .ref q98, .ref q99, .ref q100, .int 1, .ref q101, .ref q102, .ref q103, .ref q104, .ref q105, .int 0, .int 0]))]) hP hD [0] [] rfl rfl (by decide) (by decide) hk1 hFc hP1 hD1
      have hK := (hK.sub (tys' := []) [] rfl).app hK1
      generalize H1 = H at hP hS ⊢
      have hP : va_P (dC, dI) vwCl [(q86, .inr (15, [.ref q87, .ref q88, .ref q89, .ref q90, .ref q91, .ref q92, .int 0, .int 1, .ref q93, .int 0, .ref q94, .null, .ref q95, .null, .ref q96, .ref q97, .ref q98, .ref q99, .ref q100, .int 1, .ref q101, .ref q102, .ref q103, .ref q104, .ref q105, .int 0, .int 0]))] H := hP
      have hD : va_D (fun q : Nat => s.heap.size ≤ q) [(q86, .inr (15, [.ref q87, .ref q88, .ref q89, .ref q90, .ref q91, .ref q92, .int 0, .int 1, .ref q93, .int 0, .ref q94, .null, .ref q95, .null, .ref q96, .ref q97, .ref q98, .ref q99, .ref q100, .int 1, .ref q101, .ref q102, .ref q103, .ref q104, .ref q105, .int 0, .int 0]))] := hD
      have hK : va_K (dC, dI) vwCl [] s := hK
      refine W.widen (k := 132) (n := 6698) (Nat.le_of_ble_eq_true rfl) (Nat.le_of_ble_eq_true rfl) ?_
      refine lv_istore (lv' := [(6, .int 0), (5, .int 1), (4, .int 0), (3, .ref q106), (2, .ref q86), (1, .ref q0), (0, .ref b)]) hx hb dL_law_392 hl (by decide) rfl (fun ls hl => ?_)
      refine lv_aload_n hx hb dL_law_394 rfl (lv_at hl 4 rfl) ?_
      have hPc := hP.sub (ws' := [(q86, .inr (15, [.ref q87, .ref q88, .ref q89, .ref q90, .ref q91, .ref q92, .int 0, .int 1, .ref q93, .int 0, .ref q94, .null, .ref q95, .null, .ref q96, .ref q97, .ref q98, .ref q99, .ref q100, .int 1, .ref q101, .ref q102, .ref q103, .ref q104, .ref q105, .int 0, .int 0]))]) [0] rfl
      have hDc := hD.sub (ws' := [(q86, .inr (15, [.ref q87, .ref q88, .ref q89, .ref q90, .ref q91, .ref q92, .int 0, .int 1, .ref q93, .int 0, .ref q94, .null, .ref q95, .null, .ref q96, .ref q97, .ref q98, .ref q99, .ref q100, .int 1, .ref q101, .ref q102, .ref q103, .ref q104, .ref q105, .int 0, .int 0]))]) [0] (by decide) rfl
      have hKc := hK.sub (tys' := []) [] rfl
      have hFc := va_free (wc := [(q86, .inr (15, [.ref q87, .ref q88, .ref q89, .ref q90, .ref q91, .ref q92, .int 0, .int 1, .ref q93, .int 0, .ref q94, .null, .ref q95, .null, .ref q96, .ref q97, .ref q98, .ref q99, .ref q100, .int 1, .ref q101, .ref q102, .ref q103, .ref q104, .ref q105, .int 0, .int 0]))]) hD hS hA [0] rfl
      refine va_calli (va_runV (As := []) (rest := []) ⟨hx, hb, hml, hown, hts⟩ (c_X13_thrown l dC dI q86 q87 q88 q89 q90 q91 q92 q93 q94 q95 q96 q97 q98 q99 q100 q101 q102 q103 q104 q105 H.size  ) (cwV 0 hts gL_law_X13_thrown rfl rfl rfl (by decide +kernel) ⟨Nat.le_of_ble_eq_true rfl, Nat.le_of_ble_eq_true rfl⟩) ⟨zB_blind, va_recv hK hP (ci := 15) (q0 := 0) rfl rfl, (zPre hPc hDc hKc hS hFc hZ hN)⟩ rfl rfl hl.1 rfl (lv_room (Nat.le_of_ble_eq_true rfl)) dL_law_395 ⟨Nat.le_of_ble_eq_true rfl, Nat.le_of_ble_eq_true rfl⟩) hS (fun q _ h => hFc q h) hFc (fun r u t H1 locs ht hvm hw hB hz1 hk1 hS => ?_)
      subst hw
      obtain ⟨hP1, hK1, hD1⟩ := hB
      rw [ht] at hP1
      have hK1 := va_K.moved hvm.symm hK1
      obtain ⟨hP, hD⟩ := va_join (wr := []) (w1 := []) hP hD [0] [] rfl rfl (by decide) (by decide) hk1 hFc hP1 hD1
      have hK := (hK.sub (tys' := []) [] rfl).app hK1
      generalize H1 = H at hP hS ⊢
      have hP : va_P (dC, dI) vwCl [] H := hP
      have hD : va_D (fun q : Nat => s.heap.size ≤ q) [] := hD
      have hK : va_K (dC, dI) vwCl [] s := hK
      refine W.widen (k := 132) (n := 6698) (Nat.le_of_ble_eq_true rfl) (Nat.le_of_ble_eq_true rfl) ?_
      refine lv_iload hx hb dL_law_398 (lv_at hl 1 rfl) ?_
      refine lv_icmp_eq (tgt := 405) hx hb dL_law_400 (by decide) (fun _ => ?_) (fun h9 => absurd (show (1 : Int32) = (1 : Int32) by decide +kernel) h9)
      refine lv_iload hx hb dL_law_405 (lv_at hl 1 rfl) ?_
      refine lv_if_ne (tgt := 422) hx hb dL_law_407 (by decide) (fun _ => ?_) (fun h9 => absurd h9 (show ¬ (1 : Int32) = (0 : Int32) by decide +kernel))
      refine lv_goto (tgt := 2311) hx hb dL_law_422 (by decide) ?_
      exact law_exit C0 hS (Nat.le_of_ble_eq_true rfl) (Nat.le_of_ble_eq_true rfl) ls (lv_sub hl [2, 3, 4, 5, 6] rfl)
    · skip
      by_cases hb2 : (zc (xs 2)) < (97 : Int32)
      · skip
        have hc0 : ¬ (xs 1) < (0 : Int32) := hb0
        have hc1 : ¬ (999 : Int32) < (xs 1) := hb1
        have hc2 : (zc (xs 2)) < (97 : Int32) := hb2
        refine lv_aload_n hx hb dL_law_355 rfl (lv_at hl 3 rfl) ?_
        refine lv_aload_n hx hb dL_law_356 rfl (lv_at hl 4 rfl) ?_
        refine lv_iload hx hb dL_law_357 (lv_at hl 0 rfl) ?_
        refine lv_iconst (v := 1) hx hb dL_law_359 (by decide +kernel) ?_
        refine lv_iadd hx hb dL_law_360 ?_
        refine zt_i (v := 1) (by decide +kernel) ?_
        refine va_sld hx hb hX hbl hbA hS (i := 1) (zin (by decide +kernel)) dL_law_361 ?_
        refine zt_v (w := .int (xs 1)) rfl ?_
        refine lv_aload_n hx hb dL_law_362 rfl (lv_at hl 4 rfl) ?_
        refine lv_iload hx hb dL_law_363 (lv_at hl 0 rfl) ?_
        refine lv_iconst (v := 2) hx hb dL_law_365 (by decide +kernel) ?_
        refine lv_iadd hx hb dL_law_366 ?_
        refine zt_i (v := 2) (by decide +kernel) ?_
        refine va_sld hx hb hX hbl hbA hS (i := 2) (zin (by decide +kernel)) dL_law_367 ?_
        refine zt_v (w := .int (xs 2)) rfl ?_
        refine lv_i2c (v := (zc (xs 2))) hx hb dL_law_368 rfl ?_
        refine lv_aload_n hx hb dL_law_369 rfl (lv_at hl 1 rfl) ?_
        have hPc := hP.sub (ws' := [(q0, .inr (13, [.ref q1, .ref q3, .ref q5, .ref q7, .ref q9, .ref q11, .ref q13, .ref q15, .int 0, .ref q17, .ref q21, .ref q25, .ref q26, .ref q27]))]) [0] rfl
        have hDc := hD.sub (ws' := [(q0, .inr (13, [.ref q1, .ref q3, .ref q5, .ref q7, .ref q9, .ref q11, .ref q13, .ref q15, .int 0, .ref q17, .ref q21, .ref q25, .ref q26, .ref q27]))]) [0] (by decide) rfl
        have hKc := hK.sub (tys' := []) [] rfl
        have hFc := va_free (wc := [(q0, .inr (13, [.ref q1, .ref q3, .ref q5, .ref q7, .ref q9, .ref q11, .ref q13, .ref q15, .int 0, .ref q17, .ref q21, .ref q25, .ref q26, .ref q27]))]) hD hS hA [0] rfl
        refine va_calli (vx_runSW (As := [.ref q0, .int (xs 1), .int (zc (xs 2)), .ref q106]) (rest := []) ⟨hx, hb, hml, hown, hts⟩ (c_L_add_3 l hfl dC dI q0 q106 q1 q3 q5 q7 q9 q11 q13 q15 q17 q21 q25 q26 q27 H.size (xs 1) (zc (xs 2)) hc0 hc1 hc2) (vx_cwSW 4 hts gL_law_L_add rfl rfl rfl (by decide +kernel) ⟨Nat.le_of_ble_eq_true rfl, Nat.le_of_ble_eq_true rfl⟩) ⟨zB_blind, (zPre hPc hDc hKc hS hFc hZ hN)⟩ rfl rfl hl.1 rfl (lv_room (Nat.le_of_ble_eq_true rfl)) dL_law_370 ⟨Nat.le_of_ble_eq_true rfl, Nat.le_of_ble_eq_true rfl⟩) hS (fun q _ h => hFc q h) hFc (fun r u t H1 locs ht hvm hw hB hz1 hk1 hS => ?_)
        subst hw
        obtain ⟨hP1, hK1, hD1⟩ := hB
        rw [ht] at hP1
        have hK1 := va_K.moved hvm.symm hK1
        obtain ⟨hP, hD⟩ := va_join (wr := [(q86, .inr (15, [.ref q87, .ref q88, .ref q89, .ref q90, .ref q91, .ref q92, .int 0, .int 1, .ref q93, .int 0, .ref q94, .null, .ref q95, .null, .ref q96, .ref q97, .ref q98, .ref q99, .ref q100, .int 0, .ref q101, .ref q102, .ref q103, .ref q104, .ref q105, .int 0, .int 0]))]) (w1 := []) hP hD [0] [13] rfl rfl (by decide) (by decide) hk1 hFc hP1 hD1
        have hK := (hK.sub (tys' := []) [] rfl).app hK1
        generalize H1 = H at hP hS ⊢
        have hP : va_P (dC, dI) vwCl [(q86, .inr (15, [.ref q87, .ref q88, .ref q89, .ref q90, .ref q91, .ref q92, .int 0, .int 1, .ref q93, .int 0, .ref q94, .null, .ref q95, .null, .ref q96, .ref q97, .ref q98, .ref q99, .ref q100, .int 0, .ref q101, .ref q102, .ref q103, .ref q104, .ref q105, .int 0, .int 0]))] H := hP
        have hD : va_D (fun q : Nat => s.heap.size ≤ q) [(q86, .inr (15, [.ref q87, .ref q88, .ref q89, .ref q90, .ref q91, .ref q92, .int 0, .int 1, .ref q93, .int 0, .ref q94, .null, .ref q95, .null, .ref q96, .ref q97, .ref q98, .ref q99, .ref q100, .int 0, .ref q101, .ref q102, .ref q103, .ref q104, .ref q105, .int 0, .int 0]))] := hD
        have hK : va_K (dC, dI) vwCl [] s := hK
        refine W.widen (k := 132) (n := 6698) (Nat.le_of_ble_eq_true rfl) (Nat.le_of_ble_eq_true rfl) ?_
        refine lv_istore (lv' := [(5, .int 1), (4, .int 0), (3, .ref q106), (2, .ref q86), (1, .ref q0), (0, .ref b)]) hx hb dL_law_373 hl (by decide) rfl (fun ls hl => ?_)
        refine lv_aload_n hx hb dL_law_375 rfl (lv_at hl 3 rfl) ?_
        refine lv_aload_n hx hb dL_law_376 rfl (lv_at hl 5 rfl) ?_
        refine lv_iload hx hb dL_law_377 (lv_at hl 1 rfl) ?_
        refine lv_iconst (v := 1) hx hb dL_law_379 (by decide +kernel) ?_
        refine lv_iadd hx hb dL_law_380 ?_
        refine zt_i (v := 1) (by decide +kernel) ?_
        refine va_sld hx hb hX hbl hbA hS (i := 1) (zin (by decide +kernel)) dL_law_381 ?_
        refine zt_v (w := .int (xs 1)) rfl ?_
        refine lv_aload_n hx hb dL_law_382 rfl (lv_at hl 5 rfl) ?_
        refine lv_iload hx hb dL_law_383 (lv_at hl 1 rfl) ?_
        refine lv_iconst (v := 2) hx hb dL_law_385 (by decide +kernel) ?_
        refine lv_iadd hx hb dL_law_386 ?_
        refine zt_i (v := 2) (by decide +kernel) ?_
        refine va_sld hx hb hX hbl hbA hS (i := 2) (zin (by decide +kernel)) dL_law_387 ?_
        refine zt_v (w := .int (xs 2)) rfl ?_
        refine lv_i2c (v := (zc (xs 2))) hx hb dL_law_388 rfl ?_
        have hPc := hP.sub (ws' := [(q86, .inr (15, [.ref q87, .ref q88, .ref q89, .ref q90, .ref q91, .ref q92, .int 0, .int 1, .ref q93, .int 0, .ref q94, .null, .ref q95, .null, .ref q96, .ref q97, .ref q98, .ref q99, .ref q100, .int 0, .ref q101, .ref q102, .ref q103, .ref q104, .ref q105, .int 0, .int 0]))]) [0] rfl
        have hDc := hD.sub (ws' := [(q86, .inr (15, [.ref q87, .ref q88, .ref q89, .ref q90, .ref q91, .ref q92, .int 0, .int 1, .ref q93, .int 0, .ref q94, .null, .ref q95, .null, .ref q96, .ref q97, .ref q98, .ref q99, .ref q100, .int 0, .ref q101, .ref q102, .ref q103, .ref q104, .ref q105, .int 0, .int 0]))]) [0] (by decide) rfl
        have hKc := hK.sub (tys' := []) [] rfl
        have hFc := va_free (wc := [(q86, .inr (15, [.ref q87, .ref q88, .ref q89, .ref q90, .ref q91, .ref q92, .int 0, .int 1, .ref q93, .int 0, .ref q94, .null, .ref q95, .null, .ref q96, .ref q97, .ref q98, .ref q99, .ref q100, .int 0, .ref q101, .ref q102, .ref q103, .ref q104, .ref q105, .int 0, .int 0]))]) hD hS hA [0] rfl
        refine va_calli (va_runV (As := [.int (xs 1), .int (zc (xs 2))]) (rest := []) ⟨hx, hb, hml, hown, hts⟩ (c_X13_add_3 l dC dI q86 q87 q88 q89 q90 q91 q92 q93 q94 q95 q96 q97 q98 q99 q100 q101 q102 q103 q104 q105 H.size (xs 1) (zc (xs 2)) hc0 hc1 hc2) (cwV 2 hts gL_law_X13_add rfl rfl rfl (by decide +kernel) ⟨Nat.le_of_ble_eq_true rfl, Nat.le_of_ble_eq_true rfl⟩) ⟨zB_blind, va_recv hK hP (ci := 15) (q0 := 0) rfl rfl, (zPre hPc hDc hKc hS hFc hZ hN)⟩ rfl rfl hl.1 rfl (lv_room (Nat.le_of_ble_eq_true rfl)) dL_law_389 ⟨Nat.le_of_ble_eq_true rfl, Nat.le_of_ble_eq_true rfl⟩) hS (fun q _ h => hFc q h) hFc (fun r u t H1 locs ht hvm hw hB hz1 hk1 hS => ?_)
        subst hw
        obtain ⟨hP1, hK1, hD1⟩ := hB
        rw [ht] at hP1
        have hK1 := va_K.moved hvm.symm hK1
        obtain ⟨hP, hD⟩ := va_join (wr := []) (w1 := [(q86, .inr (15, [.ref q87, .ref q88, .ref q89, .ref q90, .ref q91, .ref q92, .int 0, .int 1, .ref q93, .int 0, .ref q94, .null, .ref q95, .null, .ref q96, .ref q97, .ref q98, .ref q99, .ref q100, .int 1, .ref q101, .ref q102, .ref q103, .ref q104, .ref q105, .int 0, .int 0]))]) hP hD [0] [] rfl rfl (by decide) (by decide) hk1 hFc hP1 hD1
        have hK := (hK.sub (tys' := []) [] rfl).app hK1
        generalize H1 = H at hP hS ⊢
        have hP : va_P (dC, dI) vwCl [(q86, .inr (15, [.ref q87, .ref q88, .ref q89, .ref q90, .ref q91, .ref q92, .int 0, .int 1, .ref q93, .int 0, .ref q94, .null, .ref q95, .null, .ref q96, .ref q97, .ref q98, .ref q99, .ref q100, .int 1, .ref q101, .ref q102, .ref q103, .ref q104, .ref q105, .int 0, .int 0]))] H := hP
        have hD : va_D (fun q : Nat => s.heap.size ≤ q) [(q86, .inr (15, [.ref q87, .ref q88, .ref q89, .ref q90, .ref q91, .ref q92, .int 0, .int 1, .ref q93, .int 0, .ref q94, .null, .ref q95, .null, .ref q96, .ref q97, .ref q98, .ref q99, .ref q100, .int 1, .ref q101, .ref q102, .ref q103, .ref q104, .ref q105, .int 0, .int 0]))] := hD
        have hK : va_K (dC, dI) vwCl [] s := hK
        refine W.widen (k := 132) (n := 6698) (Nat.le_of_ble_eq_true rfl) (Nat.le_of_ble_eq_true rfl) ?_
        refine lv_istore (lv' := [(6, .int 0), (5, .int 1), (4, .int 0), (3, .ref q106), (2, .ref q86), (1, .ref q0), (0, .ref b)]) hx hb dL_law_392 hl (by decide) rfl (fun ls hl => ?_)
        refine lv_aload_n hx hb dL_law_394 rfl (lv_at hl 4 rfl) ?_
        have hPc := hP.sub (ws' := [(q86, .inr (15, [.ref q87, .ref q88, .ref q89, .ref q90, .ref q91, .ref q92, .int 0, .int 1, .ref q93, .int 0, .ref q94, .null, .ref q95, .null, .ref q96, .ref q97, .ref q98, .ref q99, .ref q100, .int 1, .ref q101, .ref q102, .ref q103, .ref q104, .ref q105, .int 0, .int 0]))]) [0] rfl
        have hDc := hD.sub (ws' := [(q86, .inr (15, [.ref q87, .ref q88, .ref q89, .ref q90, .ref q91, .ref q92, .int 0, .int 1, .ref q93, .int 0, .ref q94, .null, .ref q95, .null, .ref q96, .ref q97, .ref q98, .ref q99, .ref q100, .int 1, .ref q101, .ref q102, .ref q103, .ref q104, .ref q105, .int 0, .int 0]))]) [0] (by decide) rfl
        have hKc := hK.sub (tys' := []) [] rfl
        have hFc := va_free (wc := [(q86, .inr (15, [.ref q87, .ref q88, .ref q89, .ref q90, .ref q91, .ref q92, .int 0, .int 1, .ref q93, .int 0, .ref q94, .null, .ref q95, .null, .ref q96, .ref q97, .ref q98, .ref q99, .ref q100, .int 1, .ref q101, .ref q102, .ref q103, .ref q104, .ref q105, .int 0, .int 0]))]) hD hS hA [0] rfl
        refine va_calli (va_runV (As := []) (rest := []) ⟨hx, hb, hml, hown, hts⟩ (c_X13_thrown l dC dI q86 q87 q88 q89 q90 q91 q92 q93 q94 q95 q96 q97 q98 q99 q100 q101 q102 q103 q104 q105 H.size  ) (cwV 0 hts gL_law_X13_thrown rfl rfl rfl (by decide +kernel) ⟨Nat.le_of_ble_eq_true rfl, Nat.le_of_ble_eq_true rfl⟩) ⟨zB_blind, va_recv hK hP (ci := 15) (q0 := 0) rfl rfl, (zPre hPc hDc hKc hS hFc hZ hN)⟩ rfl rfl hl.1 rfl (lv_room (Nat.le_of_ble_eq_true rfl)) dL_law_395 ⟨Nat.le_of_ble_eq_true rfl, Nat.le_of_ble_eq_true rfl⟩) hS (fun q _ h => hFc q h) hFc (fun r u t H1 locs ht hvm hw hB hz1 hk1 hS => ?_)
        subst hw
        obtain ⟨hP1, hK1, hD1⟩ := hB
        rw [ht] at hP1
        have hK1 := va_K.moved hvm.symm hK1
        obtain ⟨hP, hD⟩ := va_join (wr := []) (w1 := []) hP hD [0] [] rfl rfl (by decide) (by decide) hk1 hFc hP1 hD1
        have hK := (hK.sub (tys' := []) [] rfl).app hK1
        generalize H1 = H at hP hS ⊢
        have hP : va_P (dC, dI) vwCl [] H := hP
        have hD : va_D (fun q : Nat => s.heap.size ≤ q) [] := hD
        have hK : va_K (dC, dI) vwCl [] s := hK
        refine W.widen (k := 132) (n := 6698) (Nat.le_of_ble_eq_true rfl) (Nat.le_of_ble_eq_true rfl) ?_
        refine lv_iload hx hb dL_law_398 (lv_at hl 1 rfl) ?_
        refine lv_icmp_eq (tgt := 405) hx hb dL_law_400 (by decide) (fun _ => ?_) (fun h9 => absurd (show (1 : Int32) = (1 : Int32) by decide +kernel) h9)
        refine lv_iload hx hb dL_law_405 (lv_at hl 1 rfl) ?_
        refine lv_if_ne (tgt := 422) hx hb dL_law_407 (by decide) (fun _ => ?_) (fun h9 => absurd h9 (show ¬ (1 : Int32) = (0 : Int32) by decide +kernel))
        refine lv_goto (tgt := 2311) hx hb dL_law_422 (by decide) ?_
        exact law_exit C0 hS (Nat.le_of_ble_eq_true rfl) (Nat.le_of_ble_eq_true rfl) ls (lv_sub hl [2, 3, 4, 5, 6] rfl)
      · skip
        by_cases hb3 : (122 : Int32) < (zc (xs 2))
        · skip
          have hc0 : ¬ (xs 1) < (0 : Int32) := hb0
          have hc1 : ¬ (999 : Int32) < (xs 1) := hb1
          have hc2 : ¬ (zc (xs 2)) < (97 : Int32) := hb2
          have hc3 : (122 : Int32) < (zc (xs 2)) := hb3
          refine lv_aload_n hx hb dL_law_355 rfl (lv_at hl 3 rfl) ?_
          refine lv_aload_n hx hb dL_law_356 rfl (lv_at hl 4 rfl) ?_
          refine lv_iload hx hb dL_law_357 (lv_at hl 0 rfl) ?_
          refine lv_iconst (v := 1) hx hb dL_law_359 (by decide +kernel) ?_
          refine lv_iadd hx hb dL_law_360 ?_
          refine zt_i (v := 1) (by decide +kernel) ?_
          refine va_sld hx hb hX hbl hbA hS (i := 1) (zin (by decide +kernel)) dL_law_361 ?_
          refine zt_v (w := .int (xs 1)) rfl ?_
          refine lv_aload_n hx hb dL_law_362 rfl (lv_at hl 4 rfl) ?_
          refine lv_iload hx hb dL_law_363 (lv_at hl 0 rfl) ?_
          refine lv_iconst (v := 2) hx hb dL_law_365 (by decide +kernel) ?_
          refine lv_iadd hx hb dL_law_366 ?_
          refine zt_i (v := 2) (by decide +kernel) ?_
          refine va_sld hx hb hX hbl hbA hS (i := 2) (zin (by decide +kernel)) dL_law_367 ?_
          refine zt_v (w := .int (xs 2)) rfl ?_
          refine lv_i2c (v := (zc (xs 2))) hx hb dL_law_368 rfl ?_
          refine lv_aload_n hx hb dL_law_369 rfl (lv_at hl 1 rfl) ?_
          have hPc := hP.sub (ws' := [(q0, .inr (13, [.ref q1, .ref q3, .ref q5, .ref q7, .ref q9, .ref q11, .ref q13, .ref q15, .int 0, .ref q17, .ref q21, .ref q25, .ref q26, .ref q27]))]) [0] rfl
          have hDc := hD.sub (ws' := [(q0, .inr (13, [.ref q1, .ref q3, .ref q5, .ref q7, .ref q9, .ref q11, .ref q13, .ref q15, .int 0, .ref q17, .ref q21, .ref q25, .ref q26, .ref q27]))]) [0] (by decide) rfl
          have hKc := hK.sub (tys' := []) [] rfl
          have hFc := va_free (wc := [(q0, .inr (13, [.ref q1, .ref q3, .ref q5, .ref q7, .ref q9, .ref q11, .ref q13, .ref q15, .int 0, .ref q17, .ref q21, .ref q25, .ref q26, .ref q27]))]) hD hS hA [0] rfl
          refine va_calli (vx_runSW (As := [.ref q0, .int (xs 1), .int (zc (xs 2)), .ref q106]) (rest := []) ⟨hx, hb, hml, hown, hts⟩ (c_L_add_4 l hfl dC dI q0 q106 q1 q3 q5 q7 q9 q11 q13 q15 q17 q21 q25 q26 q27 H.size (xs 1) (zc (xs 2)) hc0 hc1 hc2 hc3) (vx_cwSW 4 hts gL_law_L_add rfl rfl rfl (by decide +kernel) ⟨Nat.le_of_ble_eq_true rfl, Nat.le_of_ble_eq_true rfl⟩) ⟨zB_blind, (zPre hPc hDc hKc hS hFc hZ hN)⟩ rfl rfl hl.1 rfl (lv_room (Nat.le_of_ble_eq_true rfl)) dL_law_370 ⟨Nat.le_of_ble_eq_true rfl, Nat.le_of_ble_eq_true rfl⟩) hS (fun q _ h => hFc q h) hFc (fun r u t H1 locs ht hvm hw hB hz1 hk1 hS => ?_)
          subst hw
          obtain ⟨hP1, hK1, hD1⟩ := hB
          rw [ht] at hP1
          have hK1 := va_K.moved hvm.symm hK1
          obtain ⟨hP, hD⟩ := va_join (wr := [(q86, .inr (15, [.ref q87, .ref q88, .ref q89, .ref q90, .ref q91, .ref q92, .int 0, .int 1, .ref q93, .int 0, .ref q94, .null, .ref q95, .null, .ref q96, .ref q97, .ref q98, .ref q99, .ref q100, .int 0, .ref q101, .ref q102, .ref q103, .ref q104, .ref q105, .int 0, .int 0]))]) (w1 := []) hP hD [0] [13] rfl rfl (by decide) (by decide) hk1 hFc hP1 hD1
          have hK := (hK.sub (tys' := []) [] rfl).app hK1
          generalize H1 = H at hP hS ⊢
          have hP : va_P (dC, dI) vwCl [(q86, .inr (15, [.ref q87, .ref q88, .ref q89, .ref q90, .ref q91, .ref q92, .int 0, .int 1, .ref q93, .int 0, .ref q94, .null, .ref q95, .null, .ref q96, .ref q97, .ref q98, .ref q99, .ref q100, .int 0, .ref q101, .ref q102, .ref q103, .ref q104, .ref q105, .int 0, .int 0]))] H := hP
          have hD : va_D (fun q : Nat => s.heap.size ≤ q) [(q86, .inr (15, [.ref q87, .ref q88, .ref q89, .ref q90, .ref q91, .ref q92, .int 0, .int 1, .ref q93, .int 0, .ref q94, .null, .ref q95, .null, .ref q96, .ref q97, .ref q98, .ref q99, .ref q100, .int 0, .ref q101, .ref q102, .ref q103, .ref q104, .ref q105, .int 0, .int 0]))] := hD
          have hK : va_K (dC, dI) vwCl [] s := hK
          refine W.widen (k := 132) (n := 6698) (Nat.le_of_ble_eq_true rfl) (Nat.le_of_ble_eq_true rfl) ?_
          refine lv_istore (lv' := [(5, .int 1), (4, .int 0), (3, .ref q106), (2, .ref q86), (1, .ref q0), (0, .ref b)]) hx hb dL_law_373 hl (by decide) rfl (fun ls hl => ?_)
          refine lv_aload_n hx hb dL_law_375 rfl (lv_at hl 3 rfl) ?_
          refine lv_aload_n hx hb dL_law_376 rfl (lv_at hl 5 rfl) ?_
          refine lv_iload hx hb dL_law_377 (lv_at hl 1 rfl) ?_
          refine lv_iconst (v := 1) hx hb dL_law_379 (by decide +kernel) ?_
          refine lv_iadd hx hb dL_law_380 ?_
          refine zt_i (v := 1) (by decide +kernel) ?_
          refine va_sld hx hb hX hbl hbA hS (i := 1) (zin (by decide +kernel)) dL_law_381 ?_
          refine zt_v (w := .int (xs 1)) rfl ?_
          refine lv_aload_n hx hb dL_law_382 rfl (lv_at hl 5 rfl) ?_
          refine lv_iload hx hb dL_law_383 (lv_at hl 1 rfl) ?_
          refine lv_iconst (v := 2) hx hb dL_law_385 (by decide +kernel) ?_
          refine lv_iadd hx hb dL_law_386 ?_
          refine zt_i (v := 2) (by decide +kernel) ?_
          refine va_sld hx hb hX hbl hbA hS (i := 2) (zin (by decide +kernel)) dL_law_387 ?_
          refine zt_v (w := .int (xs 2)) rfl ?_
          refine lv_i2c (v := (zc (xs 2))) hx hb dL_law_388 rfl ?_
          have hPc := hP.sub (ws' := [(q86, .inr (15, [.ref q87, .ref q88, .ref q89, .ref q90, .ref q91, .ref q92, .int 0, .int 1, .ref q93, .int 0, .ref q94, .null, .ref q95, .null, .ref q96, .ref q97, .ref q98, .ref q99, .ref q100, .int 0, .ref q101, .ref q102, .ref q103, .ref q104, .ref q105, .int 0, .int 0]))]) [0] rfl
          have hDc := hD.sub (ws' := [(q86, .inr (15, [.ref q87, .ref q88, .ref q89, .ref q90, .ref q91, .ref q92, .int 0, .int 1, .ref q93, .int 0, .ref q94, .null, .ref q95, .null, .ref q96, .ref q97, .ref q98, .ref q99, .ref q100, .int 0, .ref q101, .ref q102, .ref q103, .ref q104, .ref q105, .int 0, .int 0]))]) [0] (by decide) rfl
          have hKc := hK.sub (tys' := []) [] rfl
          have hFc := va_free (wc := [(q86, .inr (15, [.ref q87, .ref q88, .ref q89, .ref q90, .ref q91, .ref q92, .int 0, .int 1, .ref q93, .int 0, .ref q94, .null, .ref q95, .null, .ref q96, .ref q97, .ref q98, .ref q99, .ref q100, .int 0, .ref q101, .ref q102, .ref q103, .ref q104, .ref q105, .int 0, .int 0]))]) hD hS hA [0] rfl
          refine va_calli (va_runV (As := [.int (xs 1), .int (zc (xs 2))]) (rest := []) ⟨hx, hb, hml, hown, hts⟩ (c_X13_add_4 l dC dI q86 q87 q88 q89 q90 q91 q92 q93 q94 q95 q96 q97 q98 q99 q100 q101 q102 q103 q104 q105 H.size (xs 1) (zc (xs 2)) hc0 hc1 hc2 hc3) (cwV 2 hts gL_law_X13_add rfl rfl rfl (by decide +kernel) ⟨Nat.le_of_ble_eq_true rfl, Nat.le_of_ble_eq_true rfl⟩) ⟨zB_blind, va_recv hK hP (ci := 15) (q0 := 0) rfl rfl, (zPre hPc hDc hKc hS hFc hZ hN)⟩ rfl rfl hl.1 rfl (lv_room (Nat.le_of_ble_eq_true rfl)) dL_law_389 ⟨Nat.le_of_ble_eq_true rfl, Nat.le_of_ble_eq_true rfl⟩) hS (fun q _ h => hFc q h) hFc (fun r u t H1 locs ht hvm hw hB hz1 hk1 hS => ?_)
          subst hw
          obtain ⟨hP1, hK1, hD1⟩ := hB
          rw [ht] at hP1
          have hK1 := va_K.moved hvm.symm hK1
          obtain ⟨hP, hD⟩ := va_join (wr := []) (w1 := [(q86, .inr (15, [.ref q87, .ref q88, .ref q89, .ref q90, .ref q91, .ref q92, .int 0, .int 1, .ref q93, .int 0, .ref q94, .null, .ref q95, .null, .ref q96, .ref q97, .ref q98, .ref q99, .ref q100, .int 1, .ref q101, .ref q102, .ref q103, .ref q104, .ref q105, .int 0, .int 0]))]) hP hD [0] [] rfl rfl (by decide) (by decide) hk1 hFc hP1 hD1
          have hK := (hK.sub (tys' := []) [] rfl).app hK1
          generalize H1 = H at hP hS ⊢
          have hP : va_P (dC, dI) vwCl [(q86, .inr (15, [.ref q87, .ref q88, .ref q89, .ref q90, .ref q91, .ref q92, .int 0, .int 1, .ref q93, .int 0, .ref q94, .null, .ref q95, .null, .ref q96, .ref q97, .ref q98, .ref q99, .ref q100, .int 1, .ref q101, .ref q102, .ref q103, .ref q104, .ref q105, .int 0, .int 0]))] H := hP
          have hD : va_D (fun q : Nat => s.heap.size ≤ q) [(q86, .inr (15, [.ref q87, .ref q88, .ref q89, .ref q90, .ref q91, .ref q92, .int 0, .int 1, .ref q93, .int 0, .ref q94, .null, .ref q95, .null, .ref q96, .ref q97, .ref q98, .ref q99, .ref q100, .int 1, .ref q101, .ref q102, .ref q103, .ref q104, .ref q105, .int 0, .int 0]))] := hD
          have hK : va_K (dC, dI) vwCl [] s := hK
          refine W.widen (k := 132) (n := 6698) (Nat.le_of_ble_eq_true rfl) (Nat.le_of_ble_eq_true rfl) ?_
          refine lv_istore (lv' := [(6, .int 0), (5, .int 1), (4, .int 0), (3, .ref q106), (2, .ref q86), (1, .ref q0), (0, .ref b)]) hx hb dL_law_392 hl (by decide) rfl (fun ls hl => ?_)
          refine lv_aload_n hx hb dL_law_394 rfl (lv_at hl 4 rfl) ?_
          have hPc := hP.sub (ws' := [(q86, .inr (15, [.ref q87, .ref q88, .ref q89, .ref q90, .ref q91, .ref q92, .int 0, .int 1, .ref q93, .int 0, .ref q94, .null, .ref q95, .null, .ref q96, .ref q97, .ref q98, .ref q99, .ref q100, .int 1, .ref q101, .ref q102, .ref q103, .ref q104, .ref q105, .int 0, .int 0]))]) [0] rfl
          have hDc := hD.sub (ws' := [(q86, .inr (15, [.ref q87, .ref q88, .ref q89, .ref q90, .ref q91, .ref q92, .int 0, .int 1, .ref q93, .int 0, .ref q94, .null, .ref q95, .null, .ref q96, .ref q97, .ref q98, .ref q99, .ref q100, .int 1, .ref q101, .ref q102, .ref q103, .ref q104, .ref q105, .int 0, .int 0]))]) [0] (by decide) rfl
          have hKc := hK.sub (tys' := []) [] rfl
          have hFc := va_free (wc := [(q86, .inr (15, [.ref q87, .ref q88, .ref q89, .ref q90, .ref q91, .ref q92, .int 0, .int 1, .ref q93, .int 0, .ref q94, .null, .ref q95, .null, .ref q96, .ref q97, .ref q98, .ref q99, .ref q100, .int 1, .ref q101, .ref q102, .ref q103, .ref q104, .ref q105, .int 0, .int 0]))]) hD hS hA [0] rfl
          refine va_calli (va_runV (As := []) (rest := []) ⟨hx, hb, hml, hown, hts⟩ (c_X13_thrown l dC dI q86 q87 q88 q89 q90 q91 q92 q93 q94 q95 q96 q97 q98 q99 q100 q101 q102 q103 q104 q105 H.size  ) (cwV 0 hts gL_law_X13_thrown rfl rfl rfl (by decide +kernel) ⟨Nat.le_of_ble_eq_true rfl, Nat.le_of_ble_eq_true rfl⟩) ⟨zB_blind, va_recv hK hP (ci := 15) (q0 := 0) rfl rfl, (zPre hPc hDc hKc hS hFc hZ hN)⟩ rfl rfl hl.1 rfl (lv_room (Nat.le_of_ble_eq_true rfl)) dL_law_395 ⟨Nat.le_of_ble_eq_true rfl, Nat.le_of_ble_eq_true rfl⟩) hS (fun q _ h => hFc q h) hFc (fun r u t H1 locs ht hvm hw hB hz1 hk1 hS => ?_)
          subst hw
          obtain ⟨hP1, hK1, hD1⟩ := hB
          rw [ht] at hP1
          have hK1 := va_K.moved hvm.symm hK1
          obtain ⟨hP, hD⟩ := va_join (wr := []) (w1 := []) hP hD [0] [] rfl rfl (by decide) (by decide) hk1 hFc hP1 hD1
          have hK := (hK.sub (tys' := []) [] rfl).app hK1
          generalize H1 = H at hP hS ⊢
          have hP : va_P (dC, dI) vwCl [] H := hP
          have hD : va_D (fun q : Nat => s.heap.size ≤ q) [] := hD
          have hK : va_K (dC, dI) vwCl [] s := hK
          refine W.widen (k := 132) (n := 6698) (Nat.le_of_ble_eq_true rfl) (Nat.le_of_ble_eq_true rfl) ?_
          refine lv_iload hx hb dL_law_398 (lv_at hl 1 rfl) ?_
          refine lv_icmp_eq (tgt := 405) hx hb dL_law_400 (by decide) (fun _ => ?_) (fun h9 => absurd (show (1 : Int32) = (1 : Int32) by decide +kernel) h9)
          refine lv_iload hx hb dL_law_405 (lv_at hl 1 rfl) ?_
          refine lv_if_ne (tgt := 422) hx hb dL_law_407 (by decide) (fun _ => ?_) (fun h9 => absurd h9 (show ¬ (1 : Int32) = (0 : Int32) by decide +kernel))
          refine lv_goto (tgt := 2311) hx hb dL_law_422 (by decide) ?_
          exact law_exit C0 hS (Nat.le_of_ble_eq_true rfl) (Nat.le_of_ble_eq_true rfl) ls (lv_sub hl [2, 3, 4, 5, 6] rfl)
        · skip
          have hc0 : ¬ (xs 1) < (0 : Int32) := hb0
          have hc1 : ¬ (999 : Int32) < (xs 1) := hb1
          have hc2 : ¬ (zc (xs 2)) < (97 : Int32) := hb2
          have hc3 : ¬ (122 : Int32) < (zc (xs 2)) := hb3
          have hc4 : narrow .char (.int (zc (xs 2))) = .int (zc (xs 2)) := (zchar hb2 hb3).2
          have hc5 : fits .char (.int (zc (xs 2))) = true := (zchar hb2 hb3).1
          refine lv_aload_n hx hb dL_law_355 rfl (lv_at hl 3 rfl) ?_
          refine lv_aload_n hx hb dL_law_356 rfl (lv_at hl 4 rfl) ?_
          refine lv_iload hx hb dL_law_357 (lv_at hl 0 rfl) ?_
          refine lv_iconst (v := 1) hx hb dL_law_359 (by decide +kernel) ?_
          refine lv_iadd hx hb dL_law_360 ?_
          refine zt_i (v := 1) (by decide +kernel) ?_
          refine va_sld hx hb hX hbl hbA hS (i := 1) (zin (by decide +kernel)) dL_law_361 ?_
          refine zt_v (w := .int (xs 1)) rfl ?_
          refine lv_aload_n hx hb dL_law_362 rfl (lv_at hl 4 rfl) ?_
          refine lv_iload hx hb dL_law_363 (lv_at hl 0 rfl) ?_
          refine lv_iconst (v := 2) hx hb dL_law_365 (by decide +kernel) ?_
          refine lv_iadd hx hb dL_law_366 ?_
          refine zt_i (v := 2) (by decide +kernel) ?_
          refine va_sld hx hb hX hbl hbA hS (i := 2) (zin (by decide +kernel)) dL_law_367 ?_
          refine zt_v (w := .int (xs 2)) rfl ?_
          refine lv_i2c (v := (zc (xs 2))) hx hb dL_law_368 rfl ?_
          refine lv_aload_n hx hb dL_law_369 rfl (lv_at hl 1 rfl) ?_
          have hPc := hP.sub (ws' := [(q0, .inr (13, [.ref q1, .ref q3, .ref q5, .ref q7, .ref q9, .ref q11, .ref q13, .ref q15, .int 0, .ref q17, .ref q21, .ref q25, .ref q26, .ref q27])), (q3, .inr (11, [.ref q4, .int 0, .int 1])), (q4, .inl (k4, 24, .inr (.inr (.inr (.inr (fun _ => none)))))), (q1, .inr (7, [.ref q2, .int 0])), (q106, .inl (k106, 1, .inr (.inl (fun _ => 0))))]) [0, 3, 4, 1, 23] rfl
          have hDc := hD.sub (ws' := [(q0, .inr (13, [.ref q1, .ref q3, .ref q5, .ref q7, .ref q9, .ref q11, .ref q13, .ref q15, .int 0, .ref q17, .ref q21, .ref q25, .ref q26, .ref q27])), (q3, .inr (11, [.ref q4, .int 0, .int 1])), (q4, .inl (k4, 24, .inr (.inr (.inr (.inr (fun _ => none)))))), (q1, .inr (7, [.ref q2, .int 0])), (q106, .inl (k106, 1, .inr (.inl (fun _ => 0))))]) [0, 3, 4, 1, 23] (by decide) rfl
          have hKc := hK.sub (tys' := [(k4, (.object "Seekwell$Text")), (k106, .long)]) [1, 11] rfl
          have hFc := va_free (wc := [(q0, .inr (13, [.ref q1, .ref q3, .ref q5, .ref q7, .ref q9, .ref q11, .ref q13, .ref q15, .int 0, .ref q17, .ref q21, .ref q25, .ref q26, .ref q27])), (q3, .inr (11, [.ref q4, .int 0, .int 1])), (q4, .inl (k4, 24, .inr (.inr (.inr (.inr (fun _ => none)))))), (q1, .inr (7, [.ref q2, .int 0])), (q106, .inl (k106, 1, .inr (.inl (fun _ => 0))))]) hD hS hA [0, 3, 4, 1, 23] rfl
          refine va_calli (vx_runSW (As := [.ref q0, .int (xs 1), .int (zc (xs 2)), .ref q106]) (rest := []) ⟨hx, hb, hml, hown, hts⟩ (c_L_add_5 l dC dI q0 q106 q1 q3 q5 q7 q9 q11 q13 q15 q17 q21 q25 q26 q27 q4 q2 k4 k106 H.size (xs 1) (zc (xs 2)) hc0 hc1 hc2 hc3 hc4 hc5) (vx_cwSW 4 hts gL_law_L_add rfl rfl rfl (by decide +kernel) ⟨Nat.le_of_ble_eq_true rfl, Nat.le_of_ble_eq_true rfl⟩) ⟨zB_blind, (zPre hPc hDc hKc hS hFc hZ hN)⟩ rfl rfl hl.1 rfl (lv_room (Nat.le_of_ble_eq_true rfl)) dL_law_370 ⟨Nat.le_of_ble_eq_true rfl, Nat.le_of_ble_eq_true rfl⟩) hS (fun q _ h => hFc q h) hFc (fun r u t H1 locs ht hvm hw hB hz1 hk1 hS => ?_)
          subst hw
          obtain ⟨hP1, hK1, hD1⟩ := hB
          rw [ht] at hP1
          have hK1 := va_K.moved hvm.symm hK1
          obtain ⟨hP, hD⟩ := va_join (wr := [(q86, .inr (15, [.ref q87, .ref q88, .ref q89, .ref q90, .ref q91, .ref q92, .int 0, .int 1, .ref q93, .int 0, .ref q94, .null, .ref q95, .null, .ref q96, .ref q97, .ref q98, .ref q99, .ref q100, .int 0, .ref q101, .ref q102, .ref q103, .ref q104, .ref q105, .int 0, .int 0])), (q87, .inl (k87, 24, .inl (fun _ => 0))), (q88, .inl (k88, 24, .inl (fun _ => 0))), (q89, .inl (k89, 24, .inl (fun _ => 0))), (q90, .inl (k90, 24, .inl (fun _ => 0))), (q91, .inl (k91, 24, .inr (.inr (.inr (.inr (fun _ => none)))))), (q92, .inl (k92, 24, .inr (.inr (.inr (.inr (fun _ => none))))))]) (w1 := [(q106, .inl (k106, 1, .inr (.inl (vp_updL (fun _ => 0) (0 : Int32).toNatClampNeg 0))))]) hP hD [0, 3, 4, 1, 23] [13, 14, 15, 16, 17, 18, 19] rfl rfl (by decide) (by decide) hk1 hFc hP1 hD1
          have hK := (hK.sub (tys' := [(k87, .boolean), (k88, .int), (k89, .int), (k90, .char), (k91, (.array .long)), (k92, (.array .long))]) [2, 3, 4, 5, 6, 7] rfl).app hK1
          generalize H1 = H at hP hS ⊢
          have hP : va_P (dC, dI) vwCl [(q86, .inr (15, [.ref q87, .ref q88, .ref q89, .ref q90, .ref q91, .ref q92, .int 0, .int 1, .ref q93, .int 0, .ref q94, .null, .ref q95, .null, .ref q96, .ref q97, .ref q98, .ref q99, .ref q100, .int 0, .ref q101, .ref q102, .ref q103, .ref q104, .ref q105, .int 0, .int 0])), (q87, .inl (k87, 24, .inl (fun _ => 0))), (q88, .inl (k88, 24, .inl (fun _ => 0))), (q89, .inl (k89, 24, .inl (fun _ => 0))), (q90, .inl (k90, 24, .inl (fun _ => 0))), (q91, .inl (k91, 24, .inr (.inr (.inr (.inr (fun _ => none)))))), (q92, .inl (k92, 24, .inr (.inr (.inr (.inr (fun _ => none)))))), (q106, .inl (k106, 1, .inr (.inl (vp_updL (fun _ => 0) (0 : Int32).toNatClampNeg 0))))] H := hP
          have hD : va_D (fun q : Nat => s.heap.size ≤ q) [(q86, .inr (15, [.ref q87, .ref q88, .ref q89, .ref q90, .ref q91, .ref q92, .int 0, .int 1, .ref q93, .int 0, .ref q94, .null, .ref q95, .null, .ref q96, .ref q97, .ref q98, .ref q99, .ref q100, .int 0, .ref q101, .ref q102, .ref q103, .ref q104, .ref q105, .int 0, .int 0])), (q87, .inl (k87, 24, .inl (fun _ => 0))), (q88, .inl (k88, 24, .inl (fun _ => 0))), (q89, .inl (k89, 24, .inl (fun _ => 0))), (q90, .inl (k90, 24, .inl (fun _ => 0))), (q91, .inl (k91, 24, .inr (.inr (.inr (.inr (fun _ => none)))))), (q92, .inl (k92, 24, .inr (.inr (.inr (.inr (fun _ => none)))))), (q106, .inl (k106, 1, .inr (.inl (vp_updL (fun _ => 0) (0 : Int32).toNatClampNeg 0))))] := hD
          have hK : va_K (dC, dI) vwCl [(k87, .boolean), (k88, .int), (k89, .int), (k90, .char), (k91, (.array .long)), (k92, (.array .long)), (k106, .long)] s := hK
          refine W.widen (k := 136) (n := 6710) (Nat.le_of_ble_eq_true rfl) (Nat.le_of_ble_eq_true rfl) ?_
          refine lv_istore (lv' := [(5, .int 0), (4, .int 0), (3, .ref q106), (2, .ref q86), (1, .ref q0), (0, .ref b)]) hx hb dL_law_373 hl (by decide) rfl (fun ls hl => ?_)
          refine lv_aload_n hx hb dL_law_375 rfl (lv_at hl 3 rfl) ?_
          refine lv_aload_n hx hb dL_law_376 rfl (lv_at hl 5 rfl) ?_
          refine lv_iload hx hb dL_law_377 (lv_at hl 1 rfl) ?_
          refine lv_iconst (v := 1) hx hb dL_law_379 (by decide +kernel) ?_
          refine lv_iadd hx hb dL_law_380 ?_
          refine zt_i (v := 1) (by decide +kernel) ?_
          refine va_sld hx hb hX hbl hbA hS (i := 1) (zin (by decide +kernel)) dL_law_381 ?_
          refine zt_v (w := .int (xs 1)) rfl ?_
          refine lv_aload_n hx hb dL_law_382 rfl (lv_at hl 5 rfl) ?_
          refine lv_iload hx hb dL_law_383 (lv_at hl 1 rfl) ?_
          refine lv_iconst (v := 2) hx hb dL_law_385 (by decide +kernel) ?_
          refine lv_iadd hx hb dL_law_386 ?_
          refine zt_i (v := 2) (by decide +kernel) ?_
          refine va_sld hx hb hX hbl hbA hS (i := 2) (zin (by decide +kernel)) dL_law_387 ?_
          refine zt_v (w := .int (xs 2)) rfl ?_
          refine lv_i2c (v := (zc (xs 2))) hx hb dL_law_388 rfl ?_
          have hPc := hP.sub (ws' := [(q86, .inr (15, [.ref q87, .ref q88, .ref q89, .ref q90, .ref q91, .ref q92, .int 0, .int 1, .ref q93, .int 0, .ref q94, .null, .ref q95, .null, .ref q96, .ref q97, .ref q98, .ref q99, .ref q100, .int 0, .ref q101, .ref q102, .ref q103, .ref q104, .ref q105, .int 0, .int 0])), (q87, .inl (k87, 24, .inl (fun _ => 0))), (q88, .inl (k88, 24, .inl (fun _ => 0))), (q90, .inl (k90, 24, .inl (fun _ => 0))), (q91, .inl (k91, 24, .inr (.inr (.inr (.inr (fun _ => none)))))), (q92, .inl (k92, 24, .inr (.inr (.inr (.inr (fun _ => none)))))), (q89, .inl (k89, 24, .inl (fun _ => 0)))]) [0, 1, 2, 4, 5, 6, 3] rfl
          have hDc := hD.sub (ws' := [(q86, .inr (15, [.ref q87, .ref q88, .ref q89, .ref q90, .ref q91, .ref q92, .int 0, .int 1, .ref q93, .int 0, .ref q94, .null, .ref q95, .null, .ref q96, .ref q97, .ref q98, .ref q99, .ref q100, .int 0, .ref q101, .ref q102, .ref q103, .ref q104, .ref q105, .int 0, .int 0])), (q87, .inl (k87, 24, .inl (fun _ => 0))), (q88, .inl (k88, 24, .inl (fun _ => 0))), (q90, .inl (k90, 24, .inl (fun _ => 0))), (q91, .inl (k91, 24, .inr (.inr (.inr (.inr (fun _ => none)))))), (q92, .inl (k92, 24, .inr (.inr (.inr (.inr (fun _ => none)))))), (q89, .inl (k89, 24, .inl (fun _ => 0)))]) [0, 1, 2, 4, 5, 6, 3] (by decide) rfl
          have hKc := hK.sub (tys' := [(k87, .boolean), (k88, .int), (k90, .char), (k91, (.array .long)), (k92, (.array .long)), (k89, .int)]) [0, 1, 3, 4, 5, 2] rfl
          have hFc := va_free (wc := [(q86, .inr (15, [.ref q87, .ref q88, .ref q89, .ref q90, .ref q91, .ref q92, .int 0, .int 1, .ref q93, .int 0, .ref q94, .null, .ref q95, .null, .ref q96, .ref q97, .ref q98, .ref q99, .ref q100, .int 0, .ref q101, .ref q102, .ref q103, .ref q104, .ref q105, .int 0, .int 0])), (q87, .inl (k87, 24, .inl (fun _ => 0))), (q88, .inl (k88, 24, .inl (fun _ => 0))), (q90, .inl (k90, 24, .inl (fun _ => 0))), (q91, .inl (k91, 24, .inr (.inr (.inr (.inr (fun _ => none)))))), (q92, .inl (k92, 24, .inr (.inr (.inr (.inr (fun _ => none)))))), (q89, .inl (k89, 24, .inl (fun _ => 0)))]) hD hS hA [0, 1, 2, 4, 5, 6, 3] rfl
          refine va_calli (va_runV (As := [.int (xs 1), .int (zc (xs 2))]) (rest := []) ⟨hx, hb, hml, hown, hts⟩ (c_X13_add_5 l dC dI q86 q87 q88 q89 q90 q91 q92 q93 q94 q95 q96 q97 q98 q99 q100 q101 q102 q103 q104 q105 k87 k88 k90 k91 k92 k89 H.size (xs 1) (zc (xs 2)) hc0 hc1 hc2 hc3) (cwV 2 hts gL_law_X13_add rfl rfl rfl (by decide +kernel) ⟨Nat.le_of_ble_eq_true rfl, Nat.le_of_ble_eq_true rfl⟩) ⟨zB_blind, va_recv hK hP (ci := 15) (q0 := 0) rfl rfl, (zPre hPc hDc hKc hS hFc hZ hN)⟩ rfl rfl hl.1 rfl (lv_room (Nat.le_of_ble_eq_true rfl)) dL_law_389 ⟨Nat.le_of_ble_eq_true rfl, Nat.le_of_ble_eq_true rfl⟩) hS (fun q _ h => hFc q h) hFc (fun r u t H1 locs ht hvm hw hB hz1 hk1 hS => ?_)
          subst hw
          obtain ⟨hP1, hK1, hD1⟩ := hB
          rw [ht] at hP1
          have hK1 := va_K.moved hvm.symm hK1
          obtain ⟨hP, hD⟩ := va_join (wr := [(q106, .inl (k106, 1, .inr (.inl (vp_updL (fun _ => 0) (0 : Int32).toNatClampNeg 0))))]) (w1 := [(q86, .inr (15, [.ref q87, .ref q88, .ref q89, .ref q90, .ref q91, .ref q92, .int 1, .int 1, .ref q93, .int 0, .ref q94, .null, .ref q95, .null, .ref q96, .ref q97, .ref q98, .ref q99, .ref q100, .int 0, .ref q101, .ref q102, .ref q103, .ref q104, .ref q105, .int 0, .int 0]))]) hP hD [0, 1, 2, 4, 5, 6, 3] [7] rfl rfl (by decide) (by decide) hk1 hFc hP1 hD1
          have hK := (hK.sub (tys' := [(k106, .long)]) [6] rfl).app hK1
          generalize H1 = H at hP hS ⊢
          have hP : va_P (dC, dI) vwCl [(q106, .inl (k106, 1, .inr (.inl (vp_updL (fun _ => 0) (0 : Int32).toNatClampNeg 0)))), (q86, .inr (15, [.ref q87, .ref q88, .ref q89, .ref q90, .ref q91, .ref q92, .int 1, .int 1, .ref q93, .int 0, .ref q94, .null, .ref q95, .null, .ref q96, .ref q97, .ref q98, .ref q99, .ref q100, .int 0, .ref q101, .ref q102, .ref q103, .ref q104, .ref q105, .int 0, .int 0]))] H := hP
          have hD : va_D (fun q : Nat => s.heap.size ≤ q) [(q106, .inl (k106, 1, .inr (.inl (vp_updL (fun _ => 0) (0 : Int32).toNatClampNeg 0)))), (q86, .inr (15, [.ref q87, .ref q88, .ref q89, .ref q90, .ref q91, .ref q92, .int 1, .int 1, .ref q93, .int 0, .ref q94, .null, .ref q95, .null, .ref q96, .ref q97, .ref q98, .ref q99, .ref q100, .int 0, .ref q101, .ref q102, .ref q103, .ref q104, .ref q105, .int 0, .int 0]))] := hD
          have hK : va_K (dC, dI) vwCl [(k106, .long)] s := hK
          refine W.widen (k := 140) (n := 10722) (Nat.le_of_ble_eq_true rfl) (Nat.le_of_ble_eq_true rfl) ?_
          refine lv_istore (lv' := [(6, .int 0), (5, .int 0), (4, .int 0), (3, .ref q106), (2, .ref q86), (1, .ref q0), (0, .ref b)]) hx hb dL_law_392 hl (by decide) rfl (fun ls hl => ?_)
          refine lv_aload_n hx hb dL_law_394 rfl (lv_at hl 4 rfl) ?_
          have hPc := hP.sub (ws' := [(q86, .inr (15, [.ref q87, .ref q88, .ref q89, .ref q90, .ref q91, .ref q92, .int 1, .int 1, .ref q93, .int 0, .ref q94, .null, .ref q95, .null, .ref q96, .ref q97, .ref q98, .ref q99, .ref q100, .int 0, .ref q101, .ref q102, .ref q103, .ref q104, .ref q105, .int 0, .int 0]))]) [1] rfl
          have hDc := hD.sub (ws' := [(q86, .inr (15, [.ref q87, .ref q88, .ref q89, .ref q90, .ref q91, .ref q92, .int 1, .int 1, .ref q93, .int 0, .ref q94, .null, .ref q95, .null, .ref q96, .ref q97, .ref q98, .ref q99, .ref q100, .int 0, .ref q101, .ref q102, .ref q103, .ref q104, .ref q105, .int 0, .int 0]))]) [1] (by decide) rfl
          have hKc := hK.sub (tys' := []) [] rfl
          have hFc := va_free (wc := [(q86, .inr (15, [.ref q87, .ref q88, .ref q89, .ref q90, .ref q91, .ref q92, .int 1, .int 1, .ref q93, .int 0, .ref q94, .null, .ref q95, .null, .ref q96, .ref q97, .ref q98, .ref q99, .ref q100, .int 0, .ref q101, .ref q102, .ref q103, .ref q104, .ref q105, .int 0, .int 0]))]) hD hS hA [1] rfl
          refine va_calli (va_runV (As := []) (rest := []) ⟨hx, hb, hml, hown, hts⟩ (c_X13_thrown_3 l dC dI q86 q87 q88 q89 q90 q91 q92 q93 q94 q95 q96 q97 q98 q99 q100 q101 q102 q103 q104 q105 H.size  ) (cwV 0 hts gL_law_X13_thrown rfl rfl rfl (by decide +kernel) ⟨Nat.le_of_ble_eq_true rfl, Nat.le_of_ble_eq_true rfl⟩) ⟨zB_blind, va_recv hK hP (ci := 15) (q0 := 1) rfl rfl, (zPre hPc hDc hKc hS hFc hZ hN)⟩ rfl rfl hl.1 rfl (lv_room (Nat.le_of_ble_eq_true rfl)) dL_law_395 ⟨Nat.le_of_ble_eq_true rfl, Nat.le_of_ble_eq_true rfl⟩) hS (fun q _ h => hFc q h) hFc (fun r u t H1 locs ht hvm hw hB hz1 hk1 hS => ?_)
          subst hw
          obtain ⟨hP1, hK1, hD1⟩ := hB
          rw [ht] at hP1
          have hK1 := va_K.moved hvm.symm hK1
          obtain ⟨hP, hD⟩ := va_join (wr := [(q106, .inl (k106, 1, .inr (.inl (vp_updL (fun _ => 0) (0 : Int32).toNatClampNeg 0))))]) (w1 := []) hP hD [1] [0] rfl rfl (by decide) (by decide) hk1 hFc hP1 hD1
          have hK := (hK.sub (tys' := [(k106, .long)]) [0] rfl).app hK1
          generalize H1 = H at hP hS ⊢
          have hP : va_P (dC, dI) vwCl [(q106, .inl (k106, 1, .inr (.inl (vp_updL (fun _ => 0) (0 : Int32).toNatClampNeg 0))))] H := hP
          have hD : va_D (fun q : Nat => s.heap.size ≤ q) [(q106, .inl (k106, 1, .inr (.inl (vp_updL (fun _ => 0) (0 : Int32).toNatClampNeg 0))))] := hD
          have hK : va_K (dC, dI) vwCl [(k106, .long)] s := hK
          refine W.widen (k := 140) (n := 10722) (Nat.le_of_ble_eq_true rfl) (Nat.le_of_ble_eq_true rfl) ?_
          refine lv_iload hx hb dL_law_398 (lv_at hl 1 rfl) ?_
          refine lv_icmp_eq (tgt := 405) hx hb dL_law_400 (by decide) (fun _ => ?_) (fun h9 => absurd (show (0 : Int32) = (0 : Int32) by decide +kernel) h9)
          refine lv_iload hx hb dL_law_405 (lv_at hl 1 rfl) ?_
          refine lv_if_ne (tgt := 422) hx hb dL_law_407 (by decide) (fun h9 => absurd (show (0 : Int32) = (0 : Int32) by decide +kernel) h9) (fun _ => ?_)
          refine lv_aload_n hx hb dL_law_410 rfl (lv_at hl 3 rfl) ?_
          refine lv_iconst (v := 0) hx hb dL_law_411 (by decide +kernel) ?_
          refine va_lald (D := (dC, dI)) hx hb hK hP 0 0 rfl rfl (i := 0) (zin (by decide +kernel)) dL_law_412 ?_
          refine zt_v (w := .long 0) rfl ?_
          refine lv_iload hx hb dL_law_413 (lv_at hl 0 rfl) ?_
          refine lv_i2l (v := 0) hx hb dL_law_415 (by decide +kernel) ?_
          refine W.lcmp hx hb dL_law_416 ?_
          refine zt_i (v := 0) (by decide +kernel) ?_
          refine lv_if_eq (tgt := 422) hx hb dL_law_417 (by decide) (fun _ => ?_) (fun h9 => absurd (show (0 : Int32) = (0 : Int32) by decide +kernel) h9)
          refine lv_goto (tgt := 2311) hx hb dL_law_422 (by decide) ?_
          exact law_exit C0 hS (Nat.le_of_ble_eq_true rfl) (Nat.le_of_ble_eq_true rfl) ls (lv_sub hl [2, 3, 4, 5, 6] rfl)
set_option maxHeartbeats 8000000 in
set_option maxRecDepth 100000 in
theorem law_case_4 {p : Program} {l : Launch} {e : Env} {s : State} {m : MethodId} {below : List Frame} {meth : Method} {c : Code} {b : Nat} {xs : Nat → Int32} (hfl : l.stackTraces = false) (C0 : lw_At p s m meth c b 4 xs) {dC : Nat → ClassId} {dI : Nat → Nat → Nat} {q0 q1 q3 q5 q7 q9 q11 q13 q15 q17 q21 q25 q26 q27 q2 q4 q6 q8 q10 q16 q18 q22 q23 q86 q87 q88 q89 q90 q91 q92 q93 q94 q95 q96 q97 q98 q99 q100 q101 q102 q103 q104 q105 q106 : Nat} {k2 k4 k87 k88 k89 k90 k91 k92 k93 k94 k96 k106 : ClassId} {H : Heap} {locs : List Loc} (hK : va_K (dC, dI) vwCl [(k2, .char), (k4, (.object "Seekwell$Text")), (k87, .boolean), (k88, .int), (k89, .int), (k90, .char), (k91, (.array .long)), (k92, (.array .long)), (k93, .int), (k94, .int), (k96, .boolean), (k106, .long)] s) (hP : va_P (dC, dI) vwCl [(q0, .inr (13, [.ref q1, .ref q3, .ref q5, .ref q7, .ref q9, .ref q11, .ref q13, .ref q15, .int 0, .ref q17, .ref q21, .ref q25, .ref q26, .ref q27])), (q1, .inr (7, [.ref q2, .int 0])), (q2, .inl (k2, 512, .inl (fun _ => 0))), (q3, .inr (11, [.ref q4, .int 0, .int 1])), (q4, .inl (k4, 24, .inr (.inr (.inr (.inr (fun _ => none)))))), (q5, .inr (11, [.ref q6, .int 0, .int 1])), (q7, .inr (10, [.ref q8, .int 0])), (q9, .inr (5, [.ref q10, .int 0, .int 0])), (q15, .inr (5, [.ref q16, .int 0, .int 0])), (q17, .inr (9, [.ref q18, .ref q18, .null])), (q21, .inr (9, [.ref q22, .ref q22, .null])), (q22, .inr (8, [.int 0, .int 0, .int 1, .int 0, .int 0, .int 0, .ref q23, .null, .null, .null, .null, .int 0, .int 0, .int 0, .int 0, .null, .null])), (q26, .inr (3, [.null, .null, .int 0, .int 0, .null])), (q86, .inr (15, [.ref q87, .ref q88, .ref q89, .ref q90, .ref q91, .ref q92, .int 0, .int 1, .ref q93, .int 0, .ref q94, .null, .ref q95, .null, .ref q96, .ref q97, .ref q98, .ref q99, .ref q100, .int 0, .ref q101, .ref q102, .ref q103, .ref q104, .ref q105, .int 0, .int 0])), (q87, .inl (k87, 24, .inl (fun _ => 0))), (q88, .inl (k88, 24, .inl (fun _ => 0))), (q89, .inl (k89, 24, .inl (fun _ => 0))), (q90, .inl (k90, 24, .inl (fun _ => 0))), (q91, .inl (k91, 24, .inr (.inr (.inr (.inr (fun _ => none)))))), (q92, .inl (k92, 24, .inr (.inr (.inr (.inr (fun _ => none)))))), (q93, .inl (k93, 4000, .inl (fun _ => 0))), (q94, .inl (k94, 0, .inl (fun _ => 0))), (q96, .inl (k96, 24, .inl (fun _ => 0))), (q106, .inl (k106, 1, .inr (.inl (fun _ => 0))))] H) (hD : va_D (fun q : Nat => s.heap.size ≤ q) [(q0, .inr (13, [.ref q1, .ref q3, .ref q5, .ref q7, .ref q9, .ref q11, .ref q13, .ref q15, .int 0, .ref q17, .ref q21, .ref q25, .ref q26, .ref q27])), (q1, .inr (7, [.ref q2, .int 0])), (q2, .inl (k2, 512, .inl (fun _ => 0))), (q3, .inr (11, [.ref q4, .int 0, .int 1])), (q4, .inl (k4, 24, .inr (.inr (.inr (.inr (fun _ => none)))))), (q5, .inr (11, [.ref q6, .int 0, .int 1])), (q7, .inr (10, [.ref q8, .int 0])), (q9, .inr (5, [.ref q10, .int 0, .int 0])), (q15, .inr (5, [.ref q16, .int 0, .int 0])), (q17, .inr (9, [.ref q18, .ref q18, .null])), (q21, .inr (9, [.ref q22, .ref q22, .null])), (q22, .inr (8, [.int 0, .int 0, .int 1, .int 0, .int 0, .int 0, .ref q23, .null, .null, .null, .null, .int 0, .int 0, .int 0, .int 0, .null, .null])), (q26, .inr (3, [.null, .null, .int 0, .int 0, .null])), (q86, .inr (15, [.ref q87, .ref q88, .ref q89, .ref q90, .ref q91, .ref q92, .int 0, .int 1, .ref q93, .int 0, .ref q94, .null, .ref q95, .null, .ref q96, .ref q97, .ref q98, .ref q99, .ref q100, .int 0, .ref q101, .ref q102, .ref q103, .ref q104, .ref q105, .int 0, .int 0])), (q87, .inl (k87, 24, .inl (fun _ => 0))), (q88, .inl (k88, 24, .inl (fun _ => 0))), (q89, .inl (k89, 24, .inl (fun _ => 0))), (q90, .inl (k90, 24, .inl (fun _ => 0))), (q91, .inl (k91, 24, .inr (.inr (.inr (.inr (fun _ => none)))))), (q92, .inl (k92, 24, .inr (.inr (.inr (.inr (fun _ => none)))))), (q93, .inl (k93, 4000, .inl (fun _ => 0))), (q94, .inl (k94, 0, .inl (fun _ => 0))), (q96, .inl (k96, 24, .inl (fun _ => 0))), (q106, .inl (k106, 1, .inr (.inl (fun _ => 0))))]) (hS : va_S (fun q : Nat => s.heap.size ≤ q) s.heap H locs) (hZ : zZ (fun q : Nat => s.heap.size ≤ q) s s.heap) (hN : zN s) (ls : Array Slot) (hl : lv_has ls 7 [(4, .int 0), (3, .ref q106), (2, .ref q86), (1, .ref q0), (0, .ref b)]) : W p l e room_1 s m #[Value.ref b] below meth c H locs 131 6692 (lw_Z below #[Value.ref b] s) (F0 m 425 ls []) := by
  obtain ⟨hx, hb, hr, hml, hown, hts, hX, hbl, hlocks, hgv⟩ := id C0
  have hbA : ¬ (fun q : Nat => s.heap.size ≤ q) b := Nat.not_le.mpr hbl
  have hA : ∀ q : Nat, s.heap.size ≤ q → (fun q : Nat => s.heap.size ≤ q) q := fun _ h => h
  by_cases hb0 : (xs 1) < (0 : Int32)
  · skip
    have hc0 : (xs 1) < (0 : Int32) := hb0
    refine lv_aload_n hx hb dL_law_425 rfl (lv_at hl 3 rfl) ?_
    refine lv_aload_n hx hb dL_law_426 rfl (lv_at hl 4 rfl) ?_
    refine lv_iload hx hb dL_law_427 (lv_at hl 0 rfl) ?_
    refine lv_iconst (v := 1) hx hb dL_law_429 (by decide +kernel) ?_
    refine lv_iadd hx hb dL_law_430 ?_
    refine zt_i (v := 1) (by decide +kernel) ?_
    refine va_sld hx hb hX hbl hbA hS (i := 1) (zin (by decide +kernel)) dL_law_431 ?_
    refine zt_v (w := .int (xs 1)) rfl ?_
    refine lv_aload_n hx hb dL_law_432 rfl (lv_at hl 1 rfl) ?_
    have hPc := hP.sub (ws' := [(q0, .inr (13, [.ref q1, .ref q3, .ref q5, .ref q7, .ref q9, .ref q11, .ref q13, .ref q15, .int 0, .ref q17, .ref q21, .ref q25, .ref q26, .ref q27])), (q3, .inr (11, [.ref q4, .int 0, .int 1]))]) [0, 3] rfl
    have hDc := hD.sub (ws' := [(q0, .inr (13, [.ref q1, .ref q3, .ref q5, .ref q7, .ref q9, .ref q11, .ref q13, .ref q15, .int 0, .ref q17, .ref q21, .ref q25, .ref q26, .ref q27])), (q3, .inr (11, [.ref q4, .int 0, .int 1]))]) [0, 3] (by decide) rfl
    have hKc := hK.sub (tys' := []) [] rfl
    have hFc := va_free (wc := [(q0, .inr (13, [.ref q1, .ref q3, .ref q5, .ref q7, .ref q9, .ref q11, .ref q13, .ref q15, .int 0, .ref q17, .ref q21, .ref q25, .ref q26, .ref q27])), (q3, .inr (11, [.ref q4, .int 0, .int 1]))]) hD hS hA [0, 3] rfl
    refine va_calli (vx_runSW (As := [.ref q0, .int (xs 1), .ref q106]) (rest := []) ⟨hx, hb, hml, hown, hts⟩ (c_L_revise l hfl dC dI q0 q106 q1 q3 q5 q7 q9 q11 q13 q15 q17 q21 q25 q26 q27 q4 H.size (xs 1) hc0) (vx_cwSW 3 hts gL_law_L_revise rfl rfl rfl (by decide +kernel) ⟨Nat.le_of_ble_eq_true rfl, Nat.le_of_ble_eq_true rfl⟩) ⟨zB_blind, (zPre hPc hDc hKc hS hFc hZ hN)⟩ rfl rfl hl.1 rfl (lv_room (Nat.le_of_ble_eq_true rfl)) dL_law_433 ⟨Nat.le_of_ble_eq_true rfl, Nat.le_of_ble_eq_true rfl⟩) hS (fun q _ h => hFc q h) hFc (fun r u t H1 locs ht hvm hw hB hz1 hk1 hS => ?_)
    subst hw
    obtain ⟨hP1, hK1, hD1⟩ := hB
    rw [ht] at hP1
    have hK1 := va_K.moved hvm.symm hK1
    obtain ⟨hP, hD⟩ := va_join (wr := [(q86, .inr (15, [.ref q87, .ref q88, .ref q89, .ref q90, .ref q91, .ref q92, .int 0, .int 1, .ref q93, .int 0, .ref q94, .null, .ref q95, .null, .ref q96, .ref q97, .ref q98, .ref q99, .ref q100, .int 0, .ref q101, .ref q102, .ref q103, .ref q104, .ref q105, .int 0, .int 0]))]) (w1 := []) hP hD [0, 3] [13] rfl rfl (by decide) (by decide) hk1 hFc hP1 hD1
    have hK := (hK.sub (tys' := []) [] rfl).app hK1
    generalize H1 = H at hP hS ⊢
    have hP : va_P (dC, dI) vwCl [(q86, .inr (15, [.ref q87, .ref q88, .ref q89, .ref q90, .ref q91, .ref q92, .int 0, .int 1, .ref q93, .int 0, .ref q94, .null, .ref q95, .null, .ref q96, .ref q97, .ref q98, .ref q99, .ref q100, .int 0, .ref q101, .ref q102, .ref q103, .ref q104, .ref q105, .int 0, .int 0]))] H := hP
    have hD : va_D (fun q : Nat => s.heap.size ≤ q) [(q86, .inr (15, [.ref q87, .ref q88, .ref q89, .ref q90, .ref q91, .ref q92, .int 0, .int 1, .ref q93, .int 0, .ref q94, .null, .ref q95, .null, .ref q96, .ref q97, .ref q98, .ref q99, .ref q100, .int 0, .ref q101, .ref q102, .ref q103, .ref q104, .ref q105, .int 0, .int 0]))] := hD
    have hK : va_K (dC, dI) vwCl [] s := hK
    refine W.widen (k := 132) (n := 6698) (Nat.le_of_ble_eq_true rfl) (Nat.le_of_ble_eq_true rfl) ?_
    refine lv_istore (lv' := [(5, .int 1), (4, .int 0), (3, .ref q106), (2, .ref q86), (1, .ref q0), (0, .ref b)]) hx hb dL_law_436 hl (by decide) rfl (fun ls hl => ?_)
    refine lv_aload_n hx hb dL_law_438 rfl (lv_at hl 3 rfl) ?_
    refine lv_aload_n hx hb dL_law_439 rfl (lv_at hl 5 rfl) ?_
    refine lv_iload hx hb dL_law_440 (lv_at hl 1 rfl) ?_
    refine lv_iconst (v := 1) hx hb dL_law_442 (by decide +kernel) ?_
    refine lv_iadd hx hb dL_law_443 ?_
    refine zt_i (v := 1) (by decide +kernel) ?_
    refine va_sld hx hb hX hbl hbA hS (i := 1) (zin (by decide +kernel)) dL_law_444 ?_
    refine zt_v (w := .int (xs 1)) rfl ?_
    have hPc := hP.sub (ws' := [(q86, .inr (15, [.ref q87, .ref q88, .ref q89, .ref q90, .ref q91, .ref q92, .int 0, .int 1, .ref q93, .int 0, .ref q94, .null, .ref q95, .null, .ref q96, .ref q97, .ref q98, .ref q99, .ref q100, .int 0, .ref q101, .ref q102, .ref q103, .ref q104, .ref q105, .int 0, .int 0]))]) [0] rfl
    have hDc := hD.sub (ws' := [(q86, .inr (15, [.ref q87, .ref q88, .ref q89, .ref q90, .ref q91, .ref q92, .int 0, .int 1, .ref q93, .int 0, .ref q94, .null, .ref q95, .null, .ref q96, .ref q97, .ref q98, .ref q99, .ref q100, .int 0, .ref q101, .ref q102, .ref q103, .ref q104, .ref q105, .int 0, .int 0]))]) [0] (by decide) rfl
    have hKc := hK.sub (tys' := []) [] rfl
    have hFc := va_free (wc := [(q86, .inr (15, [.ref q87, .ref q88, .ref q89, .ref q90, .ref q91, .ref q92, .int 0, .int 1, .ref q93, .int 0, .ref q94, .null, .ref q95, .null, .ref q96, .ref q97, .ref q98, .ref q99, .ref q100, .int 0, .ref q101, .ref q102, .ref q103, .ref q104, .ref q105, .int 0, .int 0]))]) hD hS hA [0] rfl
    refine va_calli (va_runV (As := [.int (xs 1)]) (rest := []) ⟨hx, hb, hml, hown, hts⟩ (c_X13_revise l dC dI q86 q87 q88 q89 q90 q91 q92 q93 q94 q95 q96 q97 q98 q99 q100 q101 q102 q103 q104 q105 H.size (xs 1) hc0) (cwV 1 hts gL_law_X13_revise rfl rfl rfl (by decide +kernel) ⟨Nat.le_of_ble_eq_true rfl, Nat.le_of_ble_eq_true rfl⟩) ⟨zB_blind, va_recv hK hP (ci := 15) (q0 := 0) rfl rfl, (zPre hPc hDc hKc hS hFc hZ hN)⟩ rfl rfl hl.1 rfl (lv_room (Nat.le_of_ble_eq_true rfl)) dL_law_445 ⟨Nat.le_of_ble_eq_true rfl, Nat.le_of_ble_eq_true rfl⟩) hS (fun q _ h => hFc q h) hFc (fun r u t H1 locs ht hvm hw hB hz1 hk1 hS => ?_)
    subst hw
    obtain ⟨hP1, hK1, hD1⟩ := hB
    rw [ht] at hP1
    have hK1 := va_K.moved hvm.symm hK1
    obtain ⟨hP, hD⟩ := va_join (wr := []) (w1 := [(q86, .inr (15, [.ref q87, .ref q88, .ref q89, .ref q90, .ref q91, .ref q92, .int 0, .int 1, .ref q93, .int 0, .ref q94, .null, .ref q95, .null, .ref q96, .ref q97, .ref q98, .ref q99, .ref q100, .int 1, .ref q101, .ref q102, .ref q103, .ref q104, .ref q105, .int 0, .int 0]))]) hP hD [0] [] rfl rfl (by decide) (by decide) hk1 hFc hP1 hD1
    have hK := (hK.sub (tys' := []) [] rfl).app hK1
    generalize H1 = H at hP hS ⊢
    have hP : va_P (dC, dI) vwCl [(q86, .inr (15, [.ref q87, .ref q88, .ref q89, .ref q90, .ref q91, .ref q92, .int 0, .int 1, .ref q93, .int 0, .ref q94, .null, .ref q95, .null, .ref q96, .ref q97, .ref q98, .ref q99, .ref q100, .int 1, .ref q101, .ref q102, .ref q103, .ref q104, .ref q105, .int 0, .int 0]))] H := hP
    have hD : va_D (fun q : Nat => s.heap.size ≤ q) [(q86, .inr (15, [.ref q87, .ref q88, .ref q89, .ref q90, .ref q91, .ref q92, .int 0, .int 1, .ref q93, .int 0, .ref q94, .null, .ref q95, .null, .ref q96, .ref q97, .ref q98, .ref q99, .ref q100, .int 1, .ref q101, .ref q102, .ref q103, .ref q104, .ref q105, .int 0, .int 0]))] := hD
    have hK : va_K (dC, dI) vwCl [] s := hK
    refine W.widen (k := 132) (n := 6698) (Nat.le_of_ble_eq_true rfl) (Nat.le_of_ble_eq_true rfl) ?_
    refine lv_istore (lv' := [(6, .int 0), (5, .int 1), (4, .int 0), (3, .ref q106), (2, .ref q86), (1, .ref q0), (0, .ref b)]) hx hb dL_law_448 hl (by decide) rfl (fun ls hl => ?_)
    refine lv_aload_n hx hb dL_law_450 rfl (lv_at hl 4 rfl) ?_
    have hPc := hP.sub (ws' := [(q86, .inr (15, [.ref q87, .ref q88, .ref q89, .ref q90, .ref q91, .ref q92, .int 0, .int 1, .ref q93, .int 0, .ref q94, .null, .ref q95, .null, .ref q96, .ref q97, .ref q98, .ref q99, .ref q100, .int 1, .ref q101, .ref q102, .ref q103, .ref q104, .ref q105, .int 0, .int 0]))]) [0] rfl
    have hDc := hD.sub (ws' := [(q86, .inr (15, [.ref q87, .ref q88, .ref q89, .ref q90, .ref q91, .ref q92, .int 0, .int 1, .ref q93, .int 0, .ref q94, .null, .ref q95, .null, .ref q96, .ref q97, .ref q98, .ref q99, .ref q100, .int 1, .ref q101, .ref q102, .ref q103, .ref q104, .ref q105, .int 0, .int 0]))]) [0] (by decide) rfl
    have hKc := hK.sub (tys' := []) [] rfl
    have hFc := va_free (wc := [(q86, .inr (15, [.ref q87, .ref q88, .ref q89, .ref q90, .ref q91, .ref q92, .int 0, .int 1, .ref q93, .int 0, .ref q94, .null, .ref q95, .null, .ref q96, .ref q97, .ref q98, .ref q99, .ref q100, .int 1, .ref q101, .ref q102, .ref q103, .ref q104, .ref q105, .int 0, .int 0]))]) hD hS hA [0] rfl
    refine va_calli (va_runV (As := []) (rest := []) ⟨hx, hb, hml, hown, hts⟩ (c_X13_thrown l dC dI q86 q87 q88 q89 q90 q91 q92 q93 q94 q95 q96 q97 q98 q99 q100 q101 q102 q103 q104 q105 H.size  ) (cwV 0 hts gL_law_X13_thrown rfl rfl rfl (by decide +kernel) ⟨Nat.le_of_ble_eq_true rfl, Nat.le_of_ble_eq_true rfl⟩) ⟨zB_blind, va_recv hK hP (ci := 15) (q0 := 0) rfl rfl, (zPre hPc hDc hKc hS hFc hZ hN)⟩ rfl rfl hl.1 rfl (lv_room (Nat.le_of_ble_eq_true rfl)) dL_law_451 ⟨Nat.le_of_ble_eq_true rfl, Nat.le_of_ble_eq_true rfl⟩) hS (fun q _ h => hFc q h) hFc (fun r u t H1 locs ht hvm hw hB hz1 hk1 hS => ?_)
    subst hw
    obtain ⟨hP1, hK1, hD1⟩ := hB
    rw [ht] at hP1
    have hK1 := va_K.moved hvm.symm hK1
    obtain ⟨hP, hD⟩ := va_join (wr := []) (w1 := []) hP hD [0] [] rfl rfl (by decide) (by decide) hk1 hFc hP1 hD1
    have hK := (hK.sub (tys' := []) [] rfl).app hK1
    generalize H1 = H at hP hS ⊢
    have hP : va_P (dC, dI) vwCl [] H := hP
    have hD : va_D (fun q : Nat => s.heap.size ≤ q) [] := hD
    have hK : va_K (dC, dI) vwCl [] s := hK
    refine W.widen (k := 132) (n := 6698) (Nat.le_of_ble_eq_true rfl) (Nat.le_of_ble_eq_true rfl) ?_
    refine lv_iload hx hb dL_law_454 (lv_at hl 1 rfl) ?_
    refine lv_icmp_eq (tgt := 461) hx hb dL_law_456 (by decide) (fun _ => ?_) (fun h9 => absurd (show (1 : Int32) = (1 : Int32) by decide +kernel) h9)
    refine lv_iload hx hb dL_law_461 (lv_at hl 1 rfl) ?_
    refine lv_if_ne (tgt := 478) hx hb dL_law_463 (by decide) (fun _ => ?_) (fun h9 => absurd h9 (show ¬ (1 : Int32) = (0 : Int32) by decide +kernel))
    refine lv_goto (tgt := 2311) hx hb dL_law_478 (by decide) ?_
    exact law_exit C0 hS (Nat.le_of_ble_eq_true rfl) (Nat.le_of_ble_eq_true rfl) ls (lv_sub hl [2, 3, 4, 5, 6] rfl)
  · skip
    have hc0 : ¬ (xs 1) < (0 : Int32) := hb0
    have hc1 : (0 : Int32) ≤ (xs 1) := zd_4 hb0
    have hc2 : ((-1) : Int32) < (xs 1) := zd_3 hb0
    refine lv_aload_n hx hb dL_law_425 rfl (lv_at hl 3 rfl) ?_
    refine lv_aload_n hx hb dL_law_426 rfl (lv_at hl 4 rfl) ?_
    refine lv_iload hx hb dL_law_427 (lv_at hl 0 rfl) ?_
    refine lv_iconst (v := 1) hx hb dL_law_429 (by decide +kernel) ?_
    refine lv_iadd hx hb dL_law_430 ?_
    refine zt_i (v := 1) (by decide +kernel) ?_
    refine va_sld hx hb hX hbl hbA hS (i := 1) (zin (by decide +kernel)) dL_law_431 ?_
    refine zt_v (w := .int (xs 1)) rfl ?_
    refine lv_aload_n hx hb dL_law_432 rfl (lv_at hl 1 rfl) ?_
    have hPc := hP.sub (ws' := [(q0, .inr (13, [.ref q1, .ref q3, .ref q5, .ref q7, .ref q9, .ref q11, .ref q13, .ref q15, .int 0, .ref q17, .ref q21, .ref q25, .ref q26, .ref q27])), (q3, .inr (11, [.ref q4, .int 0, .int 1]))]) [0, 3] rfl
    have hDc := hD.sub (ws' := [(q0, .inr (13, [.ref q1, .ref q3, .ref q5, .ref q7, .ref q9, .ref q11, .ref q13, .ref q15, .int 0, .ref q17, .ref q21, .ref q25, .ref q26, .ref q27])), (q3, .inr (11, [.ref q4, .int 0, .int 1]))]) [0, 3] (by decide) rfl
    have hKc := hK.sub (tys' := []) [] rfl
    have hFc := va_free (wc := [(q0, .inr (13, [.ref q1, .ref q3, .ref q5, .ref q7, .ref q9, .ref q11, .ref q13, .ref q15, .int 0, .ref q17, .ref q21, .ref q25, .ref q26, .ref q27])), (q3, .inr (11, [.ref q4, .int 0, .int 1]))]) hD hS hA [0, 3] rfl
    refine va_calli (vx_runSW (As := [.ref q0, .int (xs 1), .ref q106]) (rest := []) ⟨hx, hb, hml, hown, hts⟩ (c_L_revise_2 l hfl dC dI q0 q106 q1 q3 q5 q7 q9 q11 q13 q15 q17 q21 q25 q26 q27 q4 H.size (xs 1) hc0 hc1) (vx_cwSW 3 hts gL_law_L_revise rfl rfl rfl (by decide +kernel) ⟨Nat.le_of_ble_eq_true rfl, Nat.le_of_ble_eq_true rfl⟩) ⟨zB_blind, (zPre hPc hDc hKc hS hFc hZ hN)⟩ rfl rfl hl.1 rfl (lv_room (Nat.le_of_ble_eq_true rfl)) dL_law_433 ⟨Nat.le_of_ble_eq_true rfl, Nat.le_of_ble_eq_true rfl⟩) hS (fun q _ h => hFc q h) hFc (fun r u t H1 locs ht hvm hw hB hz1 hk1 hS => ?_)
    subst hw
    obtain ⟨hP1, hK1, hD1⟩ := hB
    rw [ht] at hP1
    have hK1 := va_K.moved hvm.symm hK1
    obtain ⟨hP, hD⟩ := va_join (wr := [(q86, .inr (15, [.ref q87, .ref q88, .ref q89, .ref q90, .ref q91, .ref q92, .int 0, .int 1, .ref q93, .int 0, .ref q94, .null, .ref q95, .null, .ref q96, .ref q97, .ref q98, .ref q99, .ref q100, .int 0, .ref q101, .ref q102, .ref q103, .ref q104, .ref q105, .int 0, .int 0]))]) (w1 := []) hP hD [0, 3] [13] rfl rfl (by decide) (by decide) hk1 hFc hP1 hD1
    have hK := (hK.sub (tys' := []) [] rfl).app hK1
    generalize H1 = H at hP hS ⊢
    have hP : va_P (dC, dI) vwCl [(q86, .inr (15, [.ref q87, .ref q88, .ref q89, .ref q90, .ref q91, .ref q92, .int 0, .int 1, .ref q93, .int 0, .ref q94, .null, .ref q95, .null, .ref q96, .ref q97, .ref q98, .ref q99, .ref q100, .int 0, .ref q101, .ref q102, .ref q103, .ref q104, .ref q105, .int 0, .int 0]))] H := hP
    have hD : va_D (fun q : Nat => s.heap.size ≤ q) [(q86, .inr (15, [.ref q87, .ref q88, .ref q89, .ref q90, .ref q91, .ref q92, .int 0, .int 1, .ref q93, .int 0, .ref q94, .null, .ref q95, .null, .ref q96, .ref q97, .ref q98, .ref q99, .ref q100, .int 0, .ref q101, .ref q102, .ref q103, .ref q104, .ref q105, .int 0, .int 0]))] := hD
    have hK : va_K (dC, dI) vwCl [] s := hK
    refine W.widen (k := 132) (n := 6698) (Nat.le_of_ble_eq_true rfl) (Nat.le_of_ble_eq_true rfl) ?_
    refine lv_istore (lv' := [(5, .int 1), (4, .int 0), (3, .ref q106), (2, .ref q86), (1, .ref q0), (0, .ref b)]) hx hb dL_law_436 hl (by decide) rfl (fun ls hl => ?_)
    refine lv_aload_n hx hb dL_law_438 rfl (lv_at hl 3 rfl) ?_
    refine lv_aload_n hx hb dL_law_439 rfl (lv_at hl 5 rfl) ?_
    refine lv_iload hx hb dL_law_440 (lv_at hl 1 rfl) ?_
    refine lv_iconst (v := 1) hx hb dL_law_442 (by decide +kernel) ?_
    refine lv_iadd hx hb dL_law_443 ?_
    refine zt_i (v := 1) (by decide +kernel) ?_
    refine va_sld hx hb hX hbl hbA hS (i := 1) (zin (by decide +kernel)) dL_law_444 ?_
    refine zt_v (w := .int (xs 1)) rfl ?_
    have hPc := hP.sub (ws' := [(q86, .inr (15, [.ref q87, .ref q88, .ref q89, .ref q90, .ref q91, .ref q92, .int 0, .int 1, .ref q93, .int 0, .ref q94, .null, .ref q95, .null, .ref q96, .ref q97, .ref q98, .ref q99, .ref q100, .int 0, .ref q101, .ref q102, .ref q103, .ref q104, .ref q105, .int 0, .int 0]))]) [0] rfl
    have hDc := hD.sub (ws' := [(q86, .inr (15, [.ref q87, .ref q88, .ref q89, .ref q90, .ref q91, .ref q92, .int 0, .int 1, .ref q93, .int 0, .ref q94, .null, .ref q95, .null, .ref q96, .ref q97, .ref q98, .ref q99, .ref q100, .int 0, .ref q101, .ref q102, .ref q103, .ref q104, .ref q105, .int 0, .int 0]))]) [0] (by decide) rfl
    have hKc := hK.sub (tys' := []) [] rfl
    have hFc := va_free (wc := [(q86, .inr (15, [.ref q87, .ref q88, .ref q89, .ref q90, .ref q91, .ref q92, .int 0, .int 1, .ref q93, .int 0, .ref q94, .null, .ref q95, .null, .ref q96, .ref q97, .ref q98, .ref q99, .ref q100, .int 0, .ref q101, .ref q102, .ref q103, .ref q104, .ref q105, .int 0, .int 0]))]) hD hS hA [0] rfl
    refine va_calli (va_runV (As := [.int (xs 1)]) (rest := []) ⟨hx, hb, hml, hown, hts⟩ (c_X13_revise_2 l dC dI q86 q87 q88 q89 q90 q91 q92 q93 q94 q95 q96 q97 q98 q99 q100 q101 q102 q103 q104 q105 H.size (xs 1) hc0 hc2) (cwV 1 hts gL_law_X13_revise rfl rfl rfl (by decide +kernel) ⟨Nat.le_of_ble_eq_true rfl, Nat.le_of_ble_eq_true rfl⟩) ⟨zB_blind, va_recv hK hP (ci := 15) (q0 := 0) rfl rfl, (zPre hPc hDc hKc hS hFc hZ hN)⟩ rfl rfl hl.1 rfl (lv_room (Nat.le_of_ble_eq_true rfl)) dL_law_445 ⟨Nat.le_of_ble_eq_true rfl, Nat.le_of_ble_eq_true rfl⟩) hS (fun q _ h => hFc q h) hFc (fun r u t H1 locs ht hvm hw hB hz1 hk1 hS => ?_)
    subst hw
    obtain ⟨hP1, hK1, hD1⟩ := hB
    rw [ht] at hP1
    have hK1 := va_K.moved hvm.symm hK1
    obtain ⟨hP, hD⟩ := va_join (wr := []) (w1 := [(q86, .inr (15, [.ref q87, .ref q88, .ref q89, .ref q90, .ref q91, .ref q92, .int 0, .int 1, .ref q93, .int 0, .ref q94, .null, .ref q95, .null, .ref q96, .ref q97, .ref q98, .ref q99, .ref q100, .int 1, .ref q101, .ref q102, .ref q103, .ref q104, .ref q105, .int 0, .int 0]))]) hP hD [0] [] rfl rfl (by decide) (by decide) hk1 hFc hP1 hD1
    have hK := (hK.sub (tys' := []) [] rfl).app hK1
    generalize H1 = H at hP hS ⊢
    have hP : va_P (dC, dI) vwCl [(q86, .inr (15, [.ref q87, .ref q88, .ref q89, .ref q90, .ref q91, .ref q92, .int 0, .int 1, .ref q93, .int 0, .ref q94, .null, .ref q95, .null, .ref q96, .ref q97, .ref q98, .ref q99, .ref q100, .int 1, .ref q101, .ref q102, .ref q103, .ref q104, .ref q105, .int 0, .int 0]))] H := hP
    have hD : va_D (fun q : Nat => s.heap.size ≤ q) [(q86, .inr (15, [.ref q87, .ref q88, .ref q89, .ref q90, .ref q91, .ref q92, .int 0, .int 1, .ref q93, .int 0, .ref q94, .null, .ref q95, .null, .ref q96, .ref q97, .ref q98, .ref q99, .ref q100, .int 1, .ref q101, .ref q102, .ref q103, .ref q104, .ref q105, .int 0, .int 0]))] := hD
    have hK : va_K (dC, dI) vwCl [] s := hK
    refine W.widen (k := 132) (n := 6698) (Nat.le_of_ble_eq_true rfl) (Nat.le_of_ble_eq_true rfl) ?_
    refine lv_istore (lv' := [(6, .int 0), (5, .int 1), (4, .int 0), (3, .ref q106), (2, .ref q86), (1, .ref q0), (0, .ref b)]) hx hb dL_law_448 hl (by decide) rfl (fun ls hl => ?_)
    refine lv_aload_n hx hb dL_law_450 rfl (lv_at hl 4 rfl) ?_
    have hPc := hP.sub (ws' := [(q86, .inr (15, [.ref q87, .ref q88, .ref q89, .ref q90, .ref q91, .ref q92, .int 0, .int 1, .ref q93, .int 0, .ref q94, .null, .ref q95, .null, .ref q96, .ref q97, .ref q98, .ref q99, .ref q100, .int 1, .ref q101, .ref q102, .ref q103, .ref q104, .ref q105, .int 0, .int 0]))]) [0] rfl
    have hDc := hD.sub (ws' := [(q86, .inr (15, [.ref q87, .ref q88, .ref q89, .ref q90, .ref q91, .ref q92, .int 0, .int 1, .ref q93, .int 0, .ref q94, .null, .ref q95, .null, .ref q96, .ref q97, .ref q98, .ref q99, .ref q100, .int 1, .ref q101, .ref q102, .ref q103, .ref q104, .ref q105, .int 0, .int 0]))]) [0] (by decide) rfl
    have hKc := hK.sub (tys' := []) [] rfl
    have hFc := va_free (wc := [(q86, .inr (15, [.ref q87, .ref q88, .ref q89, .ref q90, .ref q91, .ref q92, .int 0, .int 1, .ref q93, .int 0, .ref q94, .null, .ref q95, .null, .ref q96, .ref q97, .ref q98, .ref q99, .ref q100, .int 1, .ref q101, .ref q102, .ref q103, .ref q104, .ref q105, .int 0, .int 0]))]) hD hS hA [0] rfl
    refine va_calli (va_runV (As := []) (rest := []) ⟨hx, hb, hml, hown, hts⟩ (c_X13_thrown l dC dI q86 q87 q88 q89 q90 q91 q92 q93 q94 q95 q96 q97 q98 q99 q100 q101 q102 q103 q104 q105 H.size  ) (cwV 0 hts gL_law_X13_thrown rfl rfl rfl (by decide +kernel) ⟨Nat.le_of_ble_eq_true rfl, Nat.le_of_ble_eq_true rfl⟩) ⟨zB_blind, va_recv hK hP (ci := 15) (q0 := 0) rfl rfl, (zPre hPc hDc hKc hS hFc hZ hN)⟩ rfl rfl hl.1 rfl (lv_room (Nat.le_of_ble_eq_true rfl)) dL_law_451 ⟨Nat.le_of_ble_eq_true rfl, Nat.le_of_ble_eq_true rfl⟩) hS (fun q _ h => hFc q h) hFc (fun r u t H1 locs ht hvm hw hB hz1 hk1 hS => ?_)
    subst hw
    obtain ⟨hP1, hK1, hD1⟩ := hB
    rw [ht] at hP1
    have hK1 := va_K.moved hvm.symm hK1
    obtain ⟨hP, hD⟩ := va_join (wr := []) (w1 := []) hP hD [0] [] rfl rfl (by decide) (by decide) hk1 hFc hP1 hD1
    have hK := (hK.sub (tys' := []) [] rfl).app hK1
    generalize H1 = H at hP hS ⊢
    have hP : va_P (dC, dI) vwCl [] H := hP
    have hD : va_D (fun q : Nat => s.heap.size ≤ q) [] := hD
    have hK : va_K (dC, dI) vwCl [] s := hK
    refine W.widen (k := 132) (n := 6698) (Nat.le_of_ble_eq_true rfl) (Nat.le_of_ble_eq_true rfl) ?_
    refine lv_iload hx hb dL_law_454 (lv_at hl 1 rfl) ?_
    refine lv_icmp_eq (tgt := 461) hx hb dL_law_456 (by decide) (fun _ => ?_) (fun h9 => absurd (show (1 : Int32) = (1 : Int32) by decide +kernel) h9)
    refine lv_iload hx hb dL_law_461 (lv_at hl 1 rfl) ?_
    refine lv_if_ne (tgt := 478) hx hb dL_law_463 (by decide) (fun _ => ?_) (fun h9 => absurd h9 (show ¬ (1 : Int32) = (0 : Int32) by decide +kernel))
    refine lv_goto (tgt := 2311) hx hb dL_law_478 (by decide) ?_
    exact law_exit C0 hS (Nat.le_of_ble_eq_true rfl) (Nat.le_of_ble_eq_true rfl) ls (lv_sub hl [2, 3, 4, 5, 6] rfl)
set_option maxHeartbeats 8000000 in
set_option maxRecDepth 100000 in
theorem law_case_5 {p : Program} {l : Launch} {e : Env} {s : State} {m : MethodId} {below : List Frame} {meth : Method} {c : Code} {b : Nat} {xs : Nat → Int32} (hfl : l.stackTraces = false) (C0 : lw_At p s m meth c b 4 xs) {dC : Nat → ClassId} {dI : Nat → Nat → Nat} {q0 q1 q3 q5 q7 q9 q11 q13 q15 q17 q21 q25 q26 q27 q2 q4 q6 q8 q10 q16 q18 q22 q23 q86 q87 q88 q89 q90 q91 q92 q93 q94 q95 q96 q97 q98 q99 q100 q101 q102 q103 q104 q105 q106 : Nat} {k2 k4 k87 k88 k89 k90 k91 k92 k93 k94 k96 k106 : ClassId} {H : Heap} {locs : List Loc} (hK : va_K (dC, dI) vwCl [(k2, .char), (k4, (.object "Seekwell$Text")), (k87, .boolean), (k88, .int), (k89, .int), (k90, .char), (k91, (.array .long)), (k92, (.array .long)), (k93, .int), (k94, .int), (k96, .boolean), (k106, .long)] s) (hP : va_P (dC, dI) vwCl [(q0, .inr (13, [.ref q1, .ref q3, .ref q5, .ref q7, .ref q9, .ref q11, .ref q13, .ref q15, .int 0, .ref q17, .ref q21, .ref q25, .ref q26, .ref q27])), (q1, .inr (7, [.ref q2, .int 0])), (q2, .inl (k2, 512, .inl (fun _ => 0))), (q3, .inr (11, [.ref q4, .int 0, .int 1])), (q4, .inl (k4, 24, .inr (.inr (.inr (.inr (fun _ => none)))))), (q5, .inr (11, [.ref q6, .int 0, .int 1])), (q7, .inr (10, [.ref q8, .int 0])), (q9, .inr (5, [.ref q10, .int 0, .int 0])), (q15, .inr (5, [.ref q16, .int 0, .int 0])), (q17, .inr (9, [.ref q18, .ref q18, .null])), (q21, .inr (9, [.ref q22, .ref q22, .null])), (q22, .inr (8, [.int 0, .int 0, .int 1, .int 0, .int 0, .int 0, .ref q23, .null, .null, .null, .null, .int 0, .int 0, .int 0, .int 0, .null, .null])), (q26, .inr (3, [.null, .null, .int 0, .int 0, .null])), (q86, .inr (15, [.ref q87, .ref q88, .ref q89, .ref q90, .ref q91, .ref q92, .int 0, .int 1, .ref q93, .int 0, .ref q94, .null, .ref q95, .null, .ref q96, .ref q97, .ref q98, .ref q99, .ref q100, .int 0, .ref q101, .ref q102, .ref q103, .ref q104, .ref q105, .int 0, .int 0])), (q87, .inl (k87, 24, .inl (fun _ => 0))), (q88, .inl (k88, 24, .inl (fun _ => 0))), (q89, .inl (k89, 24, .inl (fun _ => 0))), (q90, .inl (k90, 24, .inl (fun _ => 0))), (q91, .inl (k91, 24, .inr (.inr (.inr (.inr (fun _ => none)))))), (q92, .inl (k92, 24, .inr (.inr (.inr (.inr (fun _ => none)))))), (q93, .inl (k93, 4000, .inl (fun _ => 0))), (q94, .inl (k94, 0, .inl (fun _ => 0))), (q96, .inl (k96, 24, .inl (fun _ => 0))), (q106, .inl (k106, 1, .inr (.inl (fun _ => 0))))] H) (hD : va_D (fun q : Nat => s.heap.size ≤ q) [(q0, .inr (13, [.ref q1, .ref q3, .ref q5, .ref q7, .ref q9, .ref q11, .ref q13, .ref q15, .int 0, .ref q17, .ref q21, .ref q25, .ref q26, .ref q27])), (q1, .inr (7, [.ref q2, .int 0])), (q2, .inl (k2, 512, .inl (fun _ => 0))), (q3, .inr (11, [.ref q4, .int 0, .int 1])), (q4, .inl (k4, 24, .inr (.inr (.inr (.inr (fun _ => none)))))), (q5, .inr (11, [.ref q6, .int 0, .int 1])), (q7, .inr (10, [.ref q8, .int 0])), (q9, .inr (5, [.ref q10, .int 0, .int 0])), (q15, .inr (5, [.ref q16, .int 0, .int 0])), (q17, .inr (9, [.ref q18, .ref q18, .null])), (q21, .inr (9, [.ref q22, .ref q22, .null])), (q22, .inr (8, [.int 0, .int 0, .int 1, .int 0, .int 0, .int 0, .ref q23, .null, .null, .null, .null, .int 0, .int 0, .int 0, .int 0, .null, .null])), (q26, .inr (3, [.null, .null, .int 0, .int 0, .null])), (q86, .inr (15, [.ref q87, .ref q88, .ref q89, .ref q90, .ref q91, .ref q92, .int 0, .int 1, .ref q93, .int 0, .ref q94, .null, .ref q95, .null, .ref q96, .ref q97, .ref q98, .ref q99, .ref q100, .int 0, .ref q101, .ref q102, .ref q103, .ref q104, .ref q105, .int 0, .int 0])), (q87, .inl (k87, 24, .inl (fun _ => 0))), (q88, .inl (k88, 24, .inl (fun _ => 0))), (q89, .inl (k89, 24, .inl (fun _ => 0))), (q90, .inl (k90, 24, .inl (fun _ => 0))), (q91, .inl (k91, 24, .inr (.inr (.inr (.inr (fun _ => none)))))), (q92, .inl (k92, 24, .inr (.inr (.inr (.inr (fun _ => none)))))), (q93, .inl (k93, 4000, .inl (fun _ => 0))), (q94, .inl (k94, 0, .inl (fun _ => 0))), (q96, .inl (k96, 24, .inl (fun _ => 0))), (q106, .inl (k106, 1, .inr (.inl (fun _ => 0))))]) (hS : va_S (fun q : Nat => s.heap.size ≤ q) s.heap H locs) (hZ : zZ (fun q : Nat => s.heap.size ≤ q) s s.heap) (hN : zN s) (ls : Array Slot) (hl : lv_has ls 7 [(4, .int 0), (3, .ref q106), (2, .ref q86), (1, .ref q0), (0, .ref b)]) : W p l e room_1 s m #[Value.ref b] below meth c H locs 131 6692 (lw_Z below #[Value.ref b] s) (F0 m 481 ls []) := by
  obtain ⟨hx, hb, hr, hml, hown, hts, hX, hbl, hlocks, hgv⟩ := id C0
  have hbA : ¬ (fun q : Nat => s.heap.size ≤ q) b := Nat.not_le.mpr hbl
  have hA : ∀ q : Nat, s.heap.size ≤ q → (fun q : Nat => s.heap.size ≤ q) q := fun _ h => h
  by_cases hb0 : (xs 1) < (0 : Int32)
  · skip
    have hc0 : (xs 1) < (0 : Int32) := hb0
    refine lv_aload_n hx hb dL_law_481 rfl (lv_at hl 3 rfl) ?_
    refine lv_aload_n hx hb dL_law_482 rfl (lv_at hl 4 rfl) ?_
    refine lv_iload hx hb dL_law_483 (lv_at hl 0 rfl) ?_
    refine lv_iconst (v := 1) hx hb dL_law_485 (by decide +kernel) ?_
    refine lv_iadd hx hb dL_law_486 ?_
    refine zt_i (v := 1) (by decide +kernel) ?_
    refine va_sld hx hb hX hbl hbA hS (i := 1) (zin (by decide +kernel)) dL_law_487 ?_
    refine zt_v (w := .int (xs 1)) rfl ?_
    refine lv_aload_n hx hb dL_law_488 rfl (lv_at hl 1 rfl) ?_
    have hPc := hP.sub (ws' := [(q0, .inr (13, [.ref q1, .ref q3, .ref q5, .ref q7, .ref q9, .ref q11, .ref q13, .ref q15, .int 0, .ref q17, .ref q21, .ref q25, .ref q26, .ref q27])), (q3, .inr (11, [.ref q4, .int 0, .int 1]))]) [0, 3] rfl
    have hDc := hD.sub (ws' := [(q0, .inr (13, [.ref q1, .ref q3, .ref q5, .ref q7, .ref q9, .ref q11, .ref q13, .ref q15, .int 0, .ref q17, .ref q21, .ref q25, .ref q26, .ref q27])), (q3, .inr (11, [.ref q4, .int 0, .int 1]))]) [0, 3] (by decide) rfl
    have hKc := hK.sub (tys' := []) [] rfl
    have hFc := va_free (wc := [(q0, .inr (13, [.ref q1, .ref q3, .ref q5, .ref q7, .ref q9, .ref q11, .ref q13, .ref q15, .int 0, .ref q17, .ref q21, .ref q25, .ref q26, .ref q27])), (q3, .inr (11, [.ref q4, .int 0, .int 1]))]) hD hS hA [0, 3] rfl
    refine va_calli (vx_runSW (As := [.ref q0, .int (xs 1), .ref q106]) (rest := []) ⟨hx, hb, hml, hown, hts⟩ (c_L_drop l hfl dC dI q0 q106 q1 q3 q5 q7 q9 q11 q13 q15 q17 q21 q25 q26 q27 q4 H.size (xs 1) hc0) (vx_cwSW 3 hts gL_law_L_drop rfl rfl rfl (by decide +kernel) ⟨Nat.le_of_ble_eq_true rfl, Nat.le_of_ble_eq_true rfl⟩) ⟨zB_blind, (zPre hPc hDc hKc hS hFc hZ hN)⟩ rfl rfl hl.1 rfl (lv_room (Nat.le_of_ble_eq_true rfl)) dL_law_489 ⟨Nat.le_of_ble_eq_true rfl, Nat.le_of_ble_eq_true rfl⟩) hS (fun q _ h => hFc q h) hFc (fun r u t H1 locs ht hvm hw hB hz1 hk1 hS => ?_)
    subst hw
    obtain ⟨hP1, hK1, hD1⟩ := hB
    rw [ht] at hP1
    have hK1 := va_K.moved hvm.symm hK1
    obtain ⟨hP, hD⟩ := va_join (wr := [(q86, .inr (15, [.ref q87, .ref q88, .ref q89, .ref q90, .ref q91, .ref q92, .int 0, .int 1, .ref q93, .int 0, .ref q94, .null, .ref q95, .null, .ref q96, .ref q97, .ref q98, .ref q99, .ref q100, .int 0, .ref q101, .ref q102, .ref q103, .ref q104, .ref q105, .int 0, .int 0]))]) (w1 := []) hP hD [0, 3] [13] rfl rfl (by decide) (by decide) hk1 hFc hP1 hD1
    have hK := (hK.sub (tys' := []) [] rfl).app hK1
    generalize H1 = H at hP hS ⊢
    have hP : va_P (dC, dI) vwCl [(q86, .inr (15, [.ref q87, .ref q88, .ref q89, .ref q90, .ref q91, .ref q92, .int 0, .int 1, .ref q93, .int 0, .ref q94, .null, .ref q95, .null, .ref q96, .ref q97, .ref q98, .ref q99, .ref q100, .int 0, .ref q101, .ref q102, .ref q103, .ref q104, .ref q105, .int 0, .int 0]))] H := hP
    have hD : va_D (fun q : Nat => s.heap.size ≤ q) [(q86, .inr (15, [.ref q87, .ref q88, .ref q89, .ref q90, .ref q91, .ref q92, .int 0, .int 1, .ref q93, .int 0, .ref q94, .null, .ref q95, .null, .ref q96, .ref q97, .ref q98, .ref q99, .ref q100, .int 0, .ref q101, .ref q102, .ref q103, .ref q104, .ref q105, .int 0, .int 0]))] := hD
    have hK : va_K (dC, dI) vwCl [] s := hK
    refine W.widen (k := 132) (n := 6698) (Nat.le_of_ble_eq_true rfl) (Nat.le_of_ble_eq_true rfl) ?_
    refine lv_istore (lv' := [(5, .int 1), (4, .int 0), (3, .ref q106), (2, .ref q86), (1, .ref q0), (0, .ref b)]) hx hb dL_law_492 hl (by decide) rfl (fun ls hl => ?_)
    refine lv_aload_n hx hb dL_law_494 rfl (lv_at hl 3 rfl) ?_
    refine lv_aload_n hx hb dL_law_495 rfl (lv_at hl 5 rfl) ?_
    refine lv_iload hx hb dL_law_496 (lv_at hl 1 rfl) ?_
    refine lv_iconst (v := 1) hx hb dL_law_498 (by decide +kernel) ?_
    refine lv_iadd hx hb dL_law_499 ?_
    refine zt_i (v := 1) (by decide +kernel) ?_
    refine va_sld hx hb hX hbl hbA hS (i := 1) (zin (by decide +kernel)) dL_law_500 ?_
    refine zt_v (w := .int (xs 1)) rfl ?_
    have hPc := hP.sub (ws' := [(q86, .inr (15, [.ref q87, .ref q88, .ref q89, .ref q90, .ref q91, .ref q92, .int 0, .int 1, .ref q93, .int 0, .ref q94, .null, .ref q95, .null, .ref q96, .ref q97, .ref q98, .ref q99, .ref q100, .int 0, .ref q101, .ref q102, .ref q103, .ref q104, .ref q105, .int 0, .int 0]))]) [0] rfl
    have hDc := hD.sub (ws' := [(q86, .inr (15, [.ref q87, .ref q88, .ref q89, .ref q90, .ref q91, .ref q92, .int 0, .int 1, .ref q93, .int 0, .ref q94, .null, .ref q95, .null, .ref q96, .ref q97, .ref q98, .ref q99, .ref q100, .int 0, .ref q101, .ref q102, .ref q103, .ref q104, .ref q105, .int 0, .int 0]))]) [0] (by decide) rfl
    have hKc := hK.sub (tys' := []) [] rfl
    have hFc := va_free (wc := [(q86, .inr (15, [.ref q87, .ref q88, .ref q89, .ref q90, .ref q91, .ref q92, .int 0, .int 1, .ref q93, .int 0, .ref q94, .null, .ref q95, .null, .ref q96, .ref q97, .ref q98, .ref q99, .ref q100, .int 0, .ref q101, .ref q102, .ref q103, .ref q104, .ref q105, .int 0, .int 0]))]) hD hS hA [0] rfl
    refine va_calli (va_runV (As := [.int (xs 1)]) (rest := []) ⟨hx, hb, hml, hown, hts⟩ (c_X13_drop l dC dI q86 q87 q88 q89 q90 q91 q92 q93 q94 q95 q96 q97 q98 q99 q100 q101 q102 q103 q104 q105 H.size (xs 1) hc0) (cwV 1 hts gL_law_X13_drop rfl rfl rfl (by decide +kernel) ⟨Nat.le_of_ble_eq_true rfl, Nat.le_of_ble_eq_true rfl⟩) ⟨zB_blind, va_recv hK hP (ci := 15) (q0 := 0) rfl rfl, (zPre hPc hDc hKc hS hFc hZ hN)⟩ rfl rfl hl.1 rfl (lv_room (Nat.le_of_ble_eq_true rfl)) dL_law_501 ⟨Nat.le_of_ble_eq_true rfl, Nat.le_of_ble_eq_true rfl⟩) hS (fun q _ h => hFc q h) hFc (fun r u t H1 locs ht hvm hw hB hz1 hk1 hS => ?_)
    subst hw
    obtain ⟨hP1, hK1, hD1⟩ := hB
    rw [ht] at hP1
    have hK1 := va_K.moved hvm.symm hK1
    obtain ⟨hP, hD⟩ := va_join (wr := []) (w1 := [(q86, .inr (15, [.ref q87, .ref q88, .ref q89, .ref q90, .ref q91, .ref q92, .int 0, .int 1, .ref q93, .int 0, .ref q94, .null, .ref q95, .null, .ref q96, .ref q97, .ref q98, .ref q99, .ref q100, .int 1, .ref q101, .ref q102, .ref q103, .ref q104, .ref q105, .int 0, .int 0]))]) hP hD [0] [] rfl rfl (by decide) (by decide) hk1 hFc hP1 hD1
    have hK := (hK.sub (tys' := []) [] rfl).app hK1
    generalize H1 = H at hP hS ⊢
    have hP : va_P (dC, dI) vwCl [(q86, .inr (15, [.ref q87, .ref q88, .ref q89, .ref q90, .ref q91, .ref q92, .int 0, .int 1, .ref q93, .int 0, .ref q94, .null, .ref q95, .null, .ref q96, .ref q97, .ref q98, .ref q99, .ref q100, .int 1, .ref q101, .ref q102, .ref q103, .ref q104, .ref q105, .int 0, .int 0]))] H := hP
    have hD : va_D (fun q : Nat => s.heap.size ≤ q) [(q86, .inr (15, [.ref q87, .ref q88, .ref q89, .ref q90, .ref q91, .ref q92, .int 0, .int 1, .ref q93, .int 0, .ref q94, .null, .ref q95, .null, .ref q96, .ref q97, .ref q98, .ref q99, .ref q100, .int 1, .ref q101, .ref q102, .ref q103, .ref q104, .ref q105, .int 0, .int 0]))] := hD
    have hK : va_K (dC, dI) vwCl [] s := hK
    refine W.widen (k := 132) (n := 6698) (Nat.le_of_ble_eq_true rfl) (Nat.le_of_ble_eq_true rfl) ?_
    refine lv_istore (lv' := [(6, .int 0), (5, .int 1), (4, .int 0), (3, .ref q106), (2, .ref q86), (1, .ref q0), (0, .ref b)]) hx hb dL_law_504 hl (by decide) rfl (fun ls hl => ?_)
    refine lv_aload_n hx hb dL_law_506 rfl (lv_at hl 4 rfl) ?_
    have hPc := hP.sub (ws' := [(q86, .inr (15, [.ref q87, .ref q88, .ref q89, .ref q90, .ref q91, .ref q92, .int 0, .int 1, .ref q93, .int 0, .ref q94, .null, .ref q95, .null, .ref q96, .ref q97, .ref q98, .ref q99, .ref q100, .int 1, .ref q101, .ref q102, .ref q103, .ref q104, .ref q105, .int 0, .int 0]))]) [0] rfl
    have hDc := hD.sub (ws' := [(q86, .inr (15, [.ref q87, .ref q88, .ref q89, .ref q90, .ref q91, .ref q92, .int 0, .int 1, .ref q93, .int 0, .ref q94, .null, .ref q95, .null, .ref q96, .ref q97, .ref q98, .ref q99, .ref q100, .int 1, .ref q101, .ref q102, .ref q103, .ref q104, .ref q105, .int 0, .int 0]))]) [0] (by decide) rfl
    have hKc := hK.sub (tys' := []) [] rfl
    have hFc := va_free (wc := [(q86, .inr (15, [.ref q87, .ref q88, .ref q89, .ref q90, .ref q91, .ref q92, .int 0, .int 1, .ref q93, .int 0, .ref q94, .null, .ref q95, .null, .ref q96, .ref q97, .ref q98, .ref q99, .ref q100, .int 1, .ref q101, .ref q102, .ref q103, .ref q104, .ref q105, .int 0, .int 0]))]) hD hS hA [0] rfl
    refine va_calli (va_runV (As := []) (rest := []) ⟨hx, hb, hml, hown, hts⟩ (c_X13_thrown l dC dI q86 q87 q88 q89 q90 q91 q92 q93 q94 q95 q96 q97 q98 q99 q100 q101 q102 q103 q104 q105 H.size  ) (cwV 0 hts gL_law_X13_thrown rfl rfl rfl (by decide +kernel) ⟨Nat.le_of_ble_eq_true rfl, Nat.le_of_ble_eq_true rfl⟩) ⟨zB_blind, va_recv hK hP (ci := 15) (q0 := 0) rfl rfl, (zPre hPc hDc hKc hS hFc hZ hN)⟩ rfl rfl hl.1 rfl (lv_room (Nat.le_of_ble_eq_true rfl)) dL_law_507 ⟨Nat.le_of_ble_eq_true rfl, Nat.le_of_ble_eq_true rfl⟩) hS (fun q _ h => hFc q h) hFc (fun r u t H1 locs ht hvm hw hB hz1 hk1 hS => ?_)
    subst hw
    obtain ⟨hP1, hK1, hD1⟩ := hB
    rw [ht] at hP1
    have hK1 := va_K.moved hvm.symm hK1
    obtain ⟨hP, hD⟩ := va_join (wr := []) (w1 := []) hP hD [0] [] rfl rfl (by decide) (by decide) hk1 hFc hP1 hD1
    have hK := (hK.sub (tys' := []) [] rfl).app hK1
    generalize H1 = H at hP hS ⊢
    have hP : va_P (dC, dI) vwCl [] H := hP
    have hD : va_D (fun q : Nat => s.heap.size ≤ q) [] := hD
    have hK : va_K (dC, dI) vwCl [] s := hK
    refine W.widen (k := 132) (n := 6698) (Nat.le_of_ble_eq_true rfl) (Nat.le_of_ble_eq_true rfl) ?_
    refine lv_iload hx hb dL_law_510 (lv_at hl 1 rfl) ?_
    refine lv_icmp_eq (tgt := 517) hx hb dL_law_512 (by decide) (fun _ => ?_) (fun h9 => absurd (show (1 : Int32) = (1 : Int32) by decide +kernel) h9)
    refine lv_iload hx hb dL_law_517 (lv_at hl 1 rfl) ?_
    refine lv_if_ne (tgt := 534) hx hb dL_law_519 (by decide) (fun _ => ?_) (fun h9 => absurd h9 (show ¬ (1 : Int32) = (0 : Int32) by decide +kernel))
    refine lv_goto (tgt := 2311) hx hb dL_law_534 (by decide) ?_
    exact law_exit C0 hS (Nat.le_of_ble_eq_true rfl) (Nat.le_of_ble_eq_true rfl) ls (lv_sub hl [2, 3, 4, 5, 6] rfl)
  · skip
    have hc0 : ¬ (xs 1) < (0 : Int32) := hb0
    have hc1 : (0 : Int32) ≤ (xs 1) := zd_4 hb0
    have hc2 : ((-1) : Int32) < (xs 1) := zd_3 hb0
    refine lv_aload_n hx hb dL_law_481 rfl (lv_at hl 3 rfl) ?_
    refine lv_aload_n hx hb dL_law_482 rfl (lv_at hl 4 rfl) ?_
    refine lv_iload hx hb dL_law_483 (lv_at hl 0 rfl) ?_
    refine lv_iconst (v := 1) hx hb dL_law_485 (by decide +kernel) ?_
    refine lv_iadd hx hb dL_law_486 ?_
    refine zt_i (v := 1) (by decide +kernel) ?_
    refine va_sld hx hb hX hbl hbA hS (i := 1) (zin (by decide +kernel)) dL_law_487 ?_
    refine zt_v (w := .int (xs 1)) rfl ?_
    refine lv_aload_n hx hb dL_law_488 rfl (lv_at hl 1 rfl) ?_
    have hPc := hP.sub (ws' := [(q0, .inr (13, [.ref q1, .ref q3, .ref q5, .ref q7, .ref q9, .ref q11, .ref q13, .ref q15, .int 0, .ref q17, .ref q21, .ref q25, .ref q26, .ref q27])), (q3, .inr (11, [.ref q4, .int 0, .int 1]))]) [0, 3] rfl
    have hDc := hD.sub (ws' := [(q0, .inr (13, [.ref q1, .ref q3, .ref q5, .ref q7, .ref q9, .ref q11, .ref q13, .ref q15, .int 0, .ref q17, .ref q21, .ref q25, .ref q26, .ref q27])), (q3, .inr (11, [.ref q4, .int 0, .int 1]))]) [0, 3] (by decide) rfl
    have hKc := hK.sub (tys' := []) [] rfl
    have hFc := va_free (wc := [(q0, .inr (13, [.ref q1, .ref q3, .ref q5, .ref q7, .ref q9, .ref q11, .ref q13, .ref q15, .int 0, .ref q17, .ref q21, .ref q25, .ref q26, .ref q27])), (q3, .inr (11, [.ref q4, .int 0, .int 1]))]) hD hS hA [0, 3] rfl
    refine va_calli (vx_runSW (As := [.ref q0, .int (xs 1), .ref q106]) (rest := []) ⟨hx, hb, hml, hown, hts⟩ (c_L_drop_2 l hfl dC dI q0 q106 q1 q3 q5 q7 q9 q11 q13 q15 q17 q21 q25 q26 q27 q4 H.size (xs 1) hc0 hc1) (vx_cwSW 3 hts gL_law_L_drop rfl rfl rfl (by decide +kernel) ⟨Nat.le_of_ble_eq_true rfl, Nat.le_of_ble_eq_true rfl⟩) ⟨zB_blind, (zPre hPc hDc hKc hS hFc hZ hN)⟩ rfl rfl hl.1 rfl (lv_room (Nat.le_of_ble_eq_true rfl)) dL_law_489 ⟨Nat.le_of_ble_eq_true rfl, Nat.le_of_ble_eq_true rfl⟩) hS (fun q _ h => hFc q h) hFc (fun r u t H1 locs ht hvm hw hB hz1 hk1 hS => ?_)
    subst hw
    obtain ⟨hP1, hK1, hD1⟩ := hB
    rw [ht] at hP1
    have hK1 := va_K.moved hvm.symm hK1
    obtain ⟨hP, hD⟩ := va_join (wr := [(q86, .inr (15, [.ref q87, .ref q88, .ref q89, .ref q90, .ref q91, .ref q92, .int 0, .int 1, .ref q93, .int 0, .ref q94, .null, .ref q95, .null, .ref q96, .ref q97, .ref q98, .ref q99, .ref q100, .int 0, .ref q101, .ref q102, .ref q103, .ref q104, .ref q105, .int 0, .int 0]))]) (w1 := []) hP hD [0, 3] [13] rfl rfl (by decide) (by decide) hk1 hFc hP1 hD1
    have hK := (hK.sub (tys' := []) [] rfl).app hK1
    generalize H1 = H at hP hS ⊢
    have hP : va_P (dC, dI) vwCl [(q86, .inr (15, [.ref q87, .ref q88, .ref q89, .ref q90, .ref q91, .ref q92, .int 0, .int 1, .ref q93, .int 0, .ref q94, .null, .ref q95, .null, .ref q96, .ref q97, .ref q98, .ref q99, .ref q100, .int 0, .ref q101, .ref q102, .ref q103, .ref q104, .ref q105, .int 0, .int 0]))] H := hP
    have hD : va_D (fun q : Nat => s.heap.size ≤ q) [(q86, .inr (15, [.ref q87, .ref q88, .ref q89, .ref q90, .ref q91, .ref q92, .int 0, .int 1, .ref q93, .int 0, .ref q94, .null, .ref q95, .null, .ref q96, .ref q97, .ref q98, .ref q99, .ref q100, .int 0, .ref q101, .ref q102, .ref q103, .ref q104, .ref q105, .int 0, .int 0]))] := hD
    have hK : va_K (dC, dI) vwCl [] s := hK
    refine W.widen (k := 132) (n := 6698) (Nat.le_of_ble_eq_true rfl) (Nat.le_of_ble_eq_true rfl) ?_
    refine lv_istore (lv' := [(5, .int 1), (4, .int 0), (3, .ref q106), (2, .ref q86), (1, .ref q0), (0, .ref b)]) hx hb dL_law_492 hl (by decide) rfl (fun ls hl => ?_)
    refine lv_aload_n hx hb dL_law_494 rfl (lv_at hl 3 rfl) ?_
    refine lv_aload_n hx hb dL_law_495 rfl (lv_at hl 5 rfl) ?_
    refine lv_iload hx hb dL_law_496 (lv_at hl 1 rfl) ?_
    refine lv_iconst (v := 1) hx hb dL_law_498 (by decide +kernel) ?_
    refine lv_iadd hx hb dL_law_499 ?_
    refine zt_i (v := 1) (by decide +kernel) ?_
    refine va_sld hx hb hX hbl hbA hS (i := 1) (zin (by decide +kernel)) dL_law_500 ?_
    refine zt_v (w := .int (xs 1)) rfl ?_
    have hPc := hP.sub (ws' := [(q86, .inr (15, [.ref q87, .ref q88, .ref q89, .ref q90, .ref q91, .ref q92, .int 0, .int 1, .ref q93, .int 0, .ref q94, .null, .ref q95, .null, .ref q96, .ref q97, .ref q98, .ref q99, .ref q100, .int 0, .ref q101, .ref q102, .ref q103, .ref q104, .ref q105, .int 0, .int 0]))]) [0] rfl
    have hDc := hD.sub (ws' := [(q86, .inr (15, [.ref q87, .ref q88, .ref q89, .ref q90, .ref q91, .ref q92, .int 0, .int 1, .ref q93, .int 0, .ref q94, .null, .ref q95, .null, .ref q96, .ref q97, .ref q98, .ref q99, .ref q100, .int 0, .ref q101, .ref q102, .ref q103, .ref q104, .ref q105, .int 0, .int 0]))]) [0] (by decide) rfl
    have hKc := hK.sub (tys' := []) [] rfl
    have hFc := va_free (wc := [(q86, .inr (15, [.ref q87, .ref q88, .ref q89, .ref q90, .ref q91, .ref q92, .int 0, .int 1, .ref q93, .int 0, .ref q94, .null, .ref q95, .null, .ref q96, .ref q97, .ref q98, .ref q99, .ref q100, .int 0, .ref q101, .ref q102, .ref q103, .ref q104, .ref q105, .int 0, .int 0]))]) hD hS hA [0] rfl
    refine va_calli (va_runV (As := [.int (xs 1)]) (rest := []) ⟨hx, hb, hml, hown, hts⟩ (c_X13_drop_2 l dC dI q86 q87 q88 q89 q90 q91 q92 q93 q94 q95 q96 q97 q98 q99 q100 q101 q102 q103 q104 q105 H.size (xs 1) hc0 hc2) (cwV 1 hts gL_law_X13_drop rfl rfl rfl (by decide +kernel) ⟨Nat.le_of_ble_eq_true rfl, Nat.le_of_ble_eq_true rfl⟩) ⟨zB_blind, va_recv hK hP (ci := 15) (q0 := 0) rfl rfl, (zPre hPc hDc hKc hS hFc hZ hN)⟩ rfl rfl hl.1 rfl (lv_room (Nat.le_of_ble_eq_true rfl)) dL_law_501 ⟨Nat.le_of_ble_eq_true rfl, Nat.le_of_ble_eq_true rfl⟩) hS (fun q _ h => hFc q h) hFc (fun r u t H1 locs ht hvm hw hB hz1 hk1 hS => ?_)
    subst hw
    obtain ⟨hP1, hK1, hD1⟩ := hB
    rw [ht] at hP1
    have hK1 := va_K.moved hvm.symm hK1
    obtain ⟨hP, hD⟩ := va_join (wr := []) (w1 := [(q86, .inr (15, [.ref q87, .ref q88, .ref q89, .ref q90, .ref q91, .ref q92, .int 0, .int 1, .ref q93, .int 0, .ref q94, .null, .ref q95, .null, .ref q96, .ref q97, .ref q98, .ref q99, .ref q100, .int 1, .ref q101, .ref q102, .ref q103, .ref q104, .ref q105, .int 0, .int 0]))]) hP hD [0] [] rfl rfl (by decide) (by decide) hk1 hFc hP1 hD1
    have hK := (hK.sub (tys' := []) [] rfl).app hK1
    generalize H1 = H at hP hS ⊢
    have hP : va_P (dC, dI) vwCl [(q86, .inr (15, [.ref q87, .ref q88, .ref q89, .ref q90, .ref q91, .ref q92, .int 0, .int 1, .ref q93, .int 0, .ref q94, .null, .ref q95, .null, .ref q96, .ref q97, .ref q98, .ref q99, .ref q100, .int 1, .ref q101, .ref q102, .ref q103, .ref q104, .ref q105, .int 0, .int 0]))] H := hP
    have hD : va_D (fun q : Nat => s.heap.size ≤ q) [(q86, .inr (15, [.ref q87, .ref q88, .ref q89, .ref q90, .ref q91, .ref q92, .int 0, .int 1, .ref q93, .int 0, .ref q94, .null, .ref q95, .null, .ref q96, .ref q97, .ref q98, .ref q99, .ref q100, .int 1, .ref q101, .ref q102, .ref q103, .ref q104, .ref q105, .int 0, .int 0]))] := hD
    have hK : va_K (dC, dI) vwCl [] s := hK
    refine W.widen (k := 132) (n := 6698) (Nat.le_of_ble_eq_true rfl) (Nat.le_of_ble_eq_true rfl) ?_
    refine lv_istore (lv' := [(6, .int 0), (5, .int 1), (4, .int 0), (3, .ref q106), (2, .ref q86), (1, .ref q0), (0, .ref b)]) hx hb dL_law_504 hl (by decide) rfl (fun ls hl => ?_)
    refine lv_aload_n hx hb dL_law_506 rfl (lv_at hl 4 rfl) ?_
    have hPc := hP.sub (ws' := [(q86, .inr (15, [.ref q87, .ref q88, .ref q89, .ref q90, .ref q91, .ref q92, .int 0, .int 1, .ref q93, .int 0, .ref q94, .null, .ref q95, .null, .ref q96, .ref q97, .ref q98, .ref q99, .ref q100, .int 1, .ref q101, .ref q102, .ref q103, .ref q104, .ref q105, .int 0, .int 0]))]) [0] rfl
    have hDc := hD.sub (ws' := [(q86, .inr (15, [.ref q87, .ref q88, .ref q89, .ref q90, .ref q91, .ref q92, .int 0, .int 1, .ref q93, .int 0, .ref q94, .null, .ref q95, .null, .ref q96, .ref q97, .ref q98, .ref q99, .ref q100, .int 1, .ref q101, .ref q102, .ref q103, .ref q104, .ref q105, .int 0, .int 0]))]) [0] (by decide) rfl
    have hKc := hK.sub (tys' := []) [] rfl
    have hFc := va_free (wc := [(q86, .inr (15, [.ref q87, .ref q88, .ref q89, .ref q90, .ref q91, .ref q92, .int 0, .int 1, .ref q93, .int 0, .ref q94, .null, .ref q95, .null, .ref q96, .ref q97, .ref q98, .ref q99, .ref q100, .int 1, .ref q101, .ref q102, .ref q103, .ref q104, .ref q105, .int 0, .int 0]))]) hD hS hA [0] rfl
    refine va_calli (va_runV (As := []) (rest := []) ⟨hx, hb, hml, hown, hts⟩ (c_X13_thrown l dC dI q86 q87 q88 q89 q90 q91 q92 q93 q94 q95 q96 q97 q98 q99 q100 q101 q102 q103 q104 q105 H.size  ) (cwV 0 hts gL_law_X13_thrown rfl rfl rfl (by decide +kernel) ⟨Nat.le_of_ble_eq_true rfl, Nat.le_of_ble_eq_true rfl⟩) ⟨zB_blind, va_recv hK hP (ci := 15) (q0 := 0) rfl rfl, (zPre hPc hDc hKc hS hFc hZ hN)⟩ rfl rfl hl.1 rfl (lv_room (Nat.le_of_ble_eq_true rfl)) dL_law_507 ⟨Nat.le_of_ble_eq_true rfl, Nat.le_of_ble_eq_true rfl⟩) hS (fun q _ h => hFc q h) hFc (fun r u t H1 locs ht hvm hw hB hz1 hk1 hS => ?_)
    subst hw
    obtain ⟨hP1, hK1, hD1⟩ := hB
    rw [ht] at hP1
    have hK1 := va_K.moved hvm.symm hK1
    obtain ⟨hP, hD⟩ := va_join (wr := []) (w1 := []) hP hD [0] [] rfl rfl (by decide) (by decide) hk1 hFc hP1 hD1
    have hK := (hK.sub (tys' := []) [] rfl).app hK1
    generalize H1 = H at hP hS ⊢
    have hP : va_P (dC, dI) vwCl [] H := hP
    have hD : va_D (fun q : Nat => s.heap.size ≤ q) [] := hD
    have hK : va_K (dC, dI) vwCl [] s := hK
    refine W.widen (k := 132) (n := 6698) (Nat.le_of_ble_eq_true rfl) (Nat.le_of_ble_eq_true rfl) ?_
    refine lv_iload hx hb dL_law_510 (lv_at hl 1 rfl) ?_
    refine lv_icmp_eq (tgt := 517) hx hb dL_law_512 (by decide) (fun _ => ?_) (fun h9 => absurd (show (1 : Int32) = (1 : Int32) by decide +kernel) h9)
    refine lv_iload hx hb dL_law_517 (lv_at hl 1 rfl) ?_
    refine lv_if_ne (tgt := 534) hx hb dL_law_519 (by decide) (fun _ => ?_) (fun h9 => absurd h9 (show ¬ (1 : Int32) = (0 : Int32) by decide +kernel))
    refine lv_goto (tgt := 2311) hx hb dL_law_534 (by decide) ?_
    exact law_exit C0 hS (Nat.le_of_ble_eq_true rfl) (Nat.le_of_ble_eq_true rfl) ls (lv_sub hl [2, 3, 4, 5, 6] rfl)
set_option maxHeartbeats 8000000 in
set_option maxRecDepth 100000 in
theorem law_case_6 {p : Program} {l : Launch} {e : Env} {s : State} {m : MethodId} {below : List Frame} {meth : Method} {c : Code} {b : Nat} {xs : Nat → Int32} (hfl : l.stackTraces = false) (C0 : lw_At p s m meth c b 4 xs) {dC : Nat → ClassId} {dI : Nat → Nat → Nat} {q0 q1 q3 q5 q7 q9 q11 q13 q15 q17 q21 q25 q26 q27 q2 q4 q6 q8 q10 q16 q18 q22 q23 q86 q87 q88 q89 q90 q91 q92 q93 q94 q95 q96 q97 q98 q99 q100 q101 q102 q103 q104 q105 q106 : Nat} {k2 k4 k87 k88 k89 k90 k91 k92 k93 k94 k96 k106 : ClassId} {H : Heap} {locs : List Loc} (hK : va_K (dC, dI) vwCl [(k2, .char), (k4, (.object "Seekwell$Text")), (k87, .boolean), (k88, .int), (k89, .int), (k90, .char), (k91, (.array .long)), (k92, (.array .long)), (k93, .int), (k94, .int), (k96, .boolean), (k106, .long)] s) (hP : va_P (dC, dI) vwCl [(q0, .inr (13, [.ref q1, .ref q3, .ref q5, .ref q7, .ref q9, .ref q11, .ref q13, .ref q15, .int 0, .ref q17, .ref q21, .ref q25, .ref q26, .ref q27])), (q1, .inr (7, [.ref q2, .int 0])), (q2, .inl (k2, 512, .inl (fun _ => 0))), (q3, .inr (11, [.ref q4, .int 0, .int 1])), (q4, .inl (k4, 24, .inr (.inr (.inr (.inr (fun _ => none)))))), (q5, .inr (11, [.ref q6, .int 0, .int 1])), (q7, .inr (10, [.ref q8, .int 0])), (q9, .inr (5, [.ref q10, .int 0, .int 0])), (q15, .inr (5, [.ref q16, .int 0, .int 0])), (q17, .inr (9, [.ref q18, .ref q18, .null])), (q21, .inr (9, [.ref q22, .ref q22, .null])), (q22, .inr (8, [.int 0, .int 0, .int 1, .int 0, .int 0, .int 0, .ref q23, .null, .null, .null, .null, .int 0, .int 0, .int 0, .int 0, .null, .null])), (q26, .inr (3, [.null, .null, .int 0, .int 0, .null])), (q86, .inr (15, [.ref q87, .ref q88, .ref q89, .ref q90, .ref q91, .ref q92, .int 0, .int 1, .ref q93, .int 0, .ref q94, .null, .ref q95, .null, .ref q96, .ref q97, .ref q98, .ref q99, .ref q100, .int 0, .ref q101, .ref q102, .ref q103, .ref q104, .ref q105, .int 0, .int 0])), (q87, .inl (k87, 24, .inl (fun _ => 0))), (q88, .inl (k88, 24, .inl (fun _ => 0))), (q89, .inl (k89, 24, .inl (fun _ => 0))), (q90, .inl (k90, 24, .inl (fun _ => 0))), (q91, .inl (k91, 24, .inr (.inr (.inr (.inr (fun _ => none)))))), (q92, .inl (k92, 24, .inr (.inr (.inr (.inr (fun _ => none)))))), (q93, .inl (k93, 4000, .inl (fun _ => 0))), (q94, .inl (k94, 0, .inl (fun _ => 0))), (q96, .inl (k96, 24, .inl (fun _ => 0))), (q106, .inl (k106, 1, .inr (.inl (fun _ => 0))))] H) (hD : va_D (fun q : Nat => s.heap.size ≤ q) [(q0, .inr (13, [.ref q1, .ref q3, .ref q5, .ref q7, .ref q9, .ref q11, .ref q13, .ref q15, .int 0, .ref q17, .ref q21, .ref q25, .ref q26, .ref q27])), (q1, .inr (7, [.ref q2, .int 0])), (q2, .inl (k2, 512, .inl (fun _ => 0))), (q3, .inr (11, [.ref q4, .int 0, .int 1])), (q4, .inl (k4, 24, .inr (.inr (.inr (.inr (fun _ => none)))))), (q5, .inr (11, [.ref q6, .int 0, .int 1])), (q7, .inr (10, [.ref q8, .int 0])), (q9, .inr (5, [.ref q10, .int 0, .int 0])), (q15, .inr (5, [.ref q16, .int 0, .int 0])), (q17, .inr (9, [.ref q18, .ref q18, .null])), (q21, .inr (9, [.ref q22, .ref q22, .null])), (q22, .inr (8, [.int 0, .int 0, .int 1, .int 0, .int 0, .int 0, .ref q23, .null, .null, .null, .null, .int 0, .int 0, .int 0, .int 0, .null, .null])), (q26, .inr (3, [.null, .null, .int 0, .int 0, .null])), (q86, .inr (15, [.ref q87, .ref q88, .ref q89, .ref q90, .ref q91, .ref q92, .int 0, .int 1, .ref q93, .int 0, .ref q94, .null, .ref q95, .null, .ref q96, .ref q97, .ref q98, .ref q99, .ref q100, .int 0, .ref q101, .ref q102, .ref q103, .ref q104, .ref q105, .int 0, .int 0])), (q87, .inl (k87, 24, .inl (fun _ => 0))), (q88, .inl (k88, 24, .inl (fun _ => 0))), (q89, .inl (k89, 24, .inl (fun _ => 0))), (q90, .inl (k90, 24, .inl (fun _ => 0))), (q91, .inl (k91, 24, .inr (.inr (.inr (.inr (fun _ => none)))))), (q92, .inl (k92, 24, .inr (.inr (.inr (.inr (fun _ => none)))))), (q93, .inl (k93, 4000, .inl (fun _ => 0))), (q94, .inl (k94, 0, .inl (fun _ => 0))), (q96, .inl (k96, 24, .inl (fun _ => 0))), (q106, .inl (k106, 1, .inr (.inl (fun _ => 0))))]) (hS : va_S (fun q : Nat => s.heap.size ≤ q) s.heap H locs) (hZ : zZ (fun q : Nat => s.heap.size ≤ q) s s.heap) (hN : zN s) (ls : Array Slot) (hl : lv_has ls 7 [(4, .int 0), (3, .ref q106), (2, .ref q86), (1, .ref q0), (0, .ref b)]) : W p l e room_1 s m #[Value.ref b] below meth c H locs 131 6692 (lw_Z below #[Value.ref b] s) (F0 m 537 ls []) := by
  obtain ⟨hx, hb, hr, hml, hown, hts, hX, hbl, hlocks, hgv⟩ := id C0
  have hbA : ¬ (fun q : Nat => s.heap.size ≤ q) b := Nat.not_le.mpr hbl
  have hA : ∀ q : Nat, s.heap.size ≤ q → (fun q : Nat => s.heap.size ≤ q) q := fun _ h => h
  refine lv_aload_n hx hb dL_law_537 rfl (lv_at hl 3 rfl) ?_
  have hPc := hP.sub (ws' := [(q0, .inr (13, [.ref q1, .ref q3, .ref q5, .ref q7, .ref q9, .ref q11, .ref q13, .ref q15, .int 0, .ref q17, .ref q21, .ref q25, .ref q26, .ref q27])), (q3, .inr (11, [.ref q4, .int 0, .int 1]))]) [0, 3] rfl
  have hDc := hD.sub (ws' := [(q0, .inr (13, [.ref q1, .ref q3, .ref q5, .ref q7, .ref q9, .ref q11, .ref q13, .ref q15, .int 0, .ref q17, .ref q21, .ref q25, .ref q26, .ref q27])), (q3, .inr (11, [.ref q4, .int 0, .int 1]))]) [0, 3] (by decide) rfl
  have hKc := hK.sub (tys' := []) [] rfl
  have hFc := va_free (wc := [(q0, .inr (13, [.ref q1, .ref q3, .ref q5, .ref q7, .ref q9, .ref q11, .ref q13, .ref q15, .int 0, .ref q17, .ref q21, .ref q25, .ref q26, .ref q27])), (q3, .inr (11, [.ref q4, .int 0, .int 1]))]) hD hS hA [0, 3] rfl
  refine va_calli (va_runV (As := []) (rest := []) ⟨hx, hb, hml, hown, hts⟩ (c_X11_texts l dC dI q0 q1 q3 q5 q7 q9 q11 q13 q15 q17 q21 q25 q26 q27 q4 H.size  ) (cwV 0 hts gL_law_X11_texts rfl rfl rfl (by decide +kernel) ⟨Nat.le_of_ble_eq_true rfl, Nat.le_of_ble_eq_true rfl⟩) ⟨zB_blind, va_recv hK hP (ci := 13) (q0 := 0) rfl rfl, (zPre hPc hDc hKc hS hFc hZ hN)⟩ rfl rfl hl.1 rfl (lv_room (Nat.le_of_ble_eq_true rfl)) dL_law_538 ⟨Nat.le_of_ble_eq_true rfl, Nat.le_of_ble_eq_true rfl⟩) hS (fun q _ h => hFc q h) hFc (fun r u t H1 locs ht hvm hw hB hz1 hk1 hS => ?_)
  subst hw
  obtain ⟨hP1, hK1, hD1⟩ := hB
  rw [ht] at hP1
  have hK1 := va_K.moved hvm.symm hK1
  obtain ⟨hP, hD⟩ := va_join (wr := [(q86, .inr (15, [.ref q87, .ref q88, .ref q89, .ref q90, .ref q91, .ref q92, .int 0, .int 1, .ref q93, .int 0, .ref q94, .null, .ref q95, .null, .ref q96, .ref q97, .ref q98, .ref q99, .ref q100, .int 0, .ref q101, .ref q102, .ref q103, .ref q104, .ref q105, .int 0, .int 0])), (q87, .inl (k87, 24, .inl (fun _ => 0)))]) (w1 := []) hP hD [0, 3] [13, 14] rfl rfl (by decide) (by decide) hk1 hFc hP1 hD1
  have hK := (hK.sub (tys' := [(k87, .boolean)]) [2] rfl).app hK1
  generalize H1 = H at hP hS ⊢
  have hP : va_P (dC, dI) vwCl [(q86, .inr (15, [.ref q87, .ref q88, .ref q89, .ref q90, .ref q91, .ref q92, .int 0, .int 1, .ref q93, .int 0, .ref q94, .null, .ref q95, .null, .ref q96, .ref q97, .ref q98, .ref q99, .ref q100, .int 0, .ref q101, .ref q102, .ref q103, .ref q104, .ref q105, .int 0, .int 0])), (q87, .inl (k87, 24, .inl (fun _ => 0)))] H := hP
  have hD : va_D (fun q : Nat => s.heap.size ≤ q) [(q86, .inr (15, [.ref q87, .ref q88, .ref q89, .ref q90, .ref q91, .ref q92, .int 0, .int 1, .ref q93, .int 0, .ref q94, .null, .ref q95, .null, .ref q96, .ref q97, .ref q98, .ref q99, .ref q100, .int 0, .ref q101, .ref q102, .ref q103, .ref q104, .ref q105, .int 0, .int 0])), (q87, .inl (k87, 24, .inl (fun _ => 0)))] := hD
  have hK : va_K (dC, dI) vwCl [(k87, .boolean)] s := hK
  refine W.widen (k := 131) (n := 6692) (Nat.le_of_ble_eq_true rfl) (Nat.le_of_ble_eq_true rfl) ?_
  refine lv_aload_n hx hb dL_law_541 rfl (lv_at hl 2 rfl) ?_
  have hPc := hP.sub (ws' := [(q86, .inr (15, [.ref q87, .ref q88, .ref q89, .ref q90, .ref q91, .ref q92, .int 0, .int 1, .ref q93, .int 0, .ref q94, .null, .ref q95, .null, .ref q96, .ref q97, .ref q98, .ref q99, .ref q100, .int 0, .ref q101, .ref q102, .ref q103, .ref q104, .ref q105, .int 0, .int 0])), (q87, .inl (k87, 24, .inl (fun _ => 0)))]) [0, 1] rfl
  have hDc := hD.sub (ws' := [(q86, .inr (15, [.ref q87, .ref q88, .ref q89, .ref q90, .ref q91, .ref q92, .int 0, .int 1, .ref q93, .int 0, .ref q94, .null, .ref q95, .null, .ref q96, .ref q97, .ref q98, .ref q99, .ref q100, .int 0, .ref q101, .ref q102, .ref q103, .ref q104, .ref q105, .int 0, .int 0])), (q87, .inl (k87, 24, .inl (fun _ => 0)))]) [0, 1] (by decide) rfl
  have hKc := hK.sub (tys' := [(k87, .boolean)]) [0] rfl
  have hFc := va_free (wc := [(q86, .inr (15, [.ref q87, .ref q88, .ref q89, .ref q90, .ref q91, .ref q92, .int 0, .int 1, .ref q93, .int 0, .ref q94, .null, .ref q95, .null, .ref q96, .ref q97, .ref q98, .ref q99, .ref q100, .int 0, .ref q101, .ref q102, .ref q103, .ref q104, .ref q105, .int 0, .int 0])), (q87, .inl (k87, 24, .inl (fun _ => 0)))]) hD hS hA [0, 1] rfl
  refine va_calli (va_runV (As := []) (rest := [.int 0]) ⟨hx, hb, hml, hown, hts⟩ (c_X13_texts l dC dI q86 q87 q88 q89 q90 q91 q92 q93 q94 q95 q96 q97 q98 q99 q100 q101 q102 q103 q104 q105 k87 H.size  ) (cwV 0 hts gL_law_X13_texts rfl rfl rfl (by decide +kernel) ⟨Nat.le_of_ble_eq_true rfl, Nat.le_of_ble_eq_true rfl⟩) ⟨zB_blind, va_recv hK hP (ci := 15) (q0 := 0) rfl rfl, (zPre hPc hDc hKc hS hFc hZ hN)⟩ rfl rfl hl.1 rfl (lv_room (Nat.le_of_ble_eq_true rfl)) dL_law_542 ⟨Nat.le_of_ble_eq_true rfl, Nat.le_of_ble_eq_true rfl⟩) hS (fun q _ h => hFc q h) hFc (fun r u t H1 locs ht hvm hw hB hz1 hk1 hS => ?_)
  subst hw
  obtain ⟨hP1, hK1, hD1⟩ := hB
  rw [ht] at hP1
  have hK1 := va_K.moved hvm.symm hK1
  obtain ⟨hP, hD⟩ := va_join (wr := []) (w1 := []) hP hD [0, 1] [] rfl rfl (by decide) (by decide) hk1 hFc hP1 hD1
  have hK := (hK.sub (tys' := []) [] rfl).app hK1
  generalize H1 = H at hP hS ⊢
  have hP : va_P (dC, dI) vwCl [] H := hP
  have hD : va_D (fun q : Nat => s.heap.size ≤ q) [] := hD
  have hK : va_K (dC, dI) vwCl [] s := hK
  refine W.widen (k := 131) (n := 6692) (Nat.le_of_ble_eq_true rfl) (Nat.le_of_ble_eq_true rfl) ?_
  refine lv_icmp_eq (tgt := 2311) hx hb dL_law_545 (by decide) (fun _ => ?_) (fun h9 => absurd (show (0 : Int32) = (0 : Int32) by decide +kernel) h9)
  exact law_exit C0 hS (Nat.le_of_ble_eq_true rfl) (Nat.le_of_ble_eq_true rfl) ls (lv_sub hl [0, 1, 2, 3, 4] rfl)
set_option maxHeartbeats 8000000 in
set_option maxRecDepth 100000 in
theorem law_case_7 {p : Program} {l : Launch} {e : Env} {s : State} {m : MethodId} {below : List Frame} {meth : Method} {c : Code} {b : Nat} {xs : Nat → Int32} (hfl : l.stackTraces = false) (C0 : lw_At p s m meth c b 4 xs) {dC : Nat → ClassId} {dI : Nat → Nat → Nat} {q0 q1 q3 q5 q7 q9 q11 q13 q15 q17 q21 q25 q26 q27 q2 q4 q6 q8 q10 q16 q18 q22 q23 q86 q87 q88 q89 q90 q91 q92 q93 q94 q95 q96 q97 q98 q99 q100 q101 q102 q103 q104 q105 q106 : Nat} {k2 k4 k87 k88 k89 k90 k91 k92 k93 k94 k96 k106 : ClassId} {H : Heap} {locs : List Loc} (hK : va_K (dC, dI) vwCl [(k2, .char), (k4, (.object "Seekwell$Text")), (k87, .boolean), (k88, .int), (k89, .int), (k90, .char), (k91, (.array .long)), (k92, (.array .long)), (k93, .int), (k94, .int), (k96, .boolean), (k106, .long)] s) (hP : va_P (dC, dI) vwCl [(q0, .inr (13, [.ref q1, .ref q3, .ref q5, .ref q7, .ref q9, .ref q11, .ref q13, .ref q15, .int 0, .ref q17, .ref q21, .ref q25, .ref q26, .ref q27])), (q1, .inr (7, [.ref q2, .int 0])), (q2, .inl (k2, 512, .inl (fun _ => 0))), (q3, .inr (11, [.ref q4, .int 0, .int 1])), (q4, .inl (k4, 24, .inr (.inr (.inr (.inr (fun _ => none)))))), (q5, .inr (11, [.ref q6, .int 0, .int 1])), (q7, .inr (10, [.ref q8, .int 0])), (q9, .inr (5, [.ref q10, .int 0, .int 0])), (q15, .inr (5, [.ref q16, .int 0, .int 0])), (q17, .inr (9, [.ref q18, .ref q18, .null])), (q21, .inr (9, [.ref q22, .ref q22, .null])), (q22, .inr (8, [.int 0, .int 0, .int 1, .int 0, .int 0, .int 0, .ref q23, .null, .null, .null, .null, .int 0, .int 0, .int 0, .int 0, .null, .null])), (q26, .inr (3, [.null, .null, .int 0, .int 0, .null])), (q86, .inr (15, [.ref q87, .ref q88, .ref q89, .ref q90, .ref q91, .ref q92, .int 0, .int 1, .ref q93, .int 0, .ref q94, .null, .ref q95, .null, .ref q96, .ref q97, .ref q98, .ref q99, .ref q100, .int 0, .ref q101, .ref q102, .ref q103, .ref q104, .ref q105, .int 0, .int 0])), (q87, .inl (k87, 24, .inl (fun _ => 0))), (q88, .inl (k88, 24, .inl (fun _ => 0))), (q89, .inl (k89, 24, .inl (fun _ => 0))), (q90, .inl (k90, 24, .inl (fun _ => 0))), (q91, .inl (k91, 24, .inr (.inr (.inr (.inr (fun _ => none)))))), (q92, .inl (k92, 24, .inr (.inr (.inr (.inr (fun _ => none)))))), (q93, .inl (k93, 4000, .inl (fun _ => 0))), (q94, .inl (k94, 0, .inl (fun _ => 0))), (q96, .inl (k96, 24, .inl (fun _ => 0))), (q106, .inl (k106, 1, .inr (.inl (fun _ => 0))))] H) (hD : va_D (fun q : Nat => s.heap.size ≤ q) [(q0, .inr (13, [.ref q1, .ref q3, .ref q5, .ref q7, .ref q9, .ref q11, .ref q13, .ref q15, .int 0, .ref q17, .ref q21, .ref q25, .ref q26, .ref q27])), (q1, .inr (7, [.ref q2, .int 0])), (q2, .inl (k2, 512, .inl (fun _ => 0))), (q3, .inr (11, [.ref q4, .int 0, .int 1])), (q4, .inl (k4, 24, .inr (.inr (.inr (.inr (fun _ => none)))))), (q5, .inr (11, [.ref q6, .int 0, .int 1])), (q7, .inr (10, [.ref q8, .int 0])), (q9, .inr (5, [.ref q10, .int 0, .int 0])), (q15, .inr (5, [.ref q16, .int 0, .int 0])), (q17, .inr (9, [.ref q18, .ref q18, .null])), (q21, .inr (9, [.ref q22, .ref q22, .null])), (q22, .inr (8, [.int 0, .int 0, .int 1, .int 0, .int 0, .int 0, .ref q23, .null, .null, .null, .null, .int 0, .int 0, .int 0, .int 0, .null, .null])), (q26, .inr (3, [.null, .null, .int 0, .int 0, .null])), (q86, .inr (15, [.ref q87, .ref q88, .ref q89, .ref q90, .ref q91, .ref q92, .int 0, .int 1, .ref q93, .int 0, .ref q94, .null, .ref q95, .null, .ref q96, .ref q97, .ref q98, .ref q99, .ref q100, .int 0, .ref q101, .ref q102, .ref q103, .ref q104, .ref q105, .int 0, .int 0])), (q87, .inl (k87, 24, .inl (fun _ => 0))), (q88, .inl (k88, 24, .inl (fun _ => 0))), (q89, .inl (k89, 24, .inl (fun _ => 0))), (q90, .inl (k90, 24, .inl (fun _ => 0))), (q91, .inl (k91, 24, .inr (.inr (.inr (.inr (fun _ => none)))))), (q92, .inl (k92, 24, .inr (.inr (.inr (.inr (fun _ => none)))))), (q93, .inl (k93, 4000, .inl (fun _ => 0))), (q94, .inl (k94, 0, .inl (fun _ => 0))), (q96, .inl (k96, 24, .inl (fun _ => 0))), (q106, .inl (k106, 1, .inr (.inl (fun _ => 0))))]) (hS : va_S (fun q : Nat => s.heap.size ≤ q) s.heap H locs) (hZ : zZ (fun q : Nat => s.heap.size ≤ q) s s.heap) (hN : zN s) (ls : Array Slot) (hl : lv_has ls 7 [(4, .int 0), (3, .ref q106), (2, .ref q86), (1, .ref q0), (0, .ref b)]) : W p l e room_1 s m #[Value.ref b] below meth c H locs 131 6692 (lw_Z below #[Value.ref b] s) (F0 m 550 ls []) := by
  obtain ⟨hx, hb, hr, hml, hown, hts, hX, hbl, hlocks, hgv⟩ := id C0
  have hbA : ¬ (fun q : Nat => s.heap.size ≤ q) b := Nat.not_le.mpr hbl
  have hA : ∀ q : Nat, s.heap.size ≤ q → (fun q : Nat => s.heap.size ≤ q) q := fun _ h => h
  by_cases hb0 : (xs 1) < (0 : Int32)
  · skip
    have hc0 : (xs 1) < (0 : Int32) := hb0
    refine lv_aload_n hx hb dL_law_550 rfl (lv_at hl 3 rfl) ?_
    refine lv_aload_n hx hb dL_law_551 rfl (lv_at hl 4 rfl) ?_
    refine lv_iload hx hb dL_law_552 (lv_at hl 0 rfl) ?_
    refine lv_iconst (v := 1) hx hb dL_law_554 (by decide +kernel) ?_
    refine lv_iadd hx hb dL_law_555 ?_
    refine zt_i (v := 1) (by decide +kernel) ?_
    refine va_sld hx hb hX hbl hbA hS (i := 1) (zin (by decide +kernel)) dL_law_556 ?_
    refine zt_v (w := .int (xs 1)) rfl ?_
    have hPc := hP.sub (ws' := [(q0, .inr (13, [.ref q1, .ref q3, .ref q5, .ref q7, .ref q9, .ref q11, .ref q13, .ref q15, .int 0, .ref q17, .ref q21, .ref q25, .ref q26, .ref q27])), (q3, .inr (11, [.ref q4, .int 0, .int 1]))]) [0, 3] rfl
    have hDc := hD.sub (ws' := [(q0, .inr (13, [.ref q1, .ref q3, .ref q5, .ref q7, .ref q9, .ref q11, .ref q13, .ref q15, .int 0, .ref q17, .ref q21, .ref q25, .ref q26, .ref q27])), (q3, .inr (11, [.ref q4, .int 0, .int 1]))]) [0, 3] (by decide) rfl
    have hKc := hK.sub (tys' := []) [] rfl
    have hFc := va_free (wc := [(q0, .inr (13, [.ref q1, .ref q3, .ref q5, .ref q7, .ref q9, .ref q11, .ref q13, .ref q15, .int 0, .ref q17, .ref q21, .ref q25, .ref q26, .ref q27])), (q3, .inr (11, [.ref q4, .int 0, .int 1]))]) hD hS hA [0, 3] rfl
    refine va_calli (va_runV (As := [.int (xs 1)]) (rest := []) ⟨hx, hb, hml, hown, hts⟩ (c_X11_isThere l dC dI q0 q1 q3 q5 q7 q9 q11 q13 q15 q17 q21 q25 q26 q27 q4 H.size (xs 1) hc0) (cwV 1 hts gL_law_X11_isThere rfl rfl rfl (by decide +kernel) ⟨Nat.le_of_ble_eq_true rfl, Nat.le_of_ble_eq_true rfl⟩) ⟨zB_blind, va_recv hK hP (ci := 13) (q0 := 0) rfl rfl, (zPre hPc hDc hKc hS hFc hZ hN)⟩ rfl rfl hl.1 rfl (lv_room (Nat.le_of_ble_eq_true rfl)) dL_law_557 ⟨Nat.le_of_ble_eq_true rfl, Nat.le_of_ble_eq_true rfl⟩) hS (fun q _ h => hFc q h) hFc (fun r u t H1 locs ht hvm hw hB hz1 hk1 hS => ?_)
    subst hw
    obtain ⟨hP1, hK1, hD1⟩ := hB
    rw [ht] at hP1
    have hK1 := va_K.moved hvm.symm hK1
    obtain ⟨hP, hD⟩ := va_join (wr := [(q86, .inr (15, [.ref q87, .ref q88, .ref q89, .ref q90, .ref q91, .ref q92, .int 0, .int 1, .ref q93, .int 0, .ref q94, .null, .ref q95, .null, .ref q96, .ref q97, .ref q98, .ref q99, .ref q100, .int 0, .ref q101, .ref q102, .ref q103, .ref q104, .ref q105, .int 0, .int 0]))]) (w1 := []) hP hD [0, 3] [13] rfl rfl (by decide) (by decide) hk1 hFc hP1 hD1
    have hK := (hK.sub (tys' := []) [] rfl).app hK1
    generalize H1 = H at hP hS ⊢
    have hP : va_P (dC, dI) vwCl [(q86, .inr (15, [.ref q87, .ref q88, .ref q89, .ref q90, .ref q91, .ref q92, .int 0, .int 1, .ref q93, .int 0, .ref q94, .null, .ref q95, .null, .ref q96, .ref q97, .ref q98, .ref q99, .ref q100, .int 0, .ref q101, .ref q102, .ref q103, .ref q104, .ref q105, .int 0, .int 0]))] H := hP
    have hD : va_D (fun q : Nat => s.heap.size ≤ q) [(q86, .inr (15, [.ref q87, .ref q88, .ref q89, .ref q90, .ref q91, .ref q92, .int 0, .int 1, .ref q93, .int 0, .ref q94, .null, .ref q95, .null, .ref q96, .ref q97, .ref q98, .ref q99, .ref q100, .int 0, .ref q101, .ref q102, .ref q103, .ref q104, .ref q105, .int 0, .int 0]))] := hD
    have hK : va_K (dC, dI) vwCl [] s := hK
    refine W.widen (k := 131) (n := 6692) (Nat.le_of_ble_eq_true rfl) (Nat.le_of_ble_eq_true rfl) ?_
    refine lv_aload_n hx hb dL_law_560 rfl (lv_at hl 2 rfl) ?_
    refine lv_aload_n hx hb dL_law_561 rfl (lv_at hl 4 rfl) ?_
    refine lv_iload hx hb dL_law_562 (lv_at hl 0 rfl) ?_
    refine lv_iconst (v := 1) hx hb dL_law_564 (by decide +kernel) ?_
    refine lv_iadd hx hb dL_law_565 ?_
    refine zt_i (v := 1) (by decide +kernel) ?_
    refine va_sld hx hb hX hbl hbA hS (i := 1) (zin (by decide +kernel)) dL_law_566 ?_
    refine zt_v (w := .int (xs 1)) rfl ?_
    have hPc := hP.sub (ws' := [(q86, .inr (15, [.ref q87, .ref q88, .ref q89, .ref q90, .ref q91, .ref q92, .int 0, .int 1, .ref q93, .int 0, .ref q94, .null, .ref q95, .null, .ref q96, .ref q97, .ref q98, .ref q99, .ref q100, .int 0, .ref q101, .ref q102, .ref q103, .ref q104, .ref q105, .int 0, .int 0]))]) [0] rfl
    have hDc := hD.sub (ws' := [(q86, .inr (15, [.ref q87, .ref q88, .ref q89, .ref q90, .ref q91, .ref q92, .int 0, .int 1, .ref q93, .int 0, .ref q94, .null, .ref q95, .null, .ref q96, .ref q97, .ref q98, .ref q99, .ref q100, .int 0, .ref q101, .ref q102, .ref q103, .ref q104, .ref q105, .int 0, .int 0]))]) [0] (by decide) rfl
    have hKc := hK.sub (tys' := []) [] rfl
    have hFc := va_free (wc := [(q86, .inr (15, [.ref q87, .ref q88, .ref q89, .ref q90, .ref q91, .ref q92, .int 0, .int 1, .ref q93, .int 0, .ref q94, .null, .ref q95, .null, .ref q96, .ref q97, .ref q98, .ref q99, .ref q100, .int 0, .ref q101, .ref q102, .ref q103, .ref q104, .ref q105, .int 0, .int 0]))]) hD hS hA [0] rfl
    refine va_calli (va_runV (As := [.int (xs 1)]) (rest := [.int 0]) ⟨hx, hb, hml, hown, hts⟩ (c_X13_isThere l dC dI q86 q87 q88 q89 q90 q91 q92 q93 q94 q95 q96 q97 q98 q99 q100 q101 q102 q103 q104 q105 H.size (xs 1) hc0) (cwV 1 hts gL_law_X13_isThere rfl rfl rfl (by decide +kernel) ⟨Nat.le_of_ble_eq_true rfl, Nat.le_of_ble_eq_true rfl⟩) ⟨zB_blind, va_recv hK hP (ci := 15) (q0 := 0) rfl rfl, (zPre hPc hDc hKc hS hFc hZ hN)⟩ rfl rfl hl.1 rfl (lv_room (Nat.le_of_ble_eq_true rfl)) dL_law_567 ⟨Nat.le_of_ble_eq_true rfl, Nat.le_of_ble_eq_true rfl⟩) hS (fun q _ h => hFc q h) hFc (fun r u t H1 locs ht hvm hw hB hz1 hk1 hS => ?_)
    subst hw
    obtain ⟨hP1, hK1, hD1⟩ := hB
    rw [ht] at hP1
    have hK1 := va_K.moved hvm.symm hK1
    obtain ⟨hP, hD⟩ := va_join (wr := []) (w1 := []) hP hD [0] [] rfl rfl (by decide) (by decide) hk1 hFc hP1 hD1
    have hK := (hK.sub (tys' := []) [] rfl).app hK1
    generalize H1 = H at hP hS ⊢
    have hP : va_P (dC, dI) vwCl [] H := hP
    have hD : va_D (fun q : Nat => s.heap.size ≤ q) [] := hD
    have hK : va_K (dC, dI) vwCl [] s := hK
    refine W.widen (k := 131) (n := 6692) (Nat.le_of_ble_eq_true rfl) (Nat.le_of_ble_eq_true rfl) ?_
    refine lv_icmp_eq (tgt := 2311) hx hb dL_law_570 (by decide) (fun _ => ?_) (fun h9 => absurd (show (0 : Int32) = (0 : Int32) by decide +kernel) h9)
    exact law_exit C0 hS (Nat.le_of_ble_eq_true rfl) (Nat.le_of_ble_eq_true rfl) ls (lv_sub hl [0, 1, 2, 3, 4] rfl)
  · skip
    have hc0 : ¬ (xs 1) < (0 : Int32) := hb0
    have hc1 : (0 : Int32) ≤ (xs 1) := zd_4 hb0
    have hc2 : ((-1) : Int32) < (xs 1) := zd_3 hb0
    refine lv_aload_n hx hb dL_law_550 rfl (lv_at hl 3 rfl) ?_
    refine lv_aload_n hx hb dL_law_551 rfl (lv_at hl 4 rfl) ?_
    refine lv_iload hx hb dL_law_552 (lv_at hl 0 rfl) ?_
    refine lv_iconst (v := 1) hx hb dL_law_554 (by decide +kernel) ?_
    refine lv_iadd hx hb dL_law_555 ?_
    refine zt_i (v := 1) (by decide +kernel) ?_
    refine va_sld hx hb hX hbl hbA hS (i := 1) (zin (by decide +kernel)) dL_law_556 ?_
    refine zt_v (w := .int (xs 1)) rfl ?_
    have hPc := hP.sub (ws' := [(q0, .inr (13, [.ref q1, .ref q3, .ref q5, .ref q7, .ref q9, .ref q11, .ref q13, .ref q15, .int 0, .ref q17, .ref q21, .ref q25, .ref q26, .ref q27])), (q3, .inr (11, [.ref q4, .int 0, .int 1]))]) [0, 3] rfl
    have hDc := hD.sub (ws' := [(q0, .inr (13, [.ref q1, .ref q3, .ref q5, .ref q7, .ref q9, .ref q11, .ref q13, .ref q15, .int 0, .ref q17, .ref q21, .ref q25, .ref q26, .ref q27])), (q3, .inr (11, [.ref q4, .int 0, .int 1]))]) [0, 3] (by decide) rfl
    have hKc := hK.sub (tys' := []) [] rfl
    have hFc := va_free (wc := [(q0, .inr (13, [.ref q1, .ref q3, .ref q5, .ref q7, .ref q9, .ref q11, .ref q13, .ref q15, .int 0, .ref q17, .ref q21, .ref q25, .ref q26, .ref q27])), (q3, .inr (11, [.ref q4, .int 0, .int 1]))]) hD hS hA [0, 3] rfl
    refine va_calli (va_runV (As := [.int (xs 1)]) (rest := []) ⟨hx, hb, hml, hown, hts⟩ (c_X11_isThere_2 l dC dI q0 q1 q3 q5 q7 q9 q11 q13 q15 q17 q21 q25 q26 q27 q4 H.size (xs 1) hc0 hc1) (cwV 1 hts gL_law_X11_isThere rfl rfl rfl (by decide +kernel) ⟨Nat.le_of_ble_eq_true rfl, Nat.le_of_ble_eq_true rfl⟩) ⟨zB_blind, va_recv hK hP (ci := 13) (q0 := 0) rfl rfl, (zPre hPc hDc hKc hS hFc hZ hN)⟩ rfl rfl hl.1 rfl (lv_room (Nat.le_of_ble_eq_true rfl)) dL_law_557 ⟨Nat.le_of_ble_eq_true rfl, Nat.le_of_ble_eq_true rfl⟩) hS (fun q _ h => hFc q h) hFc (fun r u t H1 locs ht hvm hw hB hz1 hk1 hS => ?_)
    subst hw
    obtain ⟨hP1, hK1, hD1⟩ := hB
    rw [ht] at hP1
    have hK1 := va_K.moved hvm.symm hK1
    obtain ⟨hP, hD⟩ := va_join (wr := [(q86, .inr (15, [.ref q87, .ref q88, .ref q89, .ref q90, .ref q91, .ref q92, .int 0, .int 1, .ref q93, .int 0, .ref q94, .null, .ref q95, .null, .ref q96, .ref q97, .ref q98, .ref q99, .ref q100, .int 0, .ref q101, .ref q102, .ref q103, .ref q104, .ref q105, .int 0, .int 0]))]) (w1 := []) hP hD [0, 3] [13] rfl rfl (by decide) (by decide) hk1 hFc hP1 hD1
    have hK := (hK.sub (tys' := []) [] rfl).app hK1
    generalize H1 = H at hP hS ⊢
    have hP : va_P (dC, dI) vwCl [(q86, .inr (15, [.ref q87, .ref q88, .ref q89, .ref q90, .ref q91, .ref q92, .int 0, .int 1, .ref q93, .int 0, .ref q94, .null, .ref q95, .null, .ref q96, .ref q97, .ref q98, .ref q99, .ref q100, .int 0, .ref q101, .ref q102, .ref q103, .ref q104, .ref q105, .int 0, .int 0]))] H := hP
    have hD : va_D (fun q : Nat => s.heap.size ≤ q) [(q86, .inr (15, [.ref q87, .ref q88, .ref q89, .ref q90, .ref q91, .ref q92, .int 0, .int 1, .ref q93, .int 0, .ref q94, .null, .ref q95, .null, .ref q96, .ref q97, .ref q98, .ref q99, .ref q100, .int 0, .ref q101, .ref q102, .ref q103, .ref q104, .ref q105, .int 0, .int 0]))] := hD
    have hK : va_K (dC, dI) vwCl [] s := hK
    refine W.widen (k := 131) (n := 6692) (Nat.le_of_ble_eq_true rfl) (Nat.le_of_ble_eq_true rfl) ?_
    refine lv_aload_n hx hb dL_law_560 rfl (lv_at hl 2 rfl) ?_
    refine lv_aload_n hx hb dL_law_561 rfl (lv_at hl 4 rfl) ?_
    refine lv_iload hx hb dL_law_562 (lv_at hl 0 rfl) ?_
    refine lv_iconst (v := 1) hx hb dL_law_564 (by decide +kernel) ?_
    refine lv_iadd hx hb dL_law_565 ?_
    refine zt_i (v := 1) (by decide +kernel) ?_
    refine va_sld hx hb hX hbl hbA hS (i := 1) (zin (by decide +kernel)) dL_law_566 ?_
    refine zt_v (w := .int (xs 1)) rfl ?_
    have hPc := hP.sub (ws' := [(q86, .inr (15, [.ref q87, .ref q88, .ref q89, .ref q90, .ref q91, .ref q92, .int 0, .int 1, .ref q93, .int 0, .ref q94, .null, .ref q95, .null, .ref q96, .ref q97, .ref q98, .ref q99, .ref q100, .int 0, .ref q101, .ref q102, .ref q103, .ref q104, .ref q105, .int 0, .int 0]))]) [0] rfl
    have hDc := hD.sub (ws' := [(q86, .inr (15, [.ref q87, .ref q88, .ref q89, .ref q90, .ref q91, .ref q92, .int 0, .int 1, .ref q93, .int 0, .ref q94, .null, .ref q95, .null, .ref q96, .ref q97, .ref q98, .ref q99, .ref q100, .int 0, .ref q101, .ref q102, .ref q103, .ref q104, .ref q105, .int 0, .int 0]))]) [0] (by decide) rfl
    have hKc := hK.sub (tys' := []) [] rfl
    have hFc := va_free (wc := [(q86, .inr (15, [.ref q87, .ref q88, .ref q89, .ref q90, .ref q91, .ref q92, .int 0, .int 1, .ref q93, .int 0, .ref q94, .null, .ref q95, .null, .ref q96, .ref q97, .ref q98, .ref q99, .ref q100, .int 0, .ref q101, .ref q102, .ref q103, .ref q104, .ref q105, .int 0, .int 0]))]) hD hS hA [0] rfl
    refine va_calli (va_runV (As := [.int (xs 1)]) (rest := [.int 0]) ⟨hx, hb, hml, hown, hts⟩ (c_X13_isThere_2 l dC dI q86 q87 q88 q89 q90 q91 q92 q93 q94 q95 q96 q97 q98 q99 q100 q101 q102 q103 q104 q105 H.size (xs 1) hc0 hc2) (cwV 1 hts gL_law_X13_isThere rfl rfl rfl (by decide +kernel) ⟨Nat.le_of_ble_eq_true rfl, Nat.le_of_ble_eq_true rfl⟩) ⟨zB_blind, va_recv hK hP (ci := 15) (q0 := 0) rfl rfl, (zPre hPc hDc hKc hS hFc hZ hN)⟩ rfl rfl hl.1 rfl (lv_room (Nat.le_of_ble_eq_true rfl)) dL_law_567 ⟨Nat.le_of_ble_eq_true rfl, Nat.le_of_ble_eq_true rfl⟩) hS (fun q _ h => hFc q h) hFc (fun r u t H1 locs ht hvm hw hB hz1 hk1 hS => ?_)
    subst hw
    obtain ⟨hP1, hK1, hD1⟩ := hB
    rw [ht] at hP1
    have hK1 := va_K.moved hvm.symm hK1
    obtain ⟨hP, hD⟩ := va_join (wr := []) (w1 := []) hP hD [0] [] rfl rfl (by decide) (by decide) hk1 hFc hP1 hD1
    have hK := (hK.sub (tys' := []) [] rfl).app hK1
    generalize H1 = H at hP hS ⊢
    have hP : va_P (dC, dI) vwCl [] H := hP
    have hD : va_D (fun q : Nat => s.heap.size ≤ q) [] := hD
    have hK : va_K (dC, dI) vwCl [] s := hK
    refine W.widen (k := 131) (n := 6692) (Nat.le_of_ble_eq_true rfl) (Nat.le_of_ble_eq_true rfl) ?_
    refine lv_icmp_eq (tgt := 2311) hx hb dL_law_570 (by decide) (fun _ => ?_) (fun h9 => absurd (show (0 : Int32) = (0 : Int32) by decide +kernel) h9)
    exact law_exit C0 hS (Nat.le_of_ble_eq_true rfl) (Nat.le_of_ble_eq_true rfl) ls (lv_sub hl [0, 1, 2, 3, 4] rfl)
