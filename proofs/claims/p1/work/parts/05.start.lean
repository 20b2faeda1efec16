/-! THE CLAIM OUT OF ONE WALK OF THE LAW'S BODY. Your part is whole_start (and what it stands on); all else here is the same for every law, but numbers. -/
def R_law : String := "SeekwellLaw"
def lw_P (b : Addr) (xs : List Int32) (args : Array Value) (s : State) : Prop := args = #[.ref b] ∧ s.IntsAt b xs ∧ xs.length ≤ 4 ∧ (Jvm.Cond.and given_1 narrow_1).before args s = true
def lw_Q (_ : Array Value) (s : State) (o : Outcome) (t : State) : Prop := o = .returned (some (.int 1)) ∧ Framed s o t [] 600006 7302079
def lw_Z (below : List Frame) (a : Array Value) (s : State) : State → Prop := fun t => ∃ o, t.status = .running ∧ Ended t below o ∧ lw_Q a s o t
/-- the law's own end, with 1 on the stack, nothing written that was there before, its room as the claim has it -/
theorem lw_ret {p : Program} {l : Launch} {e : Env} {s : State} {m : MethodId} {below : List Frame} {meth : Method} {c : Code} {b : Nat} (hx : p.tables.exec = Jvm.exec) (hb : c.code = code) (hr : meth.sig.returnType = ret) (hlocks : meth.locks = false) {pc : Nat} {H : Heap} {ls : Array Slot} (hdg : decode code pc = .ok (.ireturn, 1)) : W p l e room_1 s m #[Value.ref b] below meth c H [] 600006 7302079 (lw_Z below #[Value.ref b] s) (F0 m pc ls [.int 1]) := by
  intro T hT X
  obtain ⟨fs, hret, hrun, hended, hW, hframe⟩ := X.leave (v := some (.int 1)) (hlocks := hlocks) (fun h => by rw [hr] at h; cases h)
  have hmeth' : T.vm.method? m = some meth := X.method'
  refine ⟨T.setFrames fs, ?_, .returned (some (.int 1)), hrun, hended, rfl, ⟨_, rfl⟩, hW, hframe⟩
  jvm_step X.here [X.here.top, hx, hb, hdg, hmeth', hr, ret, narrow_b1]
  (try refine ⟨rfl, ?_⟩); (try refine ⟨rfl, ?_⟩)
  first | (intro acts; rw [hret _ acts rfl rfl rfl]) | rw [hret _ _ rfl rfl rfl]
  exact Steps.refl _
/-- what holds at the law's entry: the machine, the code, the tables' words (any of lw_tbl by 'hts w (by decide +kernel)'), the script of L ints xs at the cell b, what the Statement gives of the start (any of its parts by flat_of_before) -/
def lw_At (p : Program) (s : State) (m : MethodId) (meth : Method) (c : Code) (b L : Nat) (xs : Nat → Int32) : Prop :=
  p.tables.exec = Jvm.exec ∧ c.code = code ∧ meth.sig.returnType = ret ∧ c.maxLocals = 7 ∧ s.vm.findClass R_law = some m.cls ∧ (∀ w ∈ lw_tbl, w.before #[Value.ref b] s = true) ∧ va_X b L xs s s.heap ∧ b < s.heap.size ∧ meth.locks = false ∧ (Jvm.Cond.and given_1 narrow_1).before #[Value.ref b] s = true
theorem z63 (x : Int32) : ∃ k, k < 64 ∧ x &&& 63 = nI k := by
  refine ⟨(x &&& 63).toBitVec.toNat, ?_, ?_⟩
  · have h : (x &&& 63).toBitVec = x.toBitVec &&& 63#32 := rfl
    rw [h, BitVec.toNat_and]
    exact Nat.lt_of_le_of_lt Nat.and_le_right (by decide)
  · apply Int32.toBitVec_inj.mp
    show (x &&& 63).toBitVec = BitVec.ofNat 32 (x &&& 63).toBitVec.toNat
    simp
set_option maxHeartbeats 4000000 in
set_option maxRecDepth 100000 in
theorem z_known {b : Nat} {s : State} (hts0 : ∀ w ∈ lw_tbl, w.before #[Value.ref b] s = true) : ∃ (dC : Nat → ClassId) (dI : Nat → Nat → Nat), ∀ (k : Nat) (q : vw_C), vwCl[k]? = some q → u_Kn s q.1 q.2.1 q.2.2 (dC k) (dI k) := by
  obtain ⟨c0, i0, h0⟩ := u_known (C := RJ0) (T := TJ0) (N := 4) (n := 4) hts0 inJ0 (hts0 (.instantiable RJ0 4) (by decide +kernel))
  obtain ⟨c1, i1, h1⟩ := u_known (C := RJ4) (T := TJ4) (N := 4) (n := 4) hts0 inJ4 (hts0 (.instantiable RJ4 4) (by decide +kernel))
  obtain ⟨c2, i2, h2⟩ := u_known (C := RJx00060) (T := TJx00060) (N := 6) (n := 6) hts0 inJx00060 (hts0 (.instantiable RJx00060 6) (by decide +kernel))
  obtain ⟨c3, i3, h3⟩ := u_known (C := RX0) (T := TX0) (N := 5) (n := 5) hts0 inX0 (hts0 (.instantiable RX0 5) (by decide +kernel))
  obtain ⟨c4, i4, h4⟩ := u_known (C := RX1) (T := TX1) (N := 1) (n := 1) hts0 inX1 (hts0 (.instantiable RX1 1) (by decide +kernel))
  obtain ⟨c5, i5, h5⟩ := u_known (C := RX2) (T := TX2) (N := 3) (n := 3) hts0 inX2 (hts0 (.instantiable RX2 3) (by decide +kernel))
  obtain ⟨c6, i6, h6⟩ := u_known (C := RX3) (T := TX3) (N := 10) (n := 10) hts0 inX3 (hts0 (.instantiable RX3 10) (by decide +kernel))
  obtain ⟨c7, i7, h7⟩ := u_known (C := RX4) (T := TX4) (N := 2) (n := 2) hts0 inX4 (hts0 (.instantiable RX4 2) (by decide +kernel))
  obtain ⟨c8, i8, h8⟩ := u_known (C := RX5) (T := TX5) (N := 17) (n := 17) hts0 inX5 (hts0 (.instantiable RX5 17) (by decide +kernel))
  obtain ⟨c9, i9, h9⟩ := u_known (C := RX6) (T := TX6) (N := 3) (n := 3) hts0 inX6 (hts0 (.instantiable RX6 3) (by decide +kernel))
  obtain ⟨c10, i10, h10⟩ := u_known (C := RX7) (T := TX7) (N := 2) (n := 2) hts0 inX7 (hts0 (.instantiable RX7 2) (by decide +kernel))
  obtain ⟨c11, i11, h11⟩ := u_known (C := RX8) (T := TX8) (N := 3) (n := 3) hts0 inX8 (hts0 (.instantiable RX8 3) (by decide +kernel))
  obtain ⟨c12, i12, h12⟩ := u_known (C := RX9) (T := TX9) (N := 6) (n := 6) hts0 inX9 (hts0 (.instantiable RX9 6) (by decide +kernel))
  obtain ⟨c13, i13, h13⟩ := u_known (C := RX11) (T := TX11) (N := 14) (n := 14) hts0 inX11 (hts0 (.instantiable RX11 14) (by decide +kernel))
  obtain ⟨c14, i14, h14⟩ := u_known (C := RX12) (T := TX12) (N := 8) (n := 8) hts0 inX12 (hts0 (.instantiable RX12 8) (by decide +kernel))
  obtain ⟨c15, i15, h15⟩ := u_known (C := RX13) (T := TX13) (N := 27) (n := 27) hts0 inX13 (hts0 (.instantiable RX13 27) (by decide +kernel))
  refine ⟨fun k => ([c0, c1, c2, c3, c4, c5, c6, c7, c8, c9, c10, c11, c12, c13, c14, c15] : List ClassId).getD k c0, fun k => ([i0, i1, i2, i3, i4, i5, i6, i7, i8, i9, i10, i11, i12, i13, i14, i15] : List (Nat → Nat)).getD k i0, ?_⟩
  intro k q hq
  match k, hq with
  | 0, hq => cases hq; exact h0
  | 1, hq => cases hq; exact h1
  | 2, hq => cases hq; exact h2
  | 3, hq => cases hq; exact h3
  | 4, hq => cases hq; exact h4
  | 5, hq => cases hq; exact h5
  | 6, hq => cases hq; exact h6
  | 7, hq => cases hq; exact h7
  | 8, hq => cases hq; exact h8
  | 9, hq => cases hq; exact h9
  | 10, hq => cases hq; exact h10
  | 11, hq => cases hq; exact h11
  | 12, hq => cases hq; exact h12
  | 13, hq => cases hq; exact h13
  | 14, hq => cases hq; exact h14
  | 15, hq => cases hq; exact h15
  | k + 16, hq => simp [vwCl] at hq
set_option maxHeartbeats 16000000 in
set_option maxRecDepth 100000 in
theorem z_amb {b : Nat} {s : State} (hts0 : ∀ w ∈ lw_tbl, w.before #[Value.ref b] s = true) (hgv : (Jvm.Cond.and given_1 narrow_1).before #[Value.ref b] s = true) : zN s := by
  have hs := flat_of_before _ hgv
  refine ⟨?_, ?_, ?_, ?_, ?_, ?_, ?_, ?_, ?_⟩
  · intro q hq
    simp only [zNest, List.mem_cons, List.not_mem_nil, or_false] at hq
    rcases hq with rfl | rfl | rfl | rfl | rfl | rfl | rfl | rfl | rfl | rfl | rfl <;> exact va_Nw.of rfl (hts0 _ (by decide +kernel))
  · intro q hq
    simp only [zCast, List.mem_cons, List.not_mem_nil, or_false] at hq
    rcases hq with rfl | rfl | rfl | rfl | rfl | rfl <;> exact va_Nw.of rfl (hts0 _ (by decide +kernel))
  · intro q hq
    simp only [zOver, List.mem_cons, List.not_mem_nil, or_false] at hq
    rcases hq with rfl | rfl | rfl | rfl <;> exact va_AO.of (hts0 _ (by decide +kernel))
  · intro q hq
    simp only [zOverA, List.mem_cons, List.not_mem_nil, or_false] at hq
    rcases hq with rfl | rfl <;> exact va_AOA.of (hts0 _ (by decide +kernel))
  · intro q hq
    simp only [zStr, List.mem_cons, List.not_mem_nil, or_false] at hq
    rcases hq with rfl | rfl | rfl | rfl | rfl | rfl | rfl | rfl | rfl | rfl | rfl | rfl | rfl
    · obtain ⟨a, -, -, -, ha, -⟩ := Cond.exactly_spec (hs (.exactly (.string RX11 83) "java/lang/String") (by decide +kernel))
      exact ⟨a, vk_R.of (hts0 (.stringRef RX11 83 "no such sign can be typed") (by decide +kernel)) ha⟩
    · obtain ⟨a, -, -, -, ha, -⟩ := Cond.exactly_spec (hs (.exactly (.string RX11 106) "java/lang/String") (by decide +kernel))
      exact ⟨a, vk_R.of (hts0 (.stringRef RX11 106 "the text has no such place") (by decide +kernel)) ha⟩
    · obtain ⟨a, -, -, -, ha, -⟩ := Cond.exactly_spec (hs (.exactly (.string RX11 117) "java/lang/String") (by decide +kernel))
      exact ⟨a, vk_R.of (hts0 (.stringRef RX11 117 "no such value or tag") (by decide +kernel)) ha⟩
    · obtain ⟨a, -, -, -, ha, -⟩ := Cond.exactly_spec (hs (.exactly (.string RX11 173) "java/lang/String") (by decide +kernel))
      exact ⟨a, vk_R.of (hts0 (.stringRef RX11 173 "there is no such word") (by decide +kernel)) ha⟩
    · obtain ⟨a, -, -, -, ha, -⟩ := Cond.exactly_spec (hs (.exactly (.string RX11 211) "java/lang/String") (by decide +kernel))
      exact ⟨a, vk_R.of (hts0 (.stringRef RX11 211 "the newest part has no texts") (by decide +kernel)) ha⟩
    · obtain ⟨a, -, -, -, ha, -⟩ := Cond.exactly_spec (hs (.exactly (.string RX11 219) "java/lang/String") (by decide +kernel))
      exact ⟨a, vk_R.of (hts0 (.stringRef RX11 219 "there is no such part, or none behind it") (by decide +kernel)) ha⟩
    · obtain ⟨a, -, -, -, ha, -⟩ := Cond.exactly_spec (hs (.exactly (.string RX11 229) "java/lang/String") (by decide +kernel))
      exact ⟨a, vk_R.of (hts0 (.stringRef RX11 229 "the packed row has no such byte") (by decide +kernel)) ha⟩
    · obtain ⟨a, -, -, -, ha, -⟩ := Cond.exactly_spec (hs (.exactly (.string RX11 300) "java/lang/String") (by decide +kernel))
      exact ⟨a, vk_R.of (hts0 (.stringRef RX11 300 "no such byte was written") (by decide +kernel)) ha⟩
    · obtain ⟨a, -, -, -, ha, -⟩ := Cond.exactly_spec (hs (.exactly (.string RX11 302) "java/lang/String") (by decide +kernel))
      exact ⟨a, vk_R.of (hts0 (.stringRef RX11 302 "nothing was written") (by decide +kernel)) ha⟩
    · obtain ⟨a, -, -, -, ha, -⟩ := Cond.exactly_spec (hs (.exactly (.string RX11 329) "java/lang/String") (by decide +kernel))
      exact ⟨a, vk_R.of (hts0 (.stringRef RX11 329 "there is no such text") (by decide +kernel)) ha⟩
    · obtain ⟨a, -, -, -, ha, -⟩ := Cond.exactly_spec (hs (.exactly (.string RX11 331) "java/lang/String") (by decide +kernel))
      exact ⟨a, vk_R.of (hts0 (.stringRef RX11 331 "there is no such part") (by decide +kernel)) ha⟩
    · obtain ⟨a, -, -, -, ha, -⟩ := Cond.exactly_spec (hs (.exactly (.string RX11 333) "java/lang/String") (by decide +kernel))
      exact ⟨a, vk_R.of (hts0 (.stringRef RX11 333 "nothing was asked") (by decide +kernel)) ha⟩
    · obtain ⟨a, -, -, -, ha, -⟩ := Cond.exactly_spec (hs (.exactly (.string RX11 344) "java/lang/String") (by decide +kernel))
      exact ⟨a, vk_R.of (hts0 (.stringRef RX11 344 "the text is not one word") (by decide +kernel)) ha⟩
  · obtain ⟨comp, -, -, hcomp, -⟩ := Jvm.Stand.arrayOver_specB (hts0 (.arrayOver (.array .int)) (by decide +kernel))
    exact ⟨comp, hcomp⟩
  · intro q hq
    simp only [zNcast, List.mem_cons, List.not_mem_nil, or_false] at hq
    rcases hq with rfl
    exact va_Nc.of (hs _ (by decide +kernel))
  · intro q hq
    simp only [zDecl, List.mem_cons, List.not_mem_nil, or_false] at hq
    rcases hq with rfl | rfl | rfl <;> exact va_Nw.of rfl (hts0 _ (by decide +kernel))
  · intro q hq
    simp only [zLink, List.mem_cons, List.not_mem_nil, or_false] at hq
    rcases hq with rfl
    exact va_Nw.of rfl (hts0 _ (by decide +kernel))

theorem z_statics {b : Nat} {s : State} (hts0 : ∀ w ∈ lw_tbl, w.before #[Value.ref b] s = true) (hgv : (Jvm.Cond.and given_1 narrow_1).before #[Value.ref b] s = true) : zZ (fun q : Nat => s.heap.size ≤ q) s s.heap := by
  have hs := flat_of_before _ hgv
  exact ⟨vx_Zqof (hts0 _ (by decide +kernel)) (hts0 _ (by decide +kernel)) (hs _ (by decide +kernel)) (fun a h => Nat.not_le.mpr h), vx_Zqof (hts0 _ (by decide +kernel)) (hts0 _ (by decide +kernel)) (hs _ (by decide +kernel)) (fun a h => Nat.not_le.mpr h)⟩
set_option maxHeartbeats 4000000 in
set_option maxRecDepth 100000 in
/-- behind a call: the loop's end, and the law's -/
theorem law_exit {p : Program} {l : Launch} {e : Env} {s : State} {m : MethodId} {below : List Frame} {meth : Method} {c : Code} {b : Nat} {xs : Nat → Int32} (C0 : lw_At p s m meth c b 4 xs) {H : Heap} {locs : List Loc} (hS : va_S (fun q : Nat => s.heap.size ≤ q) s.heap H locs) {cells slots : Nat} (hc : cells ≤ 600006) (hs : slots ≤ 7302079) (ls : Array Slot) {r1 r2 r3 : Nat} (hl : lv_has ls 7 [(4, .int 0), (3, .ref r3), (2, .ref r2), (1, .ref r1), (0, .ref b)]) : W p l e room_1 s m #[Value.ref b] below meth c H locs cells slots (lw_Z below #[Value.ref b] s) (F0 m 2311 ls []) := by
  obtain ⟨hx, hb, hr, hml, hown, hts, hX, hbl, hlocks, hgv⟩ := id C0
  have hbA : ¬ (fun q : Nat => s.heap.size ≤ q) b := Nat.not_le.mpr hbl
  refine lv_iinc (v := 4) (lv' := [(4, .int 4), (3, .ref r3), (2, .ref r2), (1, .ref r1), (0, .ref b)]) hx hb dL_law_2311 hl (k := 0) rfl (by decide +kernel) (by decide) rfl (fun ls hl => ?_)
  refine lv_goto (tgt := 23) hx hb dL_law_2314 (by decide) ?_
  refine lv_iload hx hb dL_law_23 (lv_at hl 0 rfl) ?_
  refine lv_aload_n hx hb dL_law_25 rfl (lv_at hl 4 rfl) ?_
  refine va_slen hx hb hX hbl hbA hS dL_law_26 ?_
  refine lv_iconst (v := 4) hx hb dL_law_27 (by decide +kernel) ?_
  refine lv_isub hx hb dL_law_28 ?_
  refine lv_icmp_gt (tgt := 2317) hx hb dL_law_29 (by decide) (fun _ => ?_) (fun h9 => absurd (show Int32.ofNat 4 - 4 < (4 : Int32) by decide +kernel) h9)
  refine lv_iconst (v := 1) hx hb dL_law_2317 (by decide +kernel) ?_
  refine va_forget (fun q hq => hS.2.2 q hq) ?_
  refine W.widen (k := 600006) (n := 7302079) hc hs ?_
  exact lw_ret hx hb hr hlocks dL_law_2318
theorem zd_1 {x : Int32} (h0 : ¬ x < (32 : Int32)) (h1 : x ≤ (126 : Int32)) : ¬ (126 : Int32) < x := by
  have e0 : (32 : Int32).toInt = 32 := by decide +kernel
  have e1 : (126 : Int32).toInt = 126 := by decide +kernel
  simp only [← Int32.toInt_inj, Int32.lt_iff_toInt_lt, Int32.le_iff_toInt_le, e0, e1] at h0 h1 ⊢
  omega
theorem zd_2 {x : Int32} (h0 : ¬ x < (32 : Int32)) (h1 : ¬ x ≤ (126 : Int32)) : (126 : Int32) < x := by
  have e0 : (32 : Int32).toInt = 32 := by decide +kernel
  have e1 : (126 : Int32).toInt = 126 := by decide +kernel
  simp only [← Int32.toInt_inj, Int32.lt_iff_toInt_lt, Int32.le_iff_toInt_le, e0, e1] at h0 h1 ⊢
  omega
theorem zd_3 {x : Int32} (h0 : ¬ x < (0 : Int32)) : ((-1) : Int32) < x := by
  have e0 : ((-1) : Int32).toInt = (-1) := by decide +kernel
  have e1 : (0 : Int32).toInt = 0 := by decide +kernel
  simp only [← Int32.toInt_inj, Int32.lt_iff_toInt_lt, Int32.le_iff_toInt_le, e0, e1] at h0 ⊢
  omega
theorem zd_4 {x : Int32} (h0 : ¬ x < (0 : Int32)) : (0 : Int32) ≤ x := by
  have e0 : (0 : Int32).toInt = 0 := by decide +kernel
  simp only [← Int32.toInt_inj, Int32.lt_iff_toInt_lt, Int32.le_iff_toInt_le, e0] at h0 ⊢
  omega
theorem zd_5 {x : Int32} (h0 : ¬ x < (0 : Int32)) (h1 : x < (1 : Int32)) : ¬ (0 : Int32) < x := by
  have e0 : (0 : Int32).toInt = 0 := by decide +kernel
  have e1 : (1 : Int32).toInt = 1 := by decide +kernel
  simp only [← Int32.toInt_inj, Int32.lt_iff_toInt_lt, Int32.le_iff_toInt_le, e0, e1] at h0 h1 ⊢
  omega
theorem zd_6 {x : Int32} (h0 : ¬ x < (0 : Int32)) (h1 : ¬ x < (1 : Int32)) : (0 : Int32) < x := by
  have e0 : (0 : Int32).toInt = 0 := by decide +kernel
  have e1 : (1 : Int32).toInt = 1 := by decide +kernel
  simp only [← Int32.toInt_inj, Int32.lt_iff_toInt_lt, Int32.le_iff_toInt_le, e0, e1] at h0 h1 ⊢
  omega
