/-! helpers of this proof: the ambient facts that every contract carries, and what a call needs -/
def zc (x : Int32) : Int32 := (x.toUInt32 % 65536).toInt32
theorem zin {i : Int32} {n : Nat} (h : (decide (i < 0) || decide (n ≤ i.toNatClampNeg)) = false) : vp_in i n := by
  intro hq
  simp only [Bool.or_eq_false_iff, decide_eq_false_iff_not] at h
  exact hq.elim h.1 h.2
theorem zfs {N : Nat} {f : Nat → Value} {g : Nat → Value} (h : ∀ j, j < N → f j = g j) : ∀ j, j < N → f j = g j := h
section ZT
variable {p : Program} {l : Launch} {e : Env} {R : Room} {s : State} {m : MethodId} {args : Array Value} {below : List Frame} {meth : Method} {c : Code} {H : Heap} {locs : List Loc} {cells slots : Nat} {Q : State → Prop} {pc : Nat} {ls : Array Slot} {rest : List Value}
theorem zt_v {v w : Value} (h : v = w) (kk : W p l e R s m args below meth c H locs cells slots Q (F0 m pc ls (w :: rest))) : W p l e R s m args below meth c H locs cells slots Q (F0 m pc ls (v :: rest)) := by
  rw [h]; exact kk
theorem zt_i {x v : Int32} (h : x = v) (kk : W p l e R s m args below meth c H locs cells slots Q (F0 m pc ls (.int v :: rest))) : W p l e R s m args below meth c H locs cells slots Q (F0 m pc ls (.int x :: rest)) := by
  rw [h]; exact kk
theorem zt_l {x v : Int64} (h : x = v) (kk : W p l e R s m args below meth c H locs cells slots Q (F0 m pc ls (.long v :: rest))) : W p l e R s m args below meth c H locs cells slots Q (F0 m pc ls (.long x :: rest)) := by
  rw [h]; exact kk
end ZT
theorem zP_nil {D : va_G} {cl : List vw_C} {H : Heap} : va_P D cl [] H := fun k q h => by simp at h
theorem zD_nil {A : Nat → Prop} : va_D A [] := ⟨fun i j p q h => by simp at h, fun k q h => by simp at h⟩
def zNest : List (String × Nat × MethodName × String) := [(RX11, 9, yX4_init, "Seekwell"), (RX11, 18, yX8_init, "Seekwell"), (RX11, 28, yX7_init, "Seekwell"), (RX11, 35, yX2_init, "Seekwell"), (RX11, 55, yX6_init, "Seekwell"), (RX11, 69, yX0_init, "Seekwell"), (RX3, 31, yX1_init, "Seekwell"), (RX5, 31, yX7_init, "Seekwell"), (RX6, 9, yX5_init, "Seekwell"), (RX8, 28, yX9_init, "Seekwell"), (RX9, 9, yX7_init, "Seekwell")]
def zCast : List String := ["java/lang/ArithmeticException", "java/lang/IllegalArgumentException", "java/lang/IllegalStateException", "java/lang/IndexOutOfBoundsException", "java/lang/UnsupportedOperationException", "java/util/NoSuchElementException"]
def zOver : List String := ["Seekwell$Big", "Seekwell$Question", "Seekwell$Text", "SeekwellModel$Node"]
def zOverA : List FieldType := [.int, .long]
def zStr : List (String × Nat × String) := [
  (RX11, 83, "no such sign can be typed"),
  (RX11, 106, "the text has no such place"),
  (RX11, 117, "no such value or tag"),
  (RX11, 173, "there is no such word"),
  (RX11, 211, "the newest part has no texts"),
  (RX11, 219, "there is no such part, or none behind it"),
  (RX11, 229, "the packed row has no such byte"),
  (RX11, 300, "no such byte was written"),
  (RX11, 302, "nothing was written"),
  (RX11, 329, "there is no such text"),
  (RX11, 331, "there is no such part"),
  (RX11, 333, "nothing was asked"),
  (RX11, 344, "the text is not one word")]
def zNcast : List (String × String) := [("java/lang/IllegalArgumentException", "java/lang/IndexOutOfBoundsException")]
/-- what the tables alone say, of the words that a callee's list doesn't carry over a call -/
def zN (U : State) : Prop :=
  (∀ q ∈ zNest, va_Nw (.methodLinkNest q.1 q.2.1 q.2.2.1 q.2.2.2) U) ∧ (∀ C ∈ zCast, va_Nw (.castable C C) U) ∧ (∀ C ∈ zOver, va_AO C U) ∧ (∀ t ∈ zOverA, va_AOA t U) ∧
  (∀ q ∈ zStr, ∃ a : Nat, vk_R q.1 q.2.1 q.2.2 a U) ∧ (∃ cy : ClassId, U.vm.findClass (FieldType.array .int).toString = some cy) ∧ ∀ q ∈ zNcast, va_Nc q.1 q.2 U
theorem va_AOA.moved {t : FieldType} {u U : State} (hvm : u.vm.Alike U.vm) (h : va_AOA t u) : va_AOA t U :=
  Jvm.Stand.arrayOver_alikeB (s := u) (U := U) hvm h
theorem zN_warm {s U : State} (hW : s.WarmedH U.vm) (h : zN s) : zN U := by
  obtain ⟨h1, h2, h3, h4, h5, ⟨cy, h6⟩, h7⟩ := h
  refine ⟨fun q hq => (h1 q hq).warmM hW, fun C hC => (h2 C hC).warmC hW, fun C hC => (h3 C hC).moved hW.alike, fun t ht => (h4 t ht).moved hW.alike, fun q hq => ?_, ⟨cy, by rw [hW.alike.findClass]; exact h6⟩, fun q hq => (h7 q hq).moved hW.alike⟩
  obtain ⟨a, ha⟩ := h5 q hq
  exact ⟨a, ha.warm hW⟩
/-- the two statics of Throwable that a throw reads -/
def zZ (A : Nat → Prop) (U : State) (H : Heap) : Prop := vx_Zq Bundle.tN "UNASSIGNED_STACK" Bundle.steD A U H ∧ vx_Zq Bundle.tN "SUPPRESSED_SENTINEL" Bundle.listD A U H
theorem zZ_moved {A : Nat → Prop} {u U : State} {H : Heap} (hvm : u.vm.Alike U.vm) (h : zZ A u H) : zZ A U H := ⟨vx_Zq.moved hvm h.1, vx_Zq.moved hvm h.2⟩
theorem zZ_call {A B : Nat → Prop} {s U : State} {H : Heap} {locs : List Loc} (hZ : zZ A s s.heap) (hS : va_S A s.heap H locs) (hF : ∀ q, B q → A q) (hW : s.vm.Alike U.vm) : zZ B U H :=
  zZ_moved hW ⟨(hZ.1.kept hS.2.1).narrow hF, (hZ.2.kept hS.2.1).narrow hF⟩
/-- a contract's start: the cells, and the ambient facts -/
def zB (D : va_G) (tys : List (ClassId × FieldType)) (ws : va_W) (sz : Nat) : State → Prop := fun U =>
  U.heap.size = sz ∧ va_P D vwCl ws U.heap ∧ va_K D vwCl tys U ∧ va_D (fun _ => True) ws ∧ zZ (va_A ws sz) U U.heap ∧ zN U
/-- .. and its end: the cells that are wanted later -/
def zE (D : va_G) (tys : List (ClassId × FieldType)) (ws : va_W) (A : Nat → Prop) (t : State) : Prop := va_P D vwCl ws t.heap ∧ va_K D vwCl tys t ∧ va_D A ws
theorem zB_blind {av : List Value} {D : va_G} {tys : List (ClassId × FieldType)} {ws : va_W} {sz : Nat} : FrameBlind (va_Pc av (zB D tys ws sz)) := fun a U g mk q => by
  obtain ⟨q0, q1, qP, qK, qD, qZ, qN⟩ := q
  exact ⟨q0, q1, qP, va_K.moved (u := U) (U := U.calling g mk a) (Vm.Alike.refl U.vm) qK, qD, zZ_moved (u := U) (U := U.calling g mk a) (Vm.Alike.refl U.vm) qZ, zN_warm (s := U) (U := U.calling g mk a) (State.WarmedH.refl U) qN⟩
theorem zPre {s : State} {H : Heap} {A : Nat → Prop} {wc : va_W} {tysC : List (ClassId × FieldType)} {D : va_G} {av : List Value} {locs : List Loc}
    (hPc : va_P D vwCl wc H) (hDc : va_D A wc) (hKc : va_K D vwCl tysC s) (hS : va_S A s.heap H locs) (hF : ∀ q, va_A wc H.size q → A q) (hZ : zZ A s s.heap) (hN : zN s) :
    ∀ U : State, U.heap = H → s.WarmedH U.vm → va_Pc av (zB D tysC wc H.size) av.toArray U := fun U hU hW =>
  ⟨rfl, by rw [hU], by rw [hU]; exact hPc, va_K.moved hW.alike hKc, hDc.weaken (fun _ _ _ _ => trivial), by rw [hU]; exact zZ_call hZ hS hF hW.alike, zN_warm hW hN⟩
theorem zF {A : Nat → Prop} {s t : State} {H : Heap} {locs : List Loc} (hS : va_S A s.heap H locs) (hz : H.size ≤ t.heap.size) (hk : ∀ q : Nat, q < H.size → t.heap[q]? = H[q]?) : va_F A s t :=
  ⟨Nat.le_trans hS.1 hz, fun q h1 h2 => (hk q (Nat.lt_of_lt_of_le h1 hS.1)).trans (hS.2.1 q h1 h2)⟩
