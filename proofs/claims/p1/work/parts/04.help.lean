/-! ===== BEGIN .. of methods that hand back an object of the pool ===== -/
section
variable {p : Program} {l : Launch} {e : Env} {R : Room} {s : State} {m : MethodId} {args : Array Value} {below : List Frame} {meth : Method} {c : Code} {H : Heap} {locs : List Loc} {cells slots : Nat} {Q : State → Prop}
variable {mc ms : Nat} {free : Addr → Prop} {A0 A1 : Nat → Prop} {H0 : Heap} {a : Array Value} {pc : Nat} {ls : Array Slot} {st0 rest : List Value}
theorem vx_callq {S SX : Type} {post : Option Nat → S → Prop} {px : SX → Prop} {B : S → State → Prop} {BX : String → SX → State → Prop} {AX : Nat → Prop} (hr : vx_Run p l e R s m args below meth c H locs cells slots mc ms (F0 m pc ls st0) rest (va_Qq post B A1 a) (vx_X px BX AX) free) (hS : va_S A0 H0 H locs) (hA : ∀ q, q < H.size → A1 q → A0 q) (hf : ∀ q, free q → A0 q) (hAX : ∀ q, q < H.size → AX q → A0 q)
    (kx : ∀ (E : String) (ce : Cell) (q9 : Addr) (u : SX) (t : State) (H1 : Heap) (locs1 : List Loc), t.heap = H1 → s.vm.Alike t.vm → px u → BX E u t → H.size ≤ H1.size → (∀ q : Nat, q < H.size → ¬ AX q → H1[q]? = H[q]?) → va_S A0 H0 H1 locs1 → H1[q9]? = some ce → ce.vm = .none → s.vm.findClass E = some ce.cls → vx_W p l e R s m args below meth c H1 locs1 (cells + mc) (slots + ms) Q (F0 m pc ls rest) q9)
    (kk : ∀ (r : Option Nat) (u : S) (t : State) (H1 : Heap) (locs1 : List Loc), t.heap = H1 → s.vm.Alike t.vm → post r u → B u t → H.size ≤ H1.size → (∀ q : Nat, q < H.size → ¬ A1 q → H1[q]? = H[q]?) → va_S A0 H0 H1 locs1 → W p l e R s m args below meth c H1 locs1 (cells + mc) (slots + ms) Q (F0 m (pc + 3) ls (va_rf r :: rest))) : W p l e R s m args below meth c H locs cells slots Q (F0 m pc ls st0) := by
  intro T hT X
  rcases hr T hT X with ⟨v, st₀, t, T', L, h0, X', hL, e1, e2, ⟨⟨r, u, hv, hp, hb⟩, hF⟩, st⟩ | ⟨q, st₀, t, T', L, E, ce, h0, X', hL, e1, e2, ⟨u, hp, hb, hF⟩, hce, hcv, hcl, st⟩
  · cases hv
    obtain ⟨k1, k2, k3⟩ := vx_keep h0 e1 hS hA hf hL hF
    obtain ⟨t2, a1, b1⟩ := kk r u t T'.heap (locs ++ L) e1.symm (by rw [← e2]; exact X'.warmed.alike) hp hb k1 k2 k3 T' rfl X'
    exact ⟨t2, st t2 a1, b1⟩
  · obtain ⟨k1, k2, k3⟩ := vx_keep h0 e1 hS hAX hf hL hF
    obtain ⟨t2, a1, b1⟩ := kx E ce q u t T'.heap (locs ++ L) e1.symm (by rw [← e2]; exact X'.warmed.alike) hp hb k1 k2 k3 (by rw [e1]; exact hce) hcv hcl T' rfl X'
    exact ⟨t2, st.trans a1, b1⟩
end
/-! ===== END ===== -/
/-! helpers of this proof: the ambient facts that every contract carries, and what a call needs -/
def zc (x : Int32) : Int32 := (x.toUInt32 % 65536).toInt32
theorem zin {i : Int32} {n : Nat} (h : (decide (i < 0) || decide (n ≤ i.toNatClampNeg)) = false) : vp_in i n := by
  intro hq
  simp only [Bool.or_eq_false_iff, decide_eq_false_iff_not] at h
  exact hq.elim h.1 h.2
theorem zfs {N : Nat} {f : Nat → Value} {g : Nat → Value} (h : ∀ j, j < N → f j = g j) : ∀ j, j < N → f j = g j := h
section ZT
variable {p : Program} {l : Launch} {e : Env} {R : Room} {s : State} {m : MethodId} {args : Array Value} {below : List Frame} {meth : Method} {c : Code} {H : Heap} {locs : List Loc} {cells slots : Nat} {Q : State → Prop} {pc : Nat} {ls : Array Slot} {rest : List Value}
theorem zt_v {v w : Value} (h : v = w) (kk : W p l e R s m args below meth c H locs cells slots Q (F0 m pc ls (w :: rest))) : W p l e R s m args below meth c H locs cells slots Q (F0 m pc ls (v :: rest)) := by
  rw [h]; exact kk
theorem zt_i {x v : Int32} (h : x = v) (kk : W p l e R s m args below meth c H locs cells slots Q (F0 m pc ls (.int v :: rest))) : W p l e R s m args below meth c H locs cells slots Q (F0 m pc ls (.int x :: rest)) := by
  rw [h]; exact kk
theorem zt_l {x v : Int64} (h : x = v) (kk : W p l e R s m args below meth c H locs cells slots Q (F0 m pc ls (.long v :: rest))) : W p l e R s m args below meth c H locs cells slots Q (F0 m pc ls (.long x :: rest)) := by
  rw [h]; exact kk
theorem z_objInit {cc : ByteArray} (hexec : p.tables.exec = Jvm.exec) (hb : c.code = cc) {own : String} (hown : s.vm.findClass own = some m.cls) {idx : Nat} (hlink : (Cond.methodLink own idx objectInit).before args s = true) (hinst : (Cond.instanceMethod objectInit).before args s = true) (hcode : (Cond.code objectInit ⟨#[0xb1]⟩ 1 none).before args s = true)
    (hsize : ls.size = c.maxLocals) {a : Addr} (hd : decode cc pc = .ok (.invokespecial idx, 3)) (hframes : 1 ≤ R.frames) (hlocals : 2 * (F0 m pc ls (.ref a :: rest)).monitorRoom + (rest.map fun v => v.category).sum + 12 ≤ R.locals)
    (kk : W p l e R s m args below meth c H locs cells slots Q (F0 m (pc + 3) ls rest)) : W p l e R s m args below meth c H locs cells slots Q (F0 m pc ls (.ref a :: rest)) :=
  W.objInit hexec hb hown hlink hinst hcode rfl hsize rfl hd hframes hlocals kk
theorem zt_pc {g1 g2 : JFrame} (h : g1 = g2) (kk : W p l e R s m args below meth c H locs cells slots Q g2) : W p l e R s m args below meth c H locs cells slots Q g1 := by
  rw [h]; exact kk
end ZT
theorem zchar {x : Int32} (h1 : ¬ x < (97 : Int32)) (h2 : ¬ (122 : Int32) < x) : fits .char (.int x) = true ∧ narrow .char (.int x) = .int x := by
  have e0 : (97 : Int32).toInt = 97 := by decide +kernel
  have e1 : (122 : Int32).toInt = 122 := by decide +kernel
  simp only [Int32.lt_iff_toInt_lt, e0, e1] at h1 h2
  have H : ∀ j, j < 26 → fits .char (.int (nI (97 + j))) = true ∧ narrow .char (.int (nI (97 + j))) = .int (nI (97 + j)) := by decide +kernel
  have hx : x = nI (97 + (x.toInt - 97).toNat) := by
    apply Int32.toInt_inj.mp
    rw [nI_toInt (by omega)]
    omega
  rw [hx]
  exact H _ (by omega)
theorem zP_nil {D : va_G} {cl : List vw_C} {H : Heap} : va_P D cl [] H := fun k q h => by simp at h
theorem zD_nil {A : Nat → Prop} : va_D A [] := ⟨fun i j p q h => by simp at h, fun k q h => by simp at h⟩
def zNest : List (String × Nat × MethodName × String) := [(RX11, 9, yX4_init, "Seekwell"), (RX11, 18, yX8_init, "Seekwell"), (RX11, 28, yX7_init, "Seekwell"), (RX11, 35, yX2_init, "Seekwell"), (RX11, 55, yX6_init, "Seekwell"), (RX11, 69, yX0_init, "Seekwell"), (RX3, 31, yX1_init, "Seekwell"), (RX5, 31, yX7_init, "Seekwell"), (RX6, 9, yX5_init, "Seekwell"), (RX8, 28, yX9_init, "Seekwell"), (RX9, 9, yX7_init, "Seekwell")]
def zCast : List String := ["java/lang/ArithmeticException", "java/lang/IllegalArgumentException", "java/lang/IllegalStateException", "java/lang/IndexOutOfBoundsException", "java/lang/UnsupportedOperationException", "java/util/NoSuchElementException"]
def zOver : List String := ["Seekwell$Big", "Seekwell$Question", "Seekwell$Text", "SeekwellModel$Node"]
def zOverA : List FieldType := [.int, .long]
def zStr : List (String × Nat × String) := [
  (RX11, 83, "no such sign can be typed"),
  (RX11, 106, "the text has no such place"),
  (RX11, 117, "no such value or tag"),
  (RX11, 173, "there is no such word"),
  (RX11, 211, "the newest part has no texts"),
  (RX11, 219, "there is no such part, or none behind it"),
  (RX11, 229, "the packed row has no such byte"),
  (RX11, 300, "no such byte was written"),
  (RX11, 302, "nothing was written"),
  (RX11, 329, "there is no such text"),
  (RX11, 331, "there is no such part"),
  (RX11, 333, "nothing was asked"),
  (RX11, 344, "the text is not one word")]
def zDecl : List String := ["java/lang/RuntimeException", "java/lang/Exception", Bundle.tN]
def zLink : List (String × Nat × String) := [(RL, 13, "java/lang/IllegalArgumentException")]
def zNcast : List (String × String) := [("java/lang/IllegalArgumentException", "java/lang/IndexOutOfBoundsException")]
/-- what the tables alone say, of the words that a callee's list doesn't carry over a call -/
def zN (U : State) : Prop :=
  (∀ q ∈ zNest, va_Nw (.methodLinkNest q.1 q.2.1 q.2.2.1 q.2.2.2) U) ∧ (∀ C ∈ zCast, va_Nw (.castable C C) U) ∧ (∀ C ∈ zOver, va_AO C U) ∧ (∀ t ∈ zOverA, va_AOA t U) ∧
  (∀ q ∈ zStr, ∃ a : Nat, vk_R q.1 q.2.1 q.2.2 a U) ∧ (∃ cy : ClassId, U.vm.findClass (FieldType.array .int).toString = some cy) ∧ (∀ q ∈ zNcast, va_Nc q.1 q.2 U) ∧ (∀ C ∈ zDecl, va_Nw (.declares (Bundle.initS C)) U) ∧ ∀ q ∈ zLink, va_Nw (.classLink q.1 q.2.1 q.2.2) U
theorem va_AOA.moved {t : FieldType} {u U : State} (hvm : u.vm.Alike U.vm) (h : va_AOA t u) : va_AOA t U :=
  Jvm.Stand.arrayOver_alikeB (s := u) (U := U) hvm h
theorem zN_warm {s U : State} (hW : s.WarmedH U.vm) (h : zN s) : zN U := by
  obtain ⟨h1, h2, h3, h4, h5, ⟨cy, h6⟩, h7, h8, h9⟩ := h
  refine ⟨fun q hq => (h1 q hq).warmM hW, fun C hC => (h2 C hC).warmC hW, fun C hC => (h3 C hC).moved hW.alike, fun t ht => (h4 t ht).moved hW.alike, fun q hq => ?_, ⟨cy, by rw [hW.alike.findClass]; exact h6⟩, fun q hq => (h7 q hq).moved hW.alike, fun C hC => (h8 C hC).warmD hW, fun q hq => word_at (args := #[]) (a' := #[]) hW (good_of_word rfl) (h9 q hq)⟩
  obtain ⟨a, ha⟩ := h5 q hq
  exact ⟨a, ha.warm hW⟩
/-- the two statics of Throwable that a throw reads -/
def zZ (A : Nat → Prop) (U : State) (H : Heap) : Prop := vx_Zq Bundle.tN "UNASSIGNED_STACK" Bundle.steD A U H ∧ vx_Zq Bundle.tN "SUPPRESSED_SENTINEL" Bundle.listD A U H
theorem zZ_moved {A : Nat → Prop} {u U : State} {H : Heap} (hvm : u.vm.Alike U.vm) (h : zZ A u H) : zZ A U H := ⟨vx_Zq.moved hvm h.1, vx_Zq.moved hvm h.2⟩
theorem zZ_call {A B : Nat → Prop} {s U : State} {H : Heap} {locs : List Loc} (hZ : zZ A s s.heap) (hS : va_S A s.heap H locs) (hF : ∀ q, B q → A q) (hW : s.vm.Alike U.vm) : zZ B U H :=
  zZ_moved hW ⟨(hZ.1.kept hS.2.1).narrow hF, (hZ.2.kept hS.2.1).narrow hF⟩
/-- a contract's start: the cells, and the ambient facts -/
def zB (D : va_G) (tys : List (ClassId × FieldType)) (ws : va_W) (sz : Nat) : State → Prop := fun U =>
  U.heap.size = sz ∧ va_P D vwCl ws U.heap ∧ va_K D vwCl tys U ∧ va_D (fun _ => True) ws ∧ zZ (va_A ws sz) U U.heap ∧ zN U
/-- .. and its end: the cells that are wanted later -/
def zE (D : va_G) (tys : List (ClassId × FieldType)) (ws : va_W) (A : Nat → Prop) (t : State) : Prop := va_P D vwCl ws t.heap ∧ va_K D vwCl tys t ∧ va_D A ws
theorem zB_blind {av : List Value} {D : va_G} {tys : List (ClassId × FieldType)} {ws : va_W} {sz : Nat} : FrameBlind (va_Pc av (zB D tys ws sz)) := fun a U g mk q => by
  obtain ⟨q0, q1, qP, qK, qD, qZ, qN⟩ := q
  exact ⟨q0, q1, qP, va_K.moved (u := U) (U := U.calling g mk a) (Vm.Alike.refl U.vm) qK, qD, zZ_moved (u := U) (U := U.calling g mk a) (Vm.Alike.refl U.vm) qZ, zN_warm (s := U) (U := U.calling g mk a) (State.WarmedH.refl U) qN⟩
theorem zPre {s : State} {H : Heap} {A : Nat → Prop} {wc : va_W} {tysC : List (ClassId × FieldType)} {D : va_G} {av : List Value} {locs : List Loc}
    (hPc : va_P D vwCl wc H) (hDc : va_D A wc) (hKc : va_K D vwCl tysC s) (hS : va_S A s.heap H locs) (hF : ∀ q, va_A wc H.size q → A q) (hZ : zZ A s s.heap) (hN : zN s) :
    ∀ U : State, U.heap = H → s.WarmedH U.vm → va_Pc av (zB D tysC wc H.size) av.toArray U := fun U hU hW =>
  ⟨rfl, by rw [hU], by rw [hU]; exact hPc, va_K.moved hW.alike hKc, hDc.weaken (fun _ _ _ _ => trivial), by rw [hU]; exact zZ_call hZ hS hF hW.alike, zN_warm hW hN⟩
theorem zF {A : Nat → Prop} {s t : State} {H : Heap} {locs : List Loc} (hS : va_S A s.heap H locs) (hz : H.size ≤ t.heap.size) (hk : ∀ q : Nat, q < H.size → t.heap[q]? = H[q]?) : va_F A s t :=
  ⟨Nat.le_trans hS.1 hz, fun q h1 h2 => (hk q (Nat.lt_of_lt_of_le h1 hS.1)).trans (hS.2.1 q h1 h2)⟩
section ZA
variable {p : Program} {l : Launch} {e : Env} {R : Room} {s : State} {m : MethodId} {args : Array Value} {below : List Frame} {meth : Method} {c : Code} {H : Heap} {locs : List Loc} {cells slots : Nat} {Q : State → Prop}
variable {cc : ByteArray} {pc : Nat} {ls : Array Slot} {rest : List Value} {D : va_G} {cl : List vw_C} {A : Nat → Prop} {a : Nat} {tys : List (ClassId × FieldType)} {ws : va_W} {H0 : Heap}
theorem za_refl {vm : Vm} {k : ClassId} : vm.assignable k k = true := by
  have h : ∀ n : Nat, vm.assignableAux (n + 1) k k = true := fun n => by
    rw [Vm.assignableAux]
    simp only [beq_self_eq_true, Bool.true_or]
  exact h 255
/-- 'new T[n][]', the rows not made: by the library's law -/
theorem z_anewA (hexec : p.tables.exec = Jvm.exec) (hb : c.code = cc) {own : String} {ty : FieldType} {index : Nat} (hown : s.vm.findClass own = some m.cls) (hclink : (Cond.classLink own index (FieldType.array ty).toString).before args s = true) (hover : (Cond.arrayOver (.array ty)).before args s = true)
    {n : Int32} (hn : ¬ n < 0) (hbytes : n.toNatClampNeg * 4 ≤ 536870912) (hcells : cells + 1 ≤ R.cells) (hslots : slots + n.toNatClampNeg ≤ R.slots) (hdg : decode cc pc = .ok (.anewarray index, 3))
    (kk : ∀ (cA : ClassId) (kA : Class) (comp : ClassId), s.vm.findClass ("[" ++ (FieldType.array ty).toString) = some cA → s.vm.classes[cA]? = some kA → kA.kind = .array comp (.array ty) →
      W p l e R s m args below meth c (H.push { cls := cA, slots := Array.replicate n.toNatClampNeg .null, vm := .none }) locs (cells + 1) (slots + n.toNatClampNeg) Q (F0 m (pc + 3) ls (.ref H.size :: rest))) : W p l e R s m args below meth c H locs cells slots Q (F0 m pc ls (.int n :: rest)) := by
  intro T hT X
  subst hT; subst hb
  obtain ⟨vm₁, cA, kA, comp, -, h1, h2, h3, -, X', st⟩ := Jvm.Stand.anewarrayArrK X hexec hown hclink hover (g := F0 m pc ls (.int n :: rest)) rfl hdg rfl hn hbytes hcells hslots
  obtain ⟨t, a1, b1⟩ := kk cA kA comp h1 h2 h3 _ (by rfl) X'
  exact ⟨t, st t a1, b1⟩
theorem va_newqA (hexec : p.tables.exec = Jvm.exec) (hb : c.code = cc) {own : String} {ty : FieldType} {index : Nat} (hown : s.vm.findClass own = some m.cls) (hclink : (Cond.classLink own index (FieldType.array ty).toString).before args s = true) (hover : va_AOA ty s) (hK : va_K D cl tys s) (hP : va_P D cl ws H) (hD : va_D A ws) (hS : va_S A H0 H locs) (hA : ∀ q, H0.size ≤ q → A q)
    {n : Int32} {N' : Nat} (hn : ¬ n < 0) (hN : n.toNatClampNeg = N') (hbytes : N' * 4 ≤ 536870912) (hcells : cells + 1 ≤ R.cells) (hslots : slots + N' ≤ R.slots) (hdg : decode cc pc = .ok (.anewarray index, 3))
    (kk : ∀ (q : Nat) (cA : ClassId) (H1 : Heap), va_K D cl (tys ++ [(cA, .array ty)]) s → va_P D cl (ws ++ [(q, .inl (cA, N', .inr (.inr (.inr (.inr (fun _ => none))))))]) H1 → va_D A (ws ++ [(q, .inl (cA, N', .inr (.inr (.inr (.inr (fun _ => none))))))]) → va_S A H0 H1 locs →
      W p l e R s m args below meth c H1 locs (cells + 1) (slots + N') Q (F0 m (pc + 3) ls (.ref q :: rest))) : W p l e R s m args below meth c H locs cells slots Q (F0 m pc ls (.int n :: rest)) := by
  subst hN
  refine z_anewA hexec hb hown hclink (va_AOA.use hover) hn hbytes hcells hslots hdg fun cA kA comp f1 f2 f3 => ?_
  generalize hH1 : H.push { cls := cA, slots := Array.replicate n.toNatClampNeg .null, vm := .none } = H1
  have hsz : H1.size = H.size + 1 := by rw [← hH1]; exact Array.size_push ..
  have e1 : H1[H.size]? = some (arrV cA n.toNatClampNeg (fun _ => .null)) := by rw [← hH1, Array.getElem?_push_size, ← arrV_new]
  have o1 : ∀ q : Nat, q < H.size → H1[q]? = H[q]? := fun q hq => by rw [← hH1, Array.getElem?_push, if_neg (Nat.ne_of_lt hq)]
  have hAr : ArrOfT s cA (.array ty) := fun N z => ⟨(fun k h => by cases h), kA, f2, comp, f3⟩
  have hk : ∀ (k : Nat) (x : Nat × va_E), ws[k]? = some x → H1[x.1]? = H[x.1]? := fun k x hx => o1 x.1 ((hP k x hx).lt)
  refine kk H.size cA H1 ⟨hK.1, fun k x hx => ?_⟩ ((hP.kept hk).app (fun k x hx => ?_)) (hD.push hP rfl (hA _ hS.1)) ⟨Nat.le_trans hS.1 (by omega), fun x h1 h2 => (o1 x (Nat.lt_of_lt_of_le h1 hS.1)).trans (hS.2.1 x h1 h2), hS.2.2⟩
  · by_cases hl : k < tys.length
    · rw [List.getElem?_append_left hl] at hx
      exact hK.2 k x hx
    · rw [List.getElem?_append_right (by omega)] at hx
      have hz : k - tys.length < 1 := (List.getElem?_eq_some_iff.mp hx).1
      rw [show k - tys.length = 0 by omega] at hx
      cases hx
      exact ⟨hAr, f1⟩
  · have hz : k < 1 := (List.getElem?_eq_some_iff.mp hx).1
    rw [show k = 0 by omega] at hx
    cases hx
    show H1[H.size]? = some (vp_cell _ _)
    rw [vp_cell_q]
    exact e1
/-- an array stored in an array of arrays of its kind -/
theorem va_astqA (hexec : p.tables.exec = Jvm.exec) (hb : c.code = cc) {ty : FieldType} (hover : va_AOA ty s) (hK : va_K D cl tys s) (hP : va_P D cl ws H) (hD : va_D A ws) (hS : va_S A H0 H locs) (q0 t0 qk tk : Nat) {cA cV : ClassId} {n v : Nat} {x : vp_A} {f : Nat → Option Nat} (ha : ws[q0]? = some (a, .inl (cA, n, .inr (.inr (.inr (.inr f)))))) (ht : tys[t0]? = some (cA, .array ty)) (hv : ws[qk]? = some (v, .inl (cV, x))) (hty : (match ty with | .object _ => False | _ => True)) (htv : tys[tk]? = some (cV, ty)) {i : Int32} (hin : vp_in i n) (hdg : decode cc pc = .ok (.aastore, 1))
    (kk : ∀ (H1 : Heap) (locs1 : List Loc), va_P D cl (ws.set q0 (a, .inl (cA, n, .inr (.inr (.inr (.inr (va_up f i.toNatClampNeg (some v)))))))) H1 → va_D A (ws.set q0 (a, .inl (cA, n, .inr (.inr (.inr (.inr (va_up f i.toNatClampNeg (some v)))))))) → va_S A H0 H1 locs1 → W p l e R s m args below meth c H1 locs1 cells slots Q (F0 m (pc + 1) ls rest)) : W p l e R s m args below meth c H locs cells slots Q (F0 m pc ls (.ref v :: .int i :: .ref a :: rest)) := by
  have hlt : i.toNatClampNeg < n := Nat.not_le.mp fun q => hin (Or.inr q)
  have h0 : ¬ i < 0 := fun q => hin (Or.inl q)
  obtain ⟨comp, c9, k9, hcomp, -, hk9, hkind9, hname9⟩ := Jvm.Stand.arrayOver_specB (va_AOA.use (A := #[]) hover)
  have hA9 : s.vm.findClass ("[" ++ (FieldType.array ty).toString) = some cA := (hK.2 t0 _ ht).2
  have e9 : c9 = cA := Option.some.inj (hname9.symm.trans hA9)
  subst e9
  have hV9 : s.vm.findClass ("[" ++ ty.toString) = some cV := by
    have h := (hK.2 tk _ htv).2
    cases ty <;> first | exact h | exact hty.elim
  have ev : comp = cV := Option.some.inj (hcomp.symm.trans hV9)
  subst ev
  obtain ⟨kC, hkC, -⟩ := Vm.findClass_spec hcomp
  have hcv : H[v]? = some (vp_cell comp x) := hP qk _ hv
  have hcl : (vp_cell comp x).cls = comp := by
    obtain ⟨x1, x2⟩ := x
    rcases x2 with g | g | g | g | g <;> rfl
  have hvm : (vp_cell comp x).vm = .none := by
    obtain ⟨x1, x2⟩ := x
    rcases x2 with g | g | g | g | g <;> rfl
  refine W.aast hexec hb (hP q0 _ ha) (fun q h => by cases h) (fun h => by cases h) hk9 hkind9 rfl hkC ⟨h0, by show _ < (arrV _ _ _).slots.size; rw [arrV_size]; exact hlt⟩ hcv (fun q h => by rw [hvm] at h; cases h) (by rw [hcl]; exact hkC) (by rw [hcl]; exact za_refl) rfl rfl hdg fun H1 e z oq => ?_
  refine kk H1 _ (hP.set hD ha ?_ oq) (hD.set ha) (hS.put z oq (hD.2 q0 _ ha))
  show H1[a]? = some (vp_cell _ _)
  rw [e]
  rw [vp_cell_q, vp_cell_q, arrV_store]
  refine congrArg (fun z => some (arrV c9 n z)) (funext fun j => ?_)
  by_cases hj : j = i.toNatClampNeg
  · subst hj
    simp [updV, va_up, va_rf]
  · simp [updV, va_up, hj]
end ZA
theorem zthr {args : Array Value} {s : State} {X : String} (hN : zN s) (hX : X ∈ zCast) : ∀ w ∈ [Cond.castable X X, Cond.declares (Bundle.initS "java/lang/RuntimeException"), Cond.declares (Bundle.initS "java/lang/Exception"), Cond.declares (Bundle.initS Bundle.tN)], w.before args s = true :=
  vx_c (va_Nw.use rfl (hN.2.1 X hX)) (vx_c (va_Nw.use rfl (hN.2.2.2.2.2.2.2.1 _ (by decide +kernel))) (vx_c (va_Nw.use rfl (hN.2.2.2.2.2.2.2.1 _ (by decide +kernel))) (vx_c (va_Nw.use rfl (hN.2.2.2.2.2.2.2.1 _ (by decide +kernel))) vx_n)))
