/-! CONSTRUCTORS: rows over a world that is a list of cells -/
def JC (K : JK) (pc : Nat) (L : List (Nat × Value)) (st : List Value) (ws : va_W) (n1 n2 : Nat) : Prop :=
  ∀ (H : Heap) (locs : List Loc) (ls : Array Slot), va_P (kD K) vwCl ws H → va_D (kA K) ws → va_S (kA K) (kS K).heap H locs → lv_has ls (kCo K).maxLocals L → WJ K H locs n1 n2 (F0 (kM K) pc ls st)
/-- a constructor's contract: of the object alone that it is called on, to the cells behind it -/
def MCt (l : Launch) (y : MethodName) (b : ByteArray) (n : Nat) (rm : Room) (av : List Value) (o : va_E) (post : (Nat → ClassId) → Nat → va_W → Prop) : Prop :=
  ∀ (D : va_G) (aC : Nat → ClassId) (sz h0 : Nat), Met l y (Cond.code y b n none :: wsG) rm
    (va_Pc (.ref h0 :: av) (fun U => U.heap.size = sz ∧ va_P D vwCl [(h0, o)] U.heap ∧ va_K D vwCl (tysA aC) U ∧ va_D (fun _ => True) [(h0, o)] ∧ NW U))
    (va_Qv (post aC h0) (fun ws U => va_P D vwCl ws U.heap ∧ va_D (va_A [(h0, o)] sz) ws) (va_A [(h0, o)] sz)) rm.cells rm.slots (va_A [(h0, o)] sz)
def Mcx (K : JK) (post : va_W → Prop) : Prop :=
  kQ K = MQ (kBe K) (va_Qv post (fun ws U => va_P (kD K) vwCl ws U.heap ∧ va_D (kA K) ws) (kA K)) (kAr K) (kS K) (kRm K).cells (kRm K).slots (kA K) ∧ (kMe K).sig.returnType = none
def z0 (k a : Nat) : St := (fun _ _ => 0, [], fun _ _ _ => 0, fun _ _ _ => 0, fun _ _ _ => none)
theorem MCt_of {l : Launch} {y : MethodName} {b : ByteArray} {n : Nat} {rm : Room} {av : List Value} {o : va_E} {post : (Nat → ClassId) → Nat → va_W → Prop} {L : Nat → List (Nat × Value)} (hy : plainName y.cls = true) (hy1 : y.name = "<init>") (hlen : ∀ h0, (lg_sl (Value.ref h0 :: av)).length ≤ n) (hL : ∀ h0, lv_args 0 (Value.ref h0 :: av) = L h0)
    (body : ∀ (K : JK) (h0 : Nat), kL K = l → kRm K = rm → Cx K b n y.cls → (kMe K).name = "<init>" → Mcx K (post (kC K) h0) → JC K 0 (L h0) [] [(h0, o)] 0 0) : MCt l y b n rm av o post := by
  intro D aC sz h0
  refine Met.ofW (cc := b) (maxL := n) (ret := none) hy rfl ?_
  intro p e s m args below meth c s₁ B hml hv
  obtain ⟨rfl, hsz, hP, hK, hD0, hN⟩ := hv
  subst hsz
  have hts := atoms_spec (ws := Cond.code y b n none :: wsG) B.pre
  have hown : s.vm.findClass y.cls = some m.cls := findClass_of_methodNamed B.named
  have hin : meth.name = "<init>" := (name_of_methodNamed B.named B.method).1.trans hy1
  have h := body (p, l, e, rm, s, m, (Value.ref h0 :: av).toArray, below, meth, c, D, aC, va_A [(h0, o)] s.heap.size, MQ below (va_Qv (post aC h0) (fun ws U => va_P D vwCl ws U.heap ∧ va_D (va_A [(h0, o)] s.heap.size) ws) (va_A [(h0, o)] s.heap.size)) (Value.ref h0 :: av).toArray s rm.cells rm.slots (va_A [(h0, o)] s.heap.size), z0 0 0) h0 rfl rfl
    ⟨B.exec, B.bytes, hml, hown, fun w hw => hts w (List.mem_cons_of_mem _ hw), hK, fun q hq => Or.inr hq, B.notSynchronized, hN⟩ hin ⟨rfl, B.returns⟩
  have hl := lv_entry (Value.ref h0 :: av) (n := n) (hlen h0)
  rw [lg_entry_eq]
  refine h s.heap [] _ hP hD0.self va_S.rf ?_
  show lv_has _ c.maxLocals (L h0)
  rw [hml, ← hL]
  exact hl
section CTR
variable {K : JK} {cc : ByteArray} {nL : Nat} {own : String} {pc : Nat} {L : List (Nat × Value)} {st : List Value} {ws : va_W} {n1 n2 : Nat}
theorem c_aload (hC : Cx K cc nL own) {i : Fin 4} {a : Nat} (q : Nat) (hd : decode cc pc = .ok (.aload_n i, 1)) (hi : L[q]? = some ((i : Nat), .ref a)) (k : JC K (pc + 1) L (.ref a :: st) ws n1 n2) : JC K pc L st ws n1 n2 :=
  fun H locs ls hP hD hS hl => lv_aload_n hC.1 hC.2.1 hd rfl (lv_at hl q hi) (k H locs ls hP hD hS hl)
theorem c_iload (hC : Cx K cc nL own) {i : Fin 4} {x : Int32} (q : Nat) (hd : decode cc pc = .ok (.iload_n i, 1)) (hi : L[q]? = some ((i : Nat), .int x)) (k : JC K (pc + 1) L (.int x :: st) ws n1 n2) : JC K pc L st ws n1 n2 :=
  fun H locs ls hP hD hS hl => lv_iload_n hC.1 hC.2.1 hd rfl (lv_at hl q hi) (k H locs ls hP hD hS hl)
theorem c_iconst (hC : Cx K cc nL own) {n : Int} (x : Int32) (hx : Int32.ofInt n = x) (hd : decode cc pc = .ok (.iconst n, 1)) (k : JC K (pc + 1) L (.int x :: st) ws n1 n2) : JC K pc L st ws n1 n2 := by
  subst hx
  exact fun H locs ls hP hD hS hl => lv_iconst hC.1 hC.2.1 hd rfl (k H locs ls hP hD hS hl)
theorem c_lconst (hC : Cx K cc nL own) {n : Fin 2} (x : Int64) (hx : Int64.ofNat (n : Nat) = x) (hd : decode cc pc = .ok (.lconst n, 1)) (k : JC K (pc + 1) L (.long x :: st) ws n1 n2) : JC K pc L st ws n1 n2 := by
  subst hx
  exact fun H locs ls hP hD hS hl => lv_lconst hC.1 hC.2.1 hd rfl (k H locs ls hP hD hS hl)
theorem c_bipush (hC : Cx K cc nL own) {n : Int} (x : Int32) (hx : (Int8.ofInt n).toInt32 = x) (hd : decode cc pc = .ok (.bipush n, 2)) (k : JC K (pc + 2) L (.int x :: st) ws n1 n2) : JC K pc L st ws n1 n2 :=
  fun H locs ls hP hD hS hl => lv_bipush hC.1 hC.2.1 hd hx (k H locs ls hP hD hS hl)
theorem c_sipush (hC : Cx K cc nL own) {n : Int} (x : Int32) (hx : (Int16.ofInt n).toInt32 = x) (hd : decode cc pc = .ok (.sipush n, 3)) (k : JC K (pc + 3) L (.int x :: st) ws n1 n2) : JC K pc L st ws n1 n2 :=
  fun H locs ls hP hD hS hl => lv_sipush hC.1 hC.2.1 hd hx (k H locs ls hP hD hS hl)
theorem c_null (hC : Cx K cc nL own) (hd : decode cc pc = .ok (.aconst_null, 1)) (k : JC K (pc + 1) L (.null :: st) ws n1 n2) : JC K pc L st ws n1 n2 :=
  fun H locs ls hP hD hS hl => lv_null hC.1 hC.2.1 hd (k H locs ls hP hD hS hl)
theorem c_dup (hC : Cx K cc nL own) {a : Nat} (hd : decode cc pc = .ok (.dup, 1)) (k : JC K (pc + 1) L (.ref a :: .ref a :: st) ws n1 n2) : JC K pc L (.ref a :: st) ws n1 n2 :=
  fun H locs ls hP hD hS hl => lv_dup hC.1 hC.2.1 hd rfl (k H locs ls hP hD hS hl)
theorem c_put (hC : Cx K cc nL own) {idx a : Nat} {ref C : String} {T : u_T} {ty : Nat → FieldType} {N ci i : Nat} {fs : List Value} {v : Value} (he : ws[0]? = some (a, .inr (ci, fs))) (hcl : vwCl[ci]? = some (C, T, N)) (hin : ∀ w ∈ u_ws C T N, w ∈ wsG) (hty : ∀ k, k < N → parseFieldDescriptor (T k).2.2.1 = some (ty k)) (hnm : ∀ a, a < N → ∀ b, b < N → a ≠ b → (T a).2.1 ≠ (T b).2.1) (hi : i < N)
    (hlink : Cond.fieldLink own idx ref (T i).2.1 (T i).2.2.1 ∈ wsG) (hsame : ref = (T i).1 ∨ Cond.sameField ref (T i).1 (T i).2.1 (T i).2.2.1 ∈ wsG) (hfin : (T i).2.2.2 = false) (hn : narrow (ty i) v = v) (hfit : fits (ty i) v = true) (hlen : i < fs.length) (hd : decode cc pc = .ok (.putfield idx, 3)) (k : JC K (pc + 3) L st (ws.set 0 (a, .inr (ci, fs.set i v))) n1 n2) : JC K pc L (v :: .ref a :: st) ws n1 n2 :=
  fun H locs ls hP hD hS hl => va_put hC.1 hC.2.1 hC.2.2.2.2.1 hin ty hty hnm hC.2.2.2.1 hC.2.2.2.2.2.1 hP hD hS 0 he hcl i hi (hC.2.2.2.2.1 _ hlink) (same_of hC.2.2.2.2.1 hsame) hfin (hty i hi) hn hfit hlen hd (fun H1 locs1 hP1 hD1 hS1 => k H1 locs1 ls hP1 hD1 hS1 hl)
theorem c_putF (hC : Cx K cc nL own) (hin2 : (kMe K).name = "<init>") {idx a : Nat} {ref C : String} {T : u_T} {ty : Nat → FieldType} {N ci i : Nat} {fs : List Value} {v : Value} (he : ws[0]? = some (a, .inr (ci, fs))) (hcl : vwCl[ci]? = some (C, T, N)) (hin : ∀ w ∈ u_ws C T N, w ∈ wsG) (hty : ∀ k, k < N → parseFieldDescriptor (T k).2.2.1 = some (ty k)) (hnm : ∀ a, a < N → ∀ b, b < N → a ≠ b → (T a).2.1 ≠ (T b).2.1) (hi : i < N)
    (hlink : Cond.fieldLink own idx ref (T i).2.1 (T i).2.2.1 ∈ wsG) (hsame : ref = (T i).1 ∨ Cond.sameField ref (T i).1 (T i).2.1 (T i).2.2.1 ∈ wsG) (hfin : (T i).2.2.2 = true) (hdecl : (T i).1 = own) (hn : narrow (ty i) v = v) (hfit : fits (ty i) v = true) (hlen : i < fs.length) (hd : decode cc pc = .ok (.putfield idx, 3)) (k : JC K (pc + 3) L st (ws.set 0 (a, .inr (ci, fs.set i v))) n1 n2) : JC K pc L (v :: .ref a :: st) ws n1 n2 :=
  fun H locs ls hP hD hS hl => va_putF hC.1 hC.2.1 hC.2.2.2.2.1 hin ty hty hnm hC.2.2.2.1 hC.2.2.2.2.2.1 hP hD hS 0 he hcl i hi (hC.2.2.2.2.1 _ hlink) (same_of hC.2.2.2.2.1 hsame) hfin hin2 hdecl (hty i hi) hn hfit hlen hd (fun H1 locs1 hP1 hD1 hS1 => k H1 locs1 ls hP1 hD1 hS1 hl)
theorem va_K.one {D : va_G} {cl : List vw_C} {tys : List (ClassId × FieldType)} {U : State} (h : va_K D cl tys U) {i j : Nat} {c1 c2 : ClassId} {ty : FieldType} (h1 : tys[i]? = some (c1, ty)) (h2 : tys[j]? = some (c2, ty)) : c1 = c2 := by
  have a := (h.2 i _ h1).2
  have b := (h.2 j _ h2).2
  cases ty with
  | object C =>
    obtain ⟨_, _, -, -, -, a⟩ := a
    obtain ⟨_, _, -, -, -, b⟩ := b
    exact Option.some.inj (a.symm.trans b)
  | _ => exact Option.some.inj (Eq.trans (Eq.symm a) b)
theorem c_newa (hC : Cx K cc nL own) {atype : ArrayType} {ty : FieldType} (j : Nat) (hj : (tysA (kC K))[j]? = some (kC K j, ty)) (hty : newarray.typeOf atype = ty) (harr : Cond.arrayClass ty ∈ wsG) {n : Int32} {N : Nat} {a0 : vp_A} (ha : ∀ cA : ClassId, vp_cell cA a0 = arrV cA N (fun _ => defaultValue ty)) (hn : ¬ n < 0) (hN : n.toNatClampNeg = N) (hb : N * componentBytes ty ≤ 536870912) (h1 : n1 + 1 ≤ (kRm K).cells) (h2 : n2 + N ≤ (kRm K).slots) (hd : decode cc pc = .ok (.newarray atype, 2))
    (k : ∀ q : Nat, JC K (pc + 2) L (.ref q :: st) (ws ++ [(q, .inl (kC K j, a0))]) (n1 + 1) (n2 + N)) : JC K pc L (.int n :: st) ws n1 n2 := by
  intro H locs ls hP hD hS hl
  refine va_newa hC.1 hC.2.1 (by rw [hty]; exact hC.2.2.2.2.1 _ harr) hty hC.2.2.2.2.2.1 hP hD hS hC.2.2.2.2.2.2.1 ha hn hN hb h1 h2 hd (fun q cA H1 hK1 hP1 hD1 hS1 => ?_)
  have hlen : (tysA (kC K)).length = 6 := rfl
  have e : kC K j = cA := va_K.one hK1 (i := j) (j := 6) (by
    rw [List.getElem?_append_left]
    · exact hj
    · exact (List.getElem?_eq_some_iff.mp hj).1) (by rw [List.getElem?_append_right (by rw [hlen]; exact Nat.le_refl _), hlen]; rfl)
  subst e
  exact k q H1 locs ls hP1 hD1 hS1 hl
theorem c_newq (hC : Cx K cc nL own) {idx : Nat} {C : String} (j : Nat) (hj : (tysA (kC K))[j]? = some (kC K j, .object C)) (hcl : Cond.classLink own idx C ∈ wsG) (hao : va_AO C (kS K)) {n : Int32} {N : Nat} (hn : ¬ n < 0) (hN : n.toNatClampNeg = N) (hb : N * 4 ≤ 536870912) (h1 : n1 + 1 ≤ (kRm K).cells) (h2 : n2 + N ≤ (kRm K).slots) (hd : decode cc pc = .ok (.anewarray idx, 3))
    (k : ∀ q : Nat, JC K (pc + 3) L (.ref q :: st) (ws ++ [(q, .inl (kC K j, N, .inr (.inr (.inr (.inr (fun _ => none))))))]) (n1 + 1) (n2 + N)) : JC K pc L (.int n :: st) ws n1 n2 := by
  intro H locs ls hP hD hS hl
  refine va_newq hC.1 hC.2.1 hC.2.2.2.1 (hC.2.2.2.2.1 _ hcl) hao hC.2.2.2.2.2.1 hP hD hS hC.2.2.2.2.2.2.1 hn hN hb h1 h2 hd (fun q cA H1 hK1 hP1 hD1 hS1 => ?_)
  have hlen : (tysA (kC K)).length = 6 := rfl
  have e : kC K j = cA := va_K.one hK1 (i := j) (j := 6) (by
    rw [List.getElem?_append_left]
    · exact hj
    · exact (List.getElem?_eq_some_iff.mp hj).1) (by rw [List.getElem?_append_right (by rw [hlen]; exact Nat.le_refl _), hlen]; rfl)
  subst e
  exact k q H1 locs ls hP1 hD1 hS1 hl
theorem c_new (hC : Cx K cc nL own) {idx ci : Nat} {C : String} {T : u_T} {ty : Nat → FieldType} {N : Nat} {fs : List Value} (hcl : vwCl[ci]? = some (C, T, N)) (hin : ∀ w ∈ u_ws C T N, w ∈ wsG) (hty : ∀ k, k < N → parseFieldDescriptor (T k).2.2.1 = some (ty k)) (w1 : Cond.classLink own idx C ∈ wsG) (w2 : Cond.instantiable C N ∈ wsG) (w3 : Cond.initialized C ∈ wsG) (hfs : ∀ j, j < N → defaultValue (ty j) = vp_V fs j) (h1 : n1 + 1 ≤ (kRm K).cells) (h2 : n2 + N ≤ (kRm K).slots) (hd : decode cc pc = .ok (.new idx, 3))
    (k : ∀ q : Nat, JC K (pc + 3) L (.ref q :: st) (ws ++ [(q, .inr (ci, fs))]) (n1 + 1) (n2 + N)) : JC K pc L st ws n1 n2 :=
  fun H locs ls hP hD hS hl => va_new hC.1 hC.2.1 hC.2.2.2.2.1 hin ty hty hC.2.2.2.1 (hC.2.2.2.2.1 _ w1) (hC.2.2.2.2.1 _ w2) (hC.2.2.2.2.1 _ w3) hC.2.2.2.2.2.1 hP hD hS hC.2.2.2.2.2.2.1 hcl hfs h1 h2 hd (fun q H1 hP1 hD1 hS1 => k q H1 locs ls hP1 hD1 hS1 hl)
theorem c_obj (hC : Cx K cc nL own) {idx a : Nat} (w1 : Cond.methodLink own idx Lib.objectInit ∈ wsG) (w2 : Cond.instanceMethod Lib.objectInit ∈ wsG) (w3 : Cond.code Lib.objectInit ⟨#[0xb1]⟩ 1 none ∈ wsG) (hR : 1 ≤ (kRm K).frames ∧ 12 ≤ (kRm K).locals) (hd : decode cc pc = .ok (.invokespecial idx, 3)) (k : JC K (pc + 3) L [] ws n1 n2) : JC K pc L [.ref a] ws n1 n2 := by
  intro H locs ls hP hD hS hl
  exact W.objInit hC.1 hC.2.1 hC.2.2.2.1 (hC.2.2.2.2.1 _ w1) (hC.2.2.2.2.1 _ w2) (hC.2.2.2.2.1 _ w3) rfl hl.1 rfl hd hR.1 (by show 2 * 0 + 0 + 12 ≤ _; omega) (k H locs ls hP hD hS hl)
theorem c_ret (hC : Cx K cc nL own) {post : va_W → Prop} (hM : Mcx K post) (hp : post ws) (h1 : n1 ≤ (kRm K).cells) (h2 : n2 ≤ (kRm K).slots) (hd : decode cc pc = .ok (.return_, 1)) : JC K pc L [] ws n1 n2 := by
  intro H locs ls hP hD hS hl
  refine W.widen h1 h2 ?_
  rw [hM.1]
  exact W.vret hC.1 hC.2.1 hM.2 (fun t ht hW => ⟨⟨ws, rfl, hp, by rw [ht]; exact hP, hD⟩, hS.F ht⟩) hS.2.2 hd hC.2.2.2.2.2.2.2.1
theorem rng_map (w0 : va_W) (x : Nat × va_E) : (List.range w0.length).map (fun i => (w0 ++ [x])[i]?) = w0.map some := by
  refine List.ext_getElem? fun i => ?_
  rw [List.getElem?_map, List.getElem?_map]
  by_cases h : i < w0.length
  · rw [List.getElem?_range h, Option.map_some, List.getElem?_append_left h, List.getElem?_eq_getElem h]; rfl
  · rw [List.getElem?_eq_none (by rw [List.length_range]; omega), List.getElem?_eq_none (by omega)]; rfl
theorem va_nd_of : ∀ l : List Nat, l.Nodup → va_nd l = true
  | [], _ => rfl
  | a :: l, h => by
    have h2 := List.nodup_cons.mp h
    simp only [va_nd, Bool.and_eq_true, decide_eq_true_eq]
    exact ⟨h2.1, va_nd_of l h2.2⟩
theorem MCt.blind {D : va_G} {aC : Nat → ClassId} {sz : Nat} {av : List Value} {w : va_W} : FrameBlind (va_Pc av (fun U => U.heap.size = sz ∧ va_P D vwCl w U.heap ∧ va_K D vwCl (tysA aC) U ∧ va_D (fun _ => True) w ∧ NW U)) := by
  intro a U g mk q
  obtain ⟨q0, q1, qP, qK, qD, qN⟩ := q
  exact ⟨q0, q1, qP, va_K.moved (u := U) (U := U.calling g mk a) (Vm.Alike.refl U.vm) qK, qD, qN⟩
/-- a constructor's call: its object is the last cell -/
theorem c_back (hC : Cx K cc nL own) {mc ms b : Nat} {w0 : va_W} {o : va_E} {post : va_W → Prop} {a : Array Value} {st0 rest : List Value} {H : Heap} {locs : List Loc} {ls : Array Slot}
    (hr : va_Run (kP K) (kL K) (kE K) (kRm K) (kS K) (kM K) (kAr K) (kBe K) (kMe K) (kCo K) H locs n1 n2 mc ms (F0 (kM K) pc ls st0) rest (va_Qv post (fun w U => va_P (kD K) vwCl w U.heap ∧ va_D (va_A [(b, o)] H.size) w) (va_A [(b, o)] H.size) a) (va_A [(b, o)] H.size))
    (hP : va_P (kD K) vwCl (w0 ++ [(b, o)]) H) (hD : va_D (kA K) (w0 ++ [(b, o)])) (hS : va_S (kA K) (kS K).heap H locs) (hl : lv_has ls (kCo K).maxLocals L)
    (k : ∀ w1, post w1 → JC K (pc + 3) L rest (w0 ++ w1) (n1 + mc) (n2 + ms)) : WJ K H locs n1 n2 (F0 (kM K) pc ls st0) := by
  have hCp : [w0.length].map (fun i => (w0 ++ [(b, o)])[i]?) = [(b, o)].map some := by simp
  have hF := va_free hD hS hC.2.2.2.2.2.2.1 [w0.length] hCp
  refine va_callv hr hS (fun q _ h => hF q h) hF (fun u t H1 locs1 ht hvm hp hB hz hk hS1 => ?_)
  obtain ⟨hP1, hD1⟩ := hB
  rw [ht] at hP1
  obtain ⟨hP2, hD2⟩ := va_join hP hD [w0.length] (List.range w0.length) hCp (rng_map w0 _) (va_nd_of _ List.nodup_range) (fun i hi => by
    have := List.mem_range.mp hi
    simp; omega) hk hF hP1 hD1
  exact k u hp H1 locs1 ls hP2 hD2 hS1 hl
theorem c_pre (hC : Cx K cc nL own) {b : Nat} {w0 : va_W} {o : va_E} {av : List Value} {H : Heap} (hP : va_P (kD K) vwCl (w0 ++ [(b, o)]) H) (U : State) (hU : U.heap = H) (hW : (kS K).WarmedH U.vm) : va_Pc (.ref b :: av) (fun U => U.heap.size = H.size ∧ va_P (kD K) vwCl [(b, o)] U.heap ∧ va_K (kD K) vwCl (tysA (kC K)) U ∧ va_D (fun _ => True) [(b, o)] ∧ NW U) (Value.ref b :: av).toArray U := by
  refine ⟨rfl, by rw [hU], ?_, va_K.moved hW.alike hC.2.2.2.2.2.1, ?_, NW.warm hW hC.2.2.2.2.2.2.2.2⟩
  · rw [hU]
    intro k q hq
    have hk : k < 1 := (List.getElem?_eq_some_iff.mp hq).1
    rw [show k = 0 by omega] at hq
    cases hq
    exact hP w0.length _ (by simp)
  · refine ⟨fun i j p q hi hj _ => ?_, fun _ _ _ => trivial⟩
    have h1 : i < 1 := (List.getElem?_eq_some_iff.mp hi).1
    have h2 : j < 1 := (List.getElem?_eq_some_iff.mp hj).1
    omega
theorem c_init (hC : Cx K cc nL own) {y : MethodName} {bb : ByteArray} {n nA idx b : Nat} {rm : Room} {As rest : List Value} {w0 : va_W} {o : va_E} {post : (Nat → ClassId) → Nat → va_W → Prop}
    (hM : MCt (kL K) y bb n rm As o post) (w1 : Cond.methodLink own idx y ∈ wsG) (w2 : Cond.instanceMethod y ∈ wsG) (w4 : Cond.initialized y.cls ∈ wsG) (w5 : Cond.code y bb n none ∈ wsG) (hy1 : y.name = "<init>")
    (hy : y.cls ≠ "java/lang/invoke/MethodHandle" ∧ y.cls ≠ "java/lang/invoke/VarHandle" ∧ (parseMethodDescriptor y.desc).map (fun d => d.parameters.length) = some nA) (hn : As.length = nA)
    (hR : rm.frames + 1 ≤ (kRm K).frames ∧ 8 + (n + 11) + rm.locals ≤ (kRm K).locals) (hR2 : n1 + rm.cells ≤ (kRm K).cells ∧ n2 + rm.slots ≤ (kRm K).slots)
    (hst : st = As.reverse ++ .ref b :: rest) (hcat : (rest.map fun v => v.category).sum ≤ 8) (hws : ws = w0 ++ [(b, o)]) (hd : decode cc pc = .ok (.invokespecial idx, 3))
    (k : ∀ w1, post (kC K) b w1 → JC K (pc + 3) L rest (w0 ++ w1) (n1 + rm.cells) (n2 + rm.slots)) : JC K pc L st ws n1 n2 := by
  subst hst
  subst hws
  intro H locs ls hP hD hS hl
  exact c_back hC (va_runI (As := As) (rest := rest) (b := b) ⟨hC.1, hC.2.1, hC.2.2.1, hC.2.2.2.1, hC.2.2.2.2.1⟩ (hM (kD K) (kC K) H.size b) (cwI nA hC.2.2.2.2.1 (goodG w5) rfl rfl rfl (hC.2.2.2.2.1 _ w4) (hC.2.2.2.2.1 _ w1) (hC.2.2.2.2.1 _ w2) hy1 hy hR) ⟨MCt.blind, fun U hU hW => c_pre hC hP U hU hW⟩ rfl hn (by rw [← hC.2.2.1]; exact hl.1) rfl (lv_room hcat) hd hR2) hP hD hS hl k
theorem c_initN (hC : Cx K cc nL own) {y : MethodName} {bb : ByteArray} {n nA idx b : Nat} {host : String} {rm : Room} {As rest : List Value} {w0 : va_W} {o : va_E} {post : (Nat → ClassId) → Nat → va_W → Prop}
    (hM : MCt (kL K) y bb n rm As o post) (w1 : (own, idx, y, host) ∈ nestW) (w2 : Cond.instanceMethod y ∈ wsG) (w4 : Cond.initialized y.cls ∈ wsG) (w5 : Cond.code y bb n none ∈ wsG) (hy1 : y.name = "<init>")
    (hy : y.cls ≠ "java/lang/invoke/MethodHandle" ∧ y.cls ≠ "java/lang/invoke/VarHandle" ∧ (parseMethodDescriptor y.desc).map (fun d => d.parameters.length) = some nA) (hn : As.length = nA)
    (hR : rm.frames + 1 ≤ (kRm K).frames ∧ 8 + (n + 11) + rm.locals ≤ (kRm K).locals) (hR2 : n1 + rm.cells ≤ (kRm K).cells ∧ n2 + rm.slots ≤ (kRm K).slots)
    (hst : st = As.reverse ++ .ref b :: rest) (hcat : (rest.map fun v => v.category).sum ≤ 8) (hws : ws = w0 ++ [(b, o)]) (hd : decode cc pc = .ok (.invokespecial idx, 3))
    (k : ∀ w1, post (kC K) b w1 → JC K (pc + 3) L rest (w0 ++ w1) (n1 + rm.cells) (n2 + rm.slots)) : JC K pc L st ws n1 n2 := by
  subst hst
  subst hws
  intro H locs ls hP hD hS hl
  exact c_back hC (va_runIN (host := host) (As := As) (rest := rest) (b := b) ⟨hC.1, hC.2.1, hC.2.2.1, hC.2.2.2.1, hC.2.2.2.2.1⟩ (hM (kD K) (kC K) H.size b) ⟨va_cnB nA hC.2.2.2.2.1 (goodG w5) rfl rfl rfl (hC.2.2.2.2.2.2.2.2.1 _ w1) (hC.2.2.2.2.1 _ w4) hy hR, hy1, hC.2.2.2.2.1 _ w2⟩ ⟨MCt.blind, fun U hU hW => c_pre hC hP U hU hW⟩ rfl hn (by rw [← hC.2.2.1]; exact hl.1) rfl (lv_room hcat) hd hR2) hP hD hS hl k
end CTR
