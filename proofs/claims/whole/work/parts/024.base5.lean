/-! BASE 5: rows of references, casts, switches, calls, returns; contracts -/
def PI (po : Int → St → Prop) : Option WV → St → Prop := fun v σ => ∃ r, v = some (wi r) ∧ po r σ
def PL (po : Int → St → Prop) : Option WV → St → Prop := fun v σ => ∃ r, v = some (wl r) ∧ po r σ
def PV (po : St → Prop) : Option WV → St → Prop := fun v σ => v = none ∧ po σ
def PR (kd : Nat) (po : Option Nat → St → Prop) : Option WV → St → Prop := fun v σ => ∃ r, v = some (wr kd r) ∧ po r σ
def QG (D : va_G) (aC : Nat → ClassId) (σ0 : St) (P : Option WV → St → Prop) (A : Nat → Prop) : Array Value → State → Outcome → State → Prop := fun _ st oc t =>
  (∃ (v : Option WV) (σ : St), oc = .returned (v.map (den σ)) ∧ P v σ ∧ Ext σ0 σ ∧ WT σ ∧ (∀ w, v = some w → okv σ w) ∧ va_P D vwCl (WL aC σ) t.heap ∧ va_D A (WL aC σ)) ∧ va_F A st t
/-- a method's contract at given arguments and a given store -/
def MT (l : Launch) (y : MethodName) (b : ByteArray) (n : Nat) (ret : Option FieldType) (rm : Room) (as : List WV) (σ : St) (P : Option WV → St → Prop) : Prop :=
  WT σ → (∀ v ∈ as, okv σ v) → ∀ (D : va_G) (aC : Nat → ClassId) (sz : Nat), Met l y (Cond.code y b n ret :: wsG) rm
    (va_Pc (as.map (den σ)) (fun U => U.heap.size = sz ∧ va_P D vwCl (WL aC σ) U.heap ∧ va_K D vwCl (tysA aC) U ∧ va_D (fun _ => True) (WL aC σ) ∧ NW U))
    (QG D aC σ P (va_A (WL aC σ) sz)) rm.cells rm.slots (va_A (WL aC σ) sz)
/-- a method's run: its end, its type -/
def Mx (K : JK) (ret : Option FieldType) (P : Option WV → St → Prop) : Prop :=
  kQ K = MQ (kBe K) (QG (kD K) (kC K) (k0 K) P (kA K)) (kAr K) (kS K) (kRm K).cells (kRm K).slots (kA K) ∧ (kMe K).sig.returnType = ret
def entl : List WV → List (Option WV)
  | [] => []
  | v :: t => match v with
    | .inr (.inl x) => some (wl x) :: none :: entl t
    | .inl x => some (wi x) :: entl t
    | .inr (.inr q) => some (.inr (.inr q)) :: entl t
def ent (n : Nat) (as : List WV) : List (Option WV) := entl as ++ List.replicate (n - (entl as).length) none
theorem lo_none (σ : St) : ∀ (m i : Nat), lo σ i (List.replicate m none) = []
  | 0, _ => rfl
  | m + 1, i => lo_none σ m (i + 1)
theorem lo_ent (σ : St) (m : Nat) : ∀ (as : List WV) (i : Nat), lo σ i (entl as ++ List.replicate m none) = lv_args i (as.map (den σ))
  | [], i => lo_none σ m i
  | v :: t, i => by
    have h1 := lo_ent σ m t (i + 1)
    have h2 := lo_ent σ m t (i + 1 + 1)
    rcases v with x | x | ⟨k, o⟩
    · show (i, den σ (wi x)) :: lo σ (i + 1) (entl t ++ List.replicate m none) = (i, den σ (wi x)) :: lv_args (if (den σ (wi x)).category = 2 then i + 2 else i + 1) (t.map (den σ))
      rw [h1, den_cat]; rfl
    · show (i, den σ (wl x)) :: lo σ (i + 1 + 1) (entl t ++ List.replicate m none) = (i, den σ (wl x)) :: lv_args (if (den σ (wl x)).category = 2 then i + 2 else i + 1) (t.map (den σ))
      rw [h2, den_cat]; rfl
    · show (i, den σ (wr k o)) :: lo σ (i + 1) (entl t ++ List.replicate m none) = (i, den σ (wr k o)) :: lv_args (if (den σ (wr k o)).category = 2 then i + 2 else i + 1) (t.map (den σ))
      rw [h1, den_cat]; rfl
theorem sl_len (σ : St) : ∀ (as : List WV), (lg_sl (as.map (den σ))).length = (entl as).length
  | [] => rfl
  | v :: t => by
    have h := sl_len σ t
    unfold lg_sl at h ⊢
    rw [List.map_cons, List.flatMap_cons, List.length_append, h, den_cat]
    rcases v with x | x | ⟨k, o⟩
    · show 1 + (entl t).length = (entl t).length + 1; omega
    · show 2 + (entl t).length = (entl t).length + 1 + 1; omega
    · show 1 + (entl t).length = (entl t).length + 1; omega
theorem ent_ok {σ : St} {as : List WV} {n : Nat} (h : ∀ v ∈ as, okv σ v) : ∀ v, some v ∈ ent n as → okv σ v := by
  intro v hv
  unfold ent at hv
  rcases List.mem_append.mp hv with hv | hv
  · induction as with
    | nil => cases hv
    | cons w t ih =>
      have h2 := fun h3 => ih (fun v hv => h v (List.mem_cons_of_mem _ hv)) (List.mem_append_left _ h3) h3
      have h0 := h w List.mem_cons_self
      rcases w with x | x | q
      · rcases List.mem_cons.mp hv with e | h3
        · cases e; exact h0
        · exact h2 h3
      · rcases List.mem_cons.mp hv with e | h3
        · cases e; exact h0
        · rcases List.mem_cons.mp h3 with e | h3
          · cases e
          · exact h2 h3
      · rcases List.mem_cons.mp hv with e | h3
        · cases e; exact h0
        · exact h2 h3
  · have := List.eq_of_mem_replicate hv
    cases this
theorem MT_of {l : Launch} {y : MethodName} {b : ByteArray} {n : Nat} {ret : Option FieldType} {rm : Room} {as : List WV} {σ : St} {P : Option WV → St → Prop} (hy : plainName y.cls = true) (hlen : (entl as).length ≤ n)
    (body : ∀ K : JK, kL K = l → kRm K = rm → Cx K b n y.cls → Mx K ret P → J K 0 (ent n as) [] σ 0 0) : MT l y b n ret rm as σ P := by
  intro hT hok D aC sz
  refine Met.ofW (cc := b) (maxL := n) (ret := ret) hy rfl ?_
  intro p e s m args below meth c s₁ B hml hv
  obtain ⟨rfl, hsz, hP, hK, hD0, hN⟩ := hv
  subst hsz
  have hts := atoms_spec (ws := Cond.code y b n ret :: wsG) B.pre
  have hown : s.vm.findClass y.cls = some m.cls := findClass_of_methodNamed B.named
  have h := body (p, l, e, rm, s, m, (as.map (den σ)).toArray, below, meth, c, D, aC, va_A (WL aC σ) s.heap.size, MQ below (QG D aC σ P (va_A (WL aC σ) s.heap.size)) (as.map (den σ)).toArray s rm.cells rm.slots (va_A (WL aC σ) s.heap.size), σ) rfl rfl
    ⟨B.exec, B.bytes, hml, hown, fun w hw => hts w (List.mem_cons_of_mem _ hw), hK, fun q hq => Or.inr hq, B.notSynchronized, hN⟩ ⟨rfl, B.returns⟩
  have hl := lv_entry (as.map (den σ)) (n := n) (by rw [sl_len]; exact hlen)
  rw [lg_entry_eq]
  refine h s.heap [] _ ⟨hP, hD0.self, hT, Ext.rf, va_S.rf⟩ ⟨?_, ent_ok hok⟩ (fun v hv => by cases hv)
  show lv_has _ c.maxLocals (lo σ 0 (entl as ++ List.replicate (n - (entl as).length) none))
  rw [lo_ent, hml]
  exact hl
section CALLS
variable {K : JK} {cc : ByteArray} {nL : Nat} {own : String} {pc : Nat} {l : List (Option WV)} {rest : List WV} {σ : St} {n1 n2 : Nat}
theorem J_back (hC : Cx K cc nL own) {mc ms : Nat} {st0 : List Value} {P : Option WV → St → Prop} {a : Array Value} {H : Heap} {locs : List Loc} {ls : Array Slot}
    (hr : va_Run (kP K) (kL K) (kE K) (kRm K) (kS K) (kM K) (kAr K) (kBe K) (kMe K) (kCo K) H locs n1 n2 mc ms (F0 (kM K) pc ls st0) (rest.map (den σ)) (QG (kD K) (kC K) σ P (va_A (WL (kC K) σ) H.size) a) (va_A (WL (kC K) σ) H.size))
    (hw : Wd K H locs σ) (hl : Lc K ls l σ) (ho : ∀ v ∈ rest, okv σ v) (kk : ∀ v σ', P v σ' → J K (pc + 3) l (v.toList ++ rest) σ' (n1 + mc) (n2 + ms)) : WJ K H locs n1 n2 (F0 (kM K) pc ls st0) := by
  have hF : ∀ q, va_A (WL (kC K) σ) H.size q → kA K q := by
    intro q h
    rcases h with ⟨k, e, h⟩ | h
    · exact hw.2.1.2 k (q, e) h
    · exact hC.2.2.2.2.2.2.1 q (Nat.le_trans hw.2.2.2.2.1 h)
  intro T hT X
  obtain ⟨v, st₀, t, T', L, h0, X', hL, e1, e2, ⟨⟨w, σ', hv, hp, he, hT', hok, hP, hD⟩, hz, hk⟩, stp⟩ := hr T hT X
  cases hv
  rw [h0] at hz hk
  have hS : va_S (kA K) (kS K).heap T'.heap (locs ++ L) := ⟨Nat.le_trans hw.2.2.2.2.1 (by rw [e1]; exact hz), fun q h1 h2 => by rw [e1, hk q (Nat.lt_of_lt_of_le h1 hw.2.2.2.2.1) (fun z => h2 (hF q z))]; exact hw.2.2.2.2.2.1 q h1 h2, fun q hq => by
      rcases List.mem_append.mp hq with h | h
      · exact hw.2.2.2.2.2.2 q h
      · exact hF _ (hL q h)⟩
  have hw' : Wd K T'.heap (locs ++ L) σ' := ⟨by rw [e1]; exact hP, hD.weaken (fun k q _ h => hF q.1 h), hT', hw.2.2.2.1.tr he, hS⟩
  have hst := st_ext ho he
  have hok2 : ∀ v ∈ w.toList ++ rest, okv σ' v := by
    intro v hv
    rcases List.mem_append.mp hv with h | h
    · cases w with
      | none => cases h
      | some w => rcases List.mem_singleton.mp h; exact hok _ rfl
    · exact hst.2 v h
  obtain ⟨t2, a1, b1⟩ := kk w σ' hp T'.heap (locs ++ L) ls hw' (hl.ext he) hok2 T' rfl X'
  refine ⟨t2, stp t2 ?_, b1⟩
  rw [List.map_append, hst.1] at a1
  cases w with
  | none => exact a1
  | some w => exact a1
theorem MT.blind {D : va_G} {aC : Nat → ClassId} {sz : Nat} {av : List Value} {σ : St} : FrameBlind (va_Pc av (fun U => U.heap.size = sz ∧ va_P D vwCl (WL aC σ) U.heap ∧ va_K D vwCl (tysA aC) U ∧ va_D (fun _ => True) (WL aC σ) ∧ NW U)) := by
  intro a U g mk q
  obtain ⟨q0, q1, qP, qK, qD, qN⟩ := q
  exact ⟨q0, q1, qP, va_K.moved (u := U) (U := U.calling g mk a) (Vm.Alike.refl U.vm) qK, qD, qN⟩
theorem pre_ok (hC : Cx K cc nL own) {H : Heap} {locs : List Loc} (hw : Wd K H locs σ) {av : List Value} (U : State) (hU : U.heap = H) (hW : (kS K).WarmedH U.vm) : va_Pc av (fun U => U.heap.size = H.size ∧ va_P (kD K) vwCl (WL (kC K) σ) U.heap ∧ va_K (kD K) vwCl (tysA (kC K)) U ∧ va_D (fun _ => True) (WL (kC K) σ) ∧ NW U) av.toArray U :=
  ⟨rfl, by rw [hU], by rw [hU]; exact hw.1, va_K.moved hW.alike hC.2.2.2.2.2.1, hw.2.1.weaken (fun _ _ _ _ => trivial), NW.warm hW hC.2.2.2.2.2.2.2.2⟩
theorem recv_ok (hC : Cx K cc nL own) {H : Heap} {locs : List Loc} (hw : Wd K H locs σ) {k a ci : Nat} {q : vw_C} (hm : (k, a) ∈ σ.2.1) (ht : aTy k a = 0) (hci : oCi k a = ci) (hcl : vwCl[ci]? = some q) : ∃ cell : Cell, H[σ.1 k a]? = some cell ∧ cell.vm.isStatics = false ∧ (kS K).vm.findClass q.1 = some cell.cls := by
  obtain ⟨p, hq, hp⟩ := wd_place hw hm
  rw [cell_obj ht, hci] at hp
  exact va_recv hC.2.2.2.2.2.1 hw.1 hcl hp
theorem wcat_sum (σ : St) (rest : List WV) : ((rest.map (den σ)).map fun v => v.category).sum = (rest.map wcat).sum := by
  rw [List.map_map]
  exact congrArg List.sum (List.map_congr_left fun v _ => den_cat σ v)
theorem goodG {y : MethodName} {b : ByteArray} {n : Nat} {ret : Option FieldType} (h : Cond.code y b n ret ∈ wsG) : GoodIn wsG (Cond.code y b n ret :: wsG) := by
  intro w hw
  rcases List.mem_cons.mp hw with rfl | hw
  · exact wsG_self _ h
  · exact wsG_self w hw
theorem goodL {ws xs : List Cond} (h : GoodIn wsG ws) (hx : ∀ w ∈ xs, w ∈ wsG) : GoodIn wsG (xs ++ ws) := by
  intro w hw
  rcases List.mem_append.mp hw with hw | hw
  · exact wsG_self w (hx w hw)
  · exact h w hw
/-- a call of a method of the receiver's own class -/
theorem r_callV (hC : Cx K cc nL own) {y : MethodName} {b : ByteArray} {n nA idx k a ci : Nat} {ret : Option FieldType} {rm : Room} {As st : List WV} {P : Option WV → St → Prop} {C : String} {q : vw_C}
    (hM : MT (kL K) y b n ret rm (wr k (some a) :: As) σ P) (h50 : k ≠ 50) (ht : aTy k a = 0) (hci : oCi k a = ci) (hcl : vwCl[ci]? = some q) (hq : q.1 = C)
    (w1 : Cond.methodLink own idx y ∈ wsG) (w2 : Cond.instanceMethod y ∈ wsG) (w3 : Cond.selects C y y ∈ wsG) (w4 : Cond.initialized C ∈ wsG) (w5 : Cond.code y b n ret ∈ wsG)
    (hy : y.cls = C ∧ y.cls ≠ "java/lang/invoke/MethodHandle" ∧ y.cls ≠ "java/lang/invoke/VarHandle" ∧ (parseMethodDescriptor y.desc).map (fun d => d.parameters.length) = some nA) (hn : As.length = nA)
    (hR : rm.frames + 1 ≤ (kRm K).frames ∧ 8 + (n + 11) + rm.locals ≤ (kRm K).locals) (hR2 : n1 + rm.cells ≤ (kRm K).cells ∧ n2 + rm.slots ≤ (kRm K).slots)
    (hst : st = As.reverse ++ wr k (some a) :: rest) (hcat : (rest.map wcat).sum ≤ 8) (hd : decode cc pc = .ok (.invokevirtual idx, 3))
    (kk : ∀ v σ', P v σ' → J K (pc + 3) l (v.toList ++ rest) σ' (n1 + rm.cells) (n2 + rm.slots)) : J K pc l st σ n1 n2 := by
  subst hst
  subst hq
  intro H locs ls hw hl ho
  have ho1 : ∀ v ∈ wr k (some a) :: rest, okv σ v := fun v hv => ho v (List.mem_append_right _ hv)
  have hm := ok_tag (okc ho1).1 h50
  have hM' := hM hw.2.2.1 (okc2 (okc ho1).1 (fun v hv => ho v (List.mem_append_left _ (List.mem_reverse.mpr hv)))) (kD K) (kC K) H.size
  have hG : GoodIn wsG (wsV own idx q.1 y (Cond.code y b n ret :: wsG)) := goodL (goodG w5) (by
    intro w hw
    simp only [List.mem_cons, List.not_mem_nil, or_false] at hw
    rcases hw with rfl | rfl | rfl | rfl
    · exact w1
    · exact w2
    · exact w3
    · exact w4)
  refine J_back hC (va_runV (C := q.1) (As := As.map (den σ)) (rest := rest.map (den σ)) (b := σ.1 k a) ⟨hC.1, hC.2.1, hC.2.2.1, hC.2.2.2.1, hC.2.2.2.2.1⟩ hM' (cwV nA hC.2.2.2.2.1 hG rfl rfl rfl hy hR) ⟨MT.blind, recv_ok hC hw hm ht hci hcl, fun U hU hW => pre_ok hC hw (av := (wr k (some a) :: As).map (den σ)) U hU hW⟩ rfl (by rw [List.length_map]; exact hn) (by rw [← hC.2.2.1]; exact hl.1.1) (by rw [List.map_append, List.map_reverse]; rfl) (lv_room (by rw [wcat_sum]; exact hcat)) hd hR2) hw hl (okc ho1).2 kk
/-- a call of an inherited method, or of one by a class above the receiver's -/
theorem r_callU (hC : Cx K cc nL own) {x y : MethodName} {b : ByteArray} {n nA idx k a ci : Nat} {ret : Option FieldType} {rm : Room} {As st : List WV} {P : Option WV → St → Prop} {C owner : String} {q : vw_C}
    (hM : MT (kL K) y b n ret rm (wr k (some a) :: As) σ P) (h50 : k ≠ 50) (ht : aTy k a = 0) (hci : oCi k a = ci) (hcl : vwCl[ci]? = some q) (hq : q.1 = C)
    (w1 : Cond.methodLink own idx x ∈ wsG) (w2 : Cond.sameMethod x.cls owner x.name x.desc ∈ wsG) (w3 : Cond.selects C x y ∈ wsG) (w4 : Cond.instanceMethod y ∈ wsG) (w5 : Cond.initialized y.cls ∈ wsG) (w6 : Cond.code y b n ret ∈ wsG) (hyx : y = ⟨owner, x.name, x.desc⟩)
    (hy : owner ≠ "java/lang/invoke/MethodHandle" ∧ owner ≠ "java/lang/invoke/VarHandle" ∧ (parseMethodDescriptor x.desc).map (fun d => d.parameters.length) = some nA) (hn : As.length = nA)
    (hR : rm.frames + 1 ≤ (kRm K).frames ∧ 8 + (n + 11) + rm.locals ≤ (kRm K).locals) (hR2 : n1 + rm.cells ≤ (kRm K).cells ∧ n2 + rm.slots ≤ (kRm K).slots)
    (hst : st = As.reverse ++ wr k (some a) :: rest) (hcat : (rest.map wcat).sum ≤ 8) (hd : decode cc pc = .ok (.invokevirtual idx, 3))
    (kk : ∀ v σ', P v σ' → J K (pc + 3) l (v.toList ++ rest) σ' (n1 + rm.cells) (n2 + rm.slots)) : J K pc l st σ n1 n2 := by
  subst hst
  subst hq
  intro H locs ls hw hl ho
  have ho1 : ∀ v ∈ wr k (some a) :: rest, okv σ v := fun v hv => ho v (List.mem_append_right _ hv)
  have hm := ok_tag (okc ho1).1 h50
  have hM' := hM hw.2.2.1 (okc2 (okc ho1).1 (fun v hv => ho v (List.mem_append_left _ (List.mem_reverse.mpr hv)))) (kD K) (kC K) H.size
  have hG : GoodIn wsG (va_wsU own idx q.1 owner x y (Cond.code y b n ret :: wsG)) := goodL (goodG w6) (by
    intro w hw
    simp only [List.mem_cons, List.not_mem_nil, or_false] at hw
    rcases hw with rfl | rfl | rfl | rfl | rfl
    · exact w1
    · exact w2
    · exact w3
    · exact w4
    · exact w5)
  refine J_back hC (va_runU (C := q.1) (owner := owner) (As := As.map (den σ)) (rest := rest.map (den σ)) (b := σ.1 k a) ⟨hC.1, hC.2.1, hC.2.2.1, hC.2.2.2.1, hC.2.2.2.2.1⟩ hM' (va_cwU nA hC.2.2.2.2.1 hG rfl rfl rfl hyx hy hR) ⟨MT.blind, recv_ok hC hw hm ht hci hcl, fun U hU hW => pre_ok hC hw (av := (wr k (some a) :: As).map (den σ)) U hU hW⟩ rfl (by rw [List.length_map]; exact hn) (by rw [← hC.2.2.1]; exact hl.1.1) (by rw [List.map_append, List.map_reverse]; rfl) (lv_room (by rw [wcat_sum]; exact hcat)) hd hR2) hw hl (okc ho1).2 kk
theorem r_callS (hC : Cx K cc nL own) {y : MethodName} {b : ByteArray} {n nA idx : Nat} {ret : Option FieldType} {rm : Room} {As st : List WV} {P : Option WV → St → Prop}
    (hM : MT (kL K) y b n ret rm As σ P) (w1 : Cond.methodLink own idx y ∈ wsG) (w2 : Cond.static y ∈ wsG) (w4 : Cond.initialized y.cls ∈ wsG) (w5 : Cond.code y b n ret ∈ wsG)
    (hy : y.cls ≠ "java/lang/invoke/MethodHandle" ∧ y.cls ≠ "java/lang/invoke/VarHandle" ∧ (parseMethodDescriptor y.desc).map (fun d => d.parameters.length) = some nA) (hn : As.length = nA)
    (hR : rm.frames + 1 ≤ (kRm K).frames ∧ 8 + (n + 11) + rm.locals ≤ (kRm K).locals) (hR2 : n1 + rm.cells ≤ (kRm K).cells ∧ n2 + rm.slots ≤ (kRm K).slots)
    (hst : st = As.reverse ++ rest) (hcat : (rest.map wcat).sum ≤ 8) (hd : decode cc pc = .ok (.invokestatic idx, 3))
    (kk : ∀ v σ', P v σ' → J K (pc + 3) l (v.toList ++ rest) σ' (n1 + rm.cells) (n2 + rm.slots)) : J K pc l st σ n1 n2 := by
  subst hst
  intro H locs ls hw hl ho
  have ho1 : ∀ v ∈ rest, okv σ v := fun v hv => ho v (List.mem_append_right _ hv)
  have hM' := hM hw.2.2.1 (fun v hv => ho v (List.mem_append_left _ (List.mem_reverse.mpr hv))) (kD K) (kC K) H.size
  have hG : GoodIn wsG (va_wsS own idx y (Cond.code y b n ret :: wsG)) := goodL (goodG w5) (by
    intro w hw
    simp only [List.mem_cons, List.not_mem_nil, or_false] at hw
    rcases hw with rfl | rfl | rfl
    · exact w1
    · exact w2
    · exact w4)
  exact J_back hC (va_runS (As := As.map (den σ)) (rest := rest.map (den σ)) ⟨hC.1, hC.2.1, hC.2.2.1, hC.2.2.2.1, hC.2.2.2.2.1⟩ hM' (va_cwS nA hC.2.2.2.2.1 hG rfl rfl rfl hy hR) ⟨MT.blind, fun U hU hW => pre_ok hC hw (av := As.map (den σ)) U hU hW⟩ rfl (by rw [List.length_map]; exact hn) (by rw [← hC.2.2.1]; exact hl.1.1) (by rw [List.map_append, List.map_reverse]) (lv_room (by rw [wcat_sum]; exact hcat)) hd hR2) hw hl ho1 kk
theorem r_callSN (hC : Cx K cc nL own) {y : MethodName} {b : ByteArray} {n nA idx : Nat} {ret : Option FieldType} {rm : Room} {As st : List WV} {P : Option WV → St → Prop} {host : String}
    (hM : MT (kL K) y b n ret rm As σ P) (w1 : (own, idx, y, host) ∈ nestW) (w2 : Cond.static y ∈ wsG) (w4 : Cond.initialized y.cls ∈ wsG) (w5 : Cond.code y b n ret ∈ wsG)
    (hy : y.cls ≠ "java/lang/invoke/MethodHandle" ∧ y.cls ≠ "java/lang/invoke/VarHandle" ∧ (parseMethodDescriptor y.desc).map (fun d => d.parameters.length) = some nA) (hn : As.length = nA)
    (hR : rm.frames + 1 ≤ (kRm K).frames ∧ 8 + (n + 11) + rm.locals ≤ (kRm K).locals) (hR2 : n1 + rm.cells ≤ (kRm K).cells ∧ n2 + rm.slots ≤ (kRm K).slots)
    (hst : st = As.reverse ++ rest) (hcat : (rest.map wcat).sum ≤ 8) (hd : decode cc pc = .ok (.invokestatic idx, 3))
    (kk : ∀ v σ', P v σ' → J K (pc + 3) l (v.toList ++ rest) σ' (n1 + rm.cells) (n2 + rm.slots)) : J K pc l st σ n1 n2 := by
  subst hst
  intro H locs ls hw hl ho
  have ho1 : ∀ v ∈ rest, okv σ v := fun v hv => ho v (List.mem_append_right _ hv)
  have hM' := hM hw.2.2.1 (fun v hv => ho v (List.mem_append_left _ (List.mem_reverse.mpr hv))) (kD K) (kC K) H.size
  exact J_back hC (va_runSN (host := host) (As := As.map (den σ)) (rest := rest.map (den σ)) ⟨hC.1, hC.2.1, hC.2.2.1, hC.2.2.2.1, hC.2.2.2.2.1⟩ hM' ⟨va_cnB nA hC.2.2.2.2.1 (goodG w5) rfl rfl rfl (hC.2.2.2.2.2.2.2.2.1 _ w1) (hC.2.2.2.2.1 _ w4) hy hR, hC.2.2.2.2.1 _ w2, trivial⟩ ⟨MT.blind, fun U hU hW => pre_ok hC hw (av := As.map (den σ)) U hU hW⟩ rfl (by rw [List.length_map]; exact hn) (by rw [← hC.2.2.1]; exact hl.1.1) (by rw [List.map_append, List.map_reverse]) (lv_room (by rw [wcat_sum]; exact hcat)) hd hR2) hw hl ho1 kk
/-- ends -/
theorem ret_ok {H : Heap} {locs : List Loc} {P : Option WV → St → Prop} {v : Option WV} (hw : Wd K H locs σ) (hp : P v σ) (hv : ∀ w, v = some w → okv σ w) {t : State} (ht : t.heap = H) : QG (kD K) (kC K) (k0 K) P (kA K) (kAr K) (kS K) (.returned (v.map (den σ))) t :=
  ⟨⟨v, σ, rfl, hp, hw.2.2.2.1, hw.2.2.1, hv, by rw [ht]; exact hw.1, hw.2.1⟩, hw.2.2.2.2.F ht⟩
theorem r_ireturn (hC : Cx K cc nL own) {P : Option WV → St → Prop} (hM : Mx K (some .int) P) {x : Int} (hp : P (some (wi x)) σ) (h1 : n1 ≤ (kRm K).cells) (h2 : n2 ≤ (kRm K).slots) (hd : decode cc pc = .ok (.ireturn, 1)) : J K pc l [wi x] σ n1 n2 := by
  intro H locs ls hw hl ho
  refine W.widen h1 h2 ?_
  rw [hM.1]
  exact W.iret hC.1 hC.2.1 hM.2 (fun t ht hW => ret_ok hw hp (fun w h => by cases h; trivial) ht) hw.2.2.2.2.2.2 hd hC.2.2.2.2.2.2.2.1
theorem r_zreturn (hC : Cx K cc nL own) {P : Option WV → St → Prop} (hM : Mx K (some .boolean) P) {x : Int} (hx : x = 0 ∨ x = 1) (hp : P (some (wi x)) σ) (h1 : n1 ≤ (kRm K).cells) (h2 : n2 ≤ (kRm K).slots) (hd : decode cc pc = .ok (.ireturn, 1)) : J K pc l [wi x] σ n1 n2 := by
  intro H locs ls hw hl ho
  refine W.widen h1 h2 ?_
  rw [hM.1]
  exact W.zret hC.1 hC.2.1 hM.2 (by rcases hx with rfl | rfl <;> rfl) (fun t ht hW => ret_ok hw hp (fun w h => by cases h; trivial) ht) hw.2.2.2.2.2.2 hd hC.2.2.2.2.2.2.2.1
theorem r_vreturn (hC : Cx K cc nL own) {P : Option WV → St → Prop} (hM : Mx K none P) (hp : P none σ) (h1 : n1 ≤ (kRm K).cells) (h2 : n2 ≤ (kRm K).slots) (hd : decode cc pc = .ok (.return_, 1)) : J K pc l [] σ n1 n2 := by
  intro H locs ls hw hl ho
  refine W.widen h1 h2 ?_
  rw [hM.1]
  exact W.vret hC.1 hC.2.1 hM.2 (fun t ht hW => ret_ok (v := none) hw hp (fun w h => by cases h) ht) hw.2.2.2.2.2.2 hd hC.2.2.2.2.2.2.2.1
theorem r_lreturn (hC : Cx K cc nL own) {P : Option WV → St → Prop} (hM : Mx K (some .long) P) {x : Int} (hp : P (some (wl x)) σ) (h1 : n1 ≤ (kRm K).cells) (h2 : n2 ≤ (kRm K).slots) (hd : decode cc pc = .ok (.lreturn, 1)) : J K pc l [wl x] σ n1 n2 := by
  intro H locs ls hw hl ho
  refine W.widen h1 h2 ?_
  rw [hM.1]
  exact W.lret hC.1 hC.2.1 hM.2 (fun t ht hW => ret_ok hw hp (fun w h => by cases h; trivial) ht) hw.2.2.2.2.2.2 hd hC.2.2.2.2.2.2.2.1
theorem r_areturn (hC : Cx K cc nL own) {P : Option WV → St → Prop} {nme : String} (hM : Mx K (some (.object nme)) P) {kd : Nat} {x : Option Nat} (hp : P (some (wr kd x)) σ) (h1 : n1 ≤ (kRm K).cells) (h2 : n2 ≤ (kRm K).slots) (hd : decode cc pc = .ok (.areturn, 1)) : J K pc l [wr kd x] σ n1 n2 := by
  intro H locs ls hw hl ho
  refine W.widen h1 h2 ?_
  rw [hM.1]
  exact W.aret hC.1 hC.2.1 hM.2 (Or.inl ⟨_, rfl⟩) (by cases x with | none => exact Or.inl rfl | some a => exact Or.inr ⟨_, rfl⟩) (fun t ht hW => ret_ok hw hp (fun w h => by cases h; exact (okc ho).1) ht) hw.2.2.2.2.2.2 hd hC.2.2.2.2.2.2.2.1
end CALLS
