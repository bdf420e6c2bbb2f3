/-! BASE 3: a row an instruction, for the judgement -/
theorem i32_of (x : Int32) : Int32.ofInt x.toInt = x := Int32.ofInt_toInt x
theorem i64_of (x : Int64) : Int64.ofInt x.toInt = x := Int64.ofInt_toInt x
theorem nm_eq0 {x : Int} : Int32.ofInt x = 0 ↔ nm x = 0 := by
  rw [← Int32.toInt_inj]; rfl
theorem nm_eq2 {x y : Int} : Int32.ofInt x = Int32.ofInt y ↔ nm x = nm y := by
  rw [← Int32.toInt_inj]; rfl
theorem nm_lt2 {x y : Int} : Int32.ofInt x < Int32.ofInt y ↔ nm x < nm y := Int32.lt_iff_toInt_lt
theorem nm_le2 {x y : Int} : Int32.ofInt x ≤ Int32.ofInt y ↔ nm x ≤ nm y := Int32.le_iff_toInt_le
theorem nm_lt0 {x : Int} : Int32.ofInt x < 0 ↔ nm x < 0 := Int32.lt_iff_toInt_lt
theorem nm_0lt {x : Int} : 0 < Int32.ofInt x ↔ 0 < nm x := Int32.lt_iff_toInt_lt
theorem nm_le0 {x : Int} : Int32.ofInt x ≤ 0 ↔ nm x ≤ 0 := Int32.le_iff_toInt_le
theorem nm_0le {x : Int} : 0 ≤ Int32.ofInt x ↔ 0 ≤ nm x := Int32.le_iff_toInt_le
theorem nm_rng (x : Int) : -2147483648 ≤ nm x ∧ nm x < 2147483648 := by
  have h1 := Int32.le_toInt (Int32.ofInt x)
  have h2 := Int32.toInt_lt (Int32.ofInt x)
  unfold nm
  omega
section ROWS
variable {K : JK} {cc : ByteArray} {nL : Nat} {own : String} {pc : Nat} {l : List (Option WV)} {st : List WV} {σ : St} {n1 n2 : Nat}
theorem r_iconst (hC : Cx K cc nL own) {n : Int} (hd : decode cc pc = .ok (.iconst n, 1)) (k : J K (pc + 1) l (wi n :: st) σ n1 n2) : J K pc l st σ n1 n2 := by
  intro H locs ls hw hl ho
  exact lv_iconst hC.1 hC.2.1 hd rfl (k H locs ls hw hl (okc2 trivial ho))
theorem r_bipush (hC : Cx K cc nL own) {n : Int} (hd : decode cc pc = .ok (.bipush n, 2)) (hv : (Int8.ofInt n).toInt32 = Int32.ofInt n) (k : J K (pc + 2) l (wi n :: st) σ n1 n2) : J K pc l st σ n1 n2 := by
  intro H locs ls hw hl ho
  exact lv_bipush hC.1 hC.2.1 hd hv (k H locs ls hw hl (okc2 trivial ho))
theorem r_sipush (hC : Cx K cc nL own) {n : Int} (hd : decode cc pc = .ok (.sipush n, 3)) (hv : (Int16.ofInt n).toInt32 = Int32.ofInt n) (k : J K (pc + 3) l (wi n :: st) σ n1 n2) : J K pc l st σ n1 n2 := by
  intro H locs ls hw hl ho
  exact lv_sipush hC.1 hC.2.1 hd hv (k H locs ls hw hl (okc2 trivial ho))
theorem r_lconst (hC : Cx K cc nL own) {n : Fin 2} (v : Int) (hv : Int64.ofNat (n : Nat) = Int64.ofInt v) (hd : decode cc pc = .ok (.lconst n, 1)) (k : J K (pc + 1) l (wl v :: st) σ n1 n2) : J K pc l st σ n1 n2 := by
  intro H locs ls hw hl ho
  exact lv_lconst hC.1 hC.2.1 hd hv (k H locs ls hw hl (okc2 trivial ho))
theorem r_ldc (hC : Cx K cc nL own) {idx : Nat} (v : Int) {c : Int32} (hw : Cond.constant own idx c ∈ wsG) (hv : c = Int32.ofInt v) (hd : decode cc pc = .ok (.ldc idx, 2)) (k : J K (pc + 2) l (wi v :: st) σ n1 n2) : J K pc l st σ n1 n2 := by
  subst hv
  intro H locs ls hw' hl ho
  exact lv_ldc hC.1 hC.2.1 hC.2.2.2.1 (hC.2.2.2.2.1 _ hw) hd (k H locs ls hw' hl (okc2 trivial ho))
theorem r_ldc2 (hC : Cx K cc nL own) {idx : Nat} (v : Int) {c : Int64} (hw : Cond.constantLong own idx c ∈ wsG) (hv : c = Int64.ofInt v) (hd : decode cc pc = .ok (.ldc2_w idx, 3)) (k : J K (pc + 3) l (wl v :: st) σ n1 n2) : J K pc l st σ n1 n2 := by
  subst hv
  intro H locs ls hw' hl ho
  exact lv_ldc2 hC.1 hC.2.1 hC.2.2.2.1 (hC.2.2.2.2.1 _ hw) hd (k H locs ls hw' hl (okc2 trivial ho))
theorem r_null (hC : Cx K cc nL own) (kd : Nat) (hd : decode cc pc = .ok (.aconst_null, 1)) (k : J K (pc + 1) l (wr kd none :: st) σ n1 n2) : J K pc l st σ n1 n2 := by
  intro H locs ls hw hl ho
  exact lv_null hC.1 hC.2.1 hd (k H locs ls hw hl (okc2 trivial ho))
theorem r_iload_n (hC : Cx K cc nL own) {i : Fin 4} {x : Int} (hd : decode cc pc = .ok (.iload_n i, 1)) (hi : l[(i : Nat)]? = some (some (wi x))) (k : J K (pc + 1) l (wi x :: st) σ n1 n2) : J K pc l st σ n1 n2 := by
  intro H locs ls hw hl ho
  exact lv_iload_n hC.1 hC.2.1 hd rfl (lo_at hl.1 hi) (k H locs ls hw hl (okc2 trivial ho))
theorem r_iload (hC : Cx K cc nL own) {i : Nat} {x : Int} (hd : decode cc pc = .ok (.iload i, 2)) (hi : l[i]? = some (some (wi x))) (k : J K (pc + 2) l (wi x :: st) σ n1 n2) : J K pc l st σ n1 n2 := by
  intro H locs ls hw hl ho
  exact lv_iload hC.1 hC.2.1 hd (lo_at hl.1 hi) (k H locs ls hw hl (okc2 trivial ho))
theorem r_lload_n (hC : Cx K cc nL own) {i : Fin 4} {x : Int} (hd : decode cc pc = .ok (.lload_n i, 1)) (hi : l[(i : Nat)]? = some (some (wl x))) (k : J K (pc + 1) l (wl x :: st) σ n1 n2) : J K pc l st σ n1 n2 := by
  intro H locs ls hw hl ho
  exact lv_lload_n hC.1 hC.2.1 hd rfl (lo_at hl.1 hi) (k H locs ls hw hl (okc2 trivial ho))
theorem r_lload (hC : Cx K cc nL own) {i : Nat} {x : Int} (hd : decode cc pc = .ok (.lload i, 2)) (hi : l[i]? = some (some (wl x))) (k : J K (pc + 2) l (wl x :: st) σ n1 n2) : J K pc l st σ n1 n2 := by
  intro H locs ls hw hl ho
  exact lv_lload hC.1 hC.2.1 hd (lo_at hl.1 hi) (k H locs ls hw hl (okc2 trivial ho))
theorem r_aload_n (hC : Cx K cc nL own) {i : Fin 4} {kd : Nat} {x : Option Nat} (hd : decode cc pc = .ok (.aload_n i, 1)) (hi : l[(i : Nat)]? = some (some (wr kd x))) (k : J K (pc + 1) l (wr kd x :: st) σ n1 n2) : J K pc l st σ n1 n2 := by
  intro H locs ls hw hl ho
  have h1 := lo_at hl.1 hi
  have h2 := k H locs ls hw hl (okc2 (hl.2 _ (List.mem_of_getElem? hi)) ho)
  cases x with
  | none => exact lv_aload_nN hC.1 hC.2.1 hd rfl h1 h2
  | some a => exact lv_aload_n hC.1 hC.2.1 hd rfl h1 h2
theorem r_aload (hC : Cx K cc nL own) {i : Nat} {kd : Nat} {x : Option Nat} (hd : decode cc pc = .ok (.aload i, 2)) (hi : l[(i : Nat)]? = some (some (wr kd x))) (k : J K (pc + 2) l (wr kd x :: st) σ n1 n2) : J K pc l st σ n1 n2 := by
  intro H locs ls hw hl ho
  have h1 := lo_at hl.1 hi
  have h2 := k H locs ls hw hl (okc2 (hl.2 _ (List.mem_of_getElem? hi)) ho)
  cases x with
  | none => exact lv_aloadN hC.1 hC.2.1 hd h1 h2
  | some a => exact lv_aload hC.1 hC.2.1 hd h1 h2
theorem r_istore_n (hC : Cx K cc nL own) {i : Fin 4} {x : Int} {l' : List (Option WV)} (hd : decode cc pc = .ok (.istore_n i, 1)) (hn : nlong l (i : Nat) = true) (hlt : (i : Nat) < nL) (hl' : l.set (i : Nat) (some (wi x)) = l') (k : J K (pc + 1) l' st σ n1 n2) : J K pc l (wi x :: st) σ n1 n2 := by
  subst hl'
  intro H locs ls hw hl ho
  refine lv_istore_n hC.1 hC.2.1 hd rfl hl.1 (by rw [hC.2.2.1]; exact hlt) rfl (fun ls' hl' => ?_)
  exact k H locs ls' hw (hl.set1 (v := wi x) trivial (lo_set1 (v := wi x) hn hl')) (okc ho).2
theorem r_istore (hC : Cx K cc nL own) {i : Nat} {x : Int} {l' : List (Option WV)} (hd : decode cc pc = .ok (.istore i, 2)) (hn : nlong l (i : Nat) = true) (hlt : (i : Nat) < nL) (hl' : l.set (i : Nat) (some (wi x)) = l') (k : J K (pc + 2) l' st σ n1 n2) : J K pc l (wi x :: st) σ n1 n2 := by
  subst hl'
  intro H locs ls hw hl ho
  refine lv_istore hC.1 hC.2.1 hd hl.1 (by rw [hC.2.2.1]; exact hlt) rfl (fun ls' hl' => ?_)
  exact k H locs ls' hw (hl.set1 (v := wi x) trivial (lo_set1 (v := wi x) hn hl')) (okc ho).2
theorem r_lstore_n (hC : Cx K cc nL own) {i : Fin 4} {x : Int} {l' : List (Option WV)} (hd : decode cc pc = .ok (.lstore_n i, 1)) (hn : nlong l (i : Nat) = true) (hlt : (i : Nat) + 1 < nL) (hl' : (l.set (i : Nat) (some (wl x))).set ((i : Nat) + 1) none = l') (k : J K (pc + 1) l' st σ n1 n2) : J K pc l (wl x :: st) σ n1 n2 := by
  subst hl'
  intro H locs ls hw hl ho
  refine lv_lstore_n hC.1 hC.2.1 hd rfl hl.1 (by rw [hC.2.2.1]; exact hlt) rfl (fun ls' hl' => ?_)
  exact k H locs ls' hw (hl.set2 (v := wl x) trivial (lo_set2 (v := wl x) hn hl')) (okc ho).2
theorem r_lstore (hC : Cx K cc nL own) {i : Nat} {x : Int} {l' : List (Option WV)} (hd : decode cc pc = .ok (.lstore i, 2)) (hn : nlong l (i : Nat) = true) (hlt : (i : Nat) + 1 < nL) (hl' : (l.set (i : Nat) (some (wl x))).set ((i : Nat) + 1) none = l') (k : J K (pc + 2) l' st σ n1 n2) : J K pc l (wl x :: st) σ n1 n2 := by
  subst hl'
  intro H locs ls hw hl ho
  refine lv_lstore hC.1 hC.2.1 hd hl.1 (by rw [hC.2.2.1]; exact hlt) rfl (fun ls' hl' => ?_)
  exact k H locs ls' hw (hl.set2 (v := wl x) trivial (lo_set2 (v := wl x) hn hl')) (okc ho).2
theorem r_astore_n (hC : Cx K cc nL own) {i : Fin 4} {kd : Nat} {x : Option Nat} {l' : List (Option WV)} (hd : decode cc pc = .ok (.astore_n i, 1)) (hn : nlong l (i : Nat) = true) (hlt : (i : Nat) < nL) (hl' : l.set (i : Nat) (some (wr kd x)) = l') (k : J K (pc + 1) l' st σ n1 n2) : J K pc l (wr kd x :: st) σ n1 n2 := by
  subst hl'
  intro H locs ls hw hl ho
  cases x with
  | none =>
    refine lv_astore_nN hC.1 hC.2.1 hd rfl hl.1 (by rw [hC.2.2.1]; exact hlt) rfl (fun ls' hl' => ?_)
    exact k H locs ls' hw (hl.set1 (okc ho).1 (lo_set1 (v := wr kd none) hn hl')) (okc ho).2
  | some a =>
    refine lv_astore_n hC.1 hC.2.1 hd rfl hl.1 (by rw [hC.2.2.1]; exact hlt) rfl (fun ls' hl' => ?_)
    exact k H locs ls' hw (hl.set1 (okc ho).1 (lo_set1 (v := wr kd (some a)) hn hl')) (okc ho).2
theorem r_astore (hC : Cx K cc nL own) {i : Nat} {kd : Nat} {x : Option Nat} {l' : List (Option WV)} (hd : decode cc pc = .ok (.astore i, 2)) (hn : nlong l (i : Nat) = true) (hlt : (i : Nat) < nL) (hl' : l.set (i : Nat) (some (wr kd x)) = l') (k : J K (pc + 2) l' st σ n1 n2) : J K pc l (wr kd x :: st) σ n1 n2 := by
  subst hl'
  intro H locs ls hw hl ho
  cases x with
  | none =>
    refine lv_astoreN hC.1 hC.2.1 hd hl.1 (by rw [hC.2.2.1]; exact hlt) rfl (fun ls' hl' => ?_)
    exact k H locs ls' hw (hl.set1 (okc ho).1 (lo_set1 (v := wr kd none) hn hl')) (okc ho).2
  | some a =>
    refine lv_astore hC.1 hC.2.1 hd hl.1 (by rw [hC.2.2.1]; exact hlt) rfl (fun ls' hl' => ?_)
    exact k H locs ls' hw (hl.set1 (okc ho).1 (lo_set1 (v := wr kd (some a)) hn hl')) (okc ho).2
theorem r_iinc (hC : Cx K cc nL own) {i : Nat} {n : Int} {x : Int} {l' : List (Option WV)} (hd : decode cc pc = .ok (.iinc i n, 3)) (hi : l[i]? = some (some (wi x))) (hn : nlong l i = true) (hlt : i < nL) (hl' : l.set i (some (wi (x + n))) = l') (k : J K (pc + 3) l' st σ n1 n2) : J K pc l st σ n1 n2 := by
  subst hl'
  intro H locs ls hw hl ho
  have hm : (i, den σ (wi x)) ∈ lo σ 0 l := lo_mem.mpr ⟨i, wi x, hi, by simp⟩
  obtain ⟨kk, hkk⟩ := List.getElem?_of_mem hm
  refine lv_iinc hC.1 hC.2.1 hd hl.1 (x := Int32.ofInt x) (v := Int32.ofInt (x + n)) hkk (by rw [Int32.ofInt_add]) (by rw [hC.2.2.1]; exact hlt) rfl (fun ls' hl' => ?_)
  exact k H locs ls' hw (hl.set1 (v := wi (x + n)) trivial (lo_set1 (v := wi (x + n)) hn hl')) ho
theorem r_iadd (hC : Cx K cc nL own) {x y : Int} (hd : decode cc pc = .ok (.iadd, 1)) (k : J K (pc + 1) l (wi (x + y) :: st) σ n1 n2) : J K pc l (wi y :: wi x :: st) σ n1 n2 := by
  intro H locs ls hw hl ho
  have h := k H locs ls hw hl (okc2 trivial (okc (okc ho).2).2)
  have e : den σ (wi (x + y)) = .int (Int32.ofInt x + Int32.ofInt y) := by
    show Value.int (Int32.ofInt (x + y)) = _
    rw [Int32.ofInt_add]
  rw [List.map_cons, e] at h
  exact lv_iadd hC.1 hC.2.1 hd h
theorem r_isub (hC : Cx K cc nL own) {x y : Int} (hd : decode cc pc = .ok (.isub, 1)) (k : J K (pc + 1) l (wi (x - y) :: st) σ n1 n2) : J K pc l (wi y :: wi x :: st) σ n1 n2 := by
  intro H locs ls hw hl ho
  have h := k H locs ls hw hl (okc2 trivial (okc (okc ho).2).2)
  have e : den σ (wi (x - y)) = .int (Int32.ofInt x - Int32.ofInt y) := by
    show Value.int (Int32.ofInt (x - y)) = _
    rw [Int32.ofInt_sub]
  rw [List.map_cons, e] at h
  exact lv_isub hC.1 hC.2.1 hd h
theorem r_imul (hC : Cx K cc nL own) {x y : Int} (hd : decode cc pc = .ok (.imul, 1)) (k : J K (pc + 1) l (wi (x * y) :: st) σ n1 n2) : J K pc l (wi y :: wi x :: st) σ n1 n2 := by
  intro H locs ls hw hl ho
  have h := k H locs ls hw hl (okc2 trivial (okc (okc ho).2).2)
  have e : den σ (wi (x * y)) = .int (Int32.ofInt x * Int32.ofInt y) := by
    show Value.int (Int32.ofInt (x * y)) = _
    rw [Int32.ofInt_mul]
  rw [List.map_cons, e] at h
  exact lv_imul hC.1 hC.2.1 hd h
theorem r_iand (hC : Cx K cc nL own) {x y : Int} (hd : decode cc pc = .ok (.iand, 1)) (k : J K (pc + 1) l (wi (zand x y) :: st) σ n1 n2) : J K pc l (wi y :: wi x :: st) σ n1 n2 := by
  intro H locs ls hw hl ho
  have h := k H locs ls hw hl (okc2 trivial (okc (okc ho).2).2)
  have e : den σ (wi (zand x y)) = .int (Int32.ofInt x &&& Int32.ofInt y) := by
    show Value.int (Int32.ofInt (zand x y)) = _
    unfold zand; rw [i32_of]
  rw [List.map_cons, e] at h
  exact lv_iand hC.1 hC.2.1 hd h
theorem r_ior (hC : Cx K cc nL own) {x y : Int} (hd : decode cc pc = .ok (.ior, 1)) (k : J K (pc + 1) l (wi (zor x y) :: st) σ n1 n2) : J K pc l (wi y :: wi x :: st) σ n1 n2 := by
  intro H locs ls hw hl ho
  have h := k H locs ls hw hl (okc2 trivial (okc (okc ho).2).2)
  have e : den σ (wi (zor x y)) = .int (Int32.ofInt x ||| Int32.ofInt y) := by
    show Value.int (Int32.ofInt (zor x y)) = _
    unfold zor; rw [i32_of]
  rw [List.map_cons, e] at h
  exact lv_ior hC.1 hC.2.1 hd h
theorem r_ixor (hC : Cx K cc nL own) {x y : Int} (hd : decode cc pc = .ok (.ixor, 1)) (k : J K (pc + 1) l (wi (zxor x y) :: st) σ n1 n2) : J K pc l (wi y :: wi x :: st) σ n1 n2 := by
  intro H locs ls hw hl ho
  have h := k H locs ls hw hl (okc2 trivial (okc (okc ho).2).2)
  have e : den σ (wi (zxor x y)) = .int (Int32.ofInt x ^^^ Int32.ofInt y) := by
    show Value.int (Int32.ofInt (zxor x y)) = _
    unfold zxor; rw [i32_of]
  rw [List.map_cons, e] at h
  exact lv_ixor hC.1 hC.2.1 hd h
theorem r_idiv (hC : Cx K cc nL own) {x y : Int} (hd : decode cc pc = .ok (.idiv, 1)) (hne : ¬ Int32.ofInt y = 0) (k : J K (pc + 1) l (wi (zdiv x y) :: st) σ n1 n2) : J K pc l (wi y :: wi x :: st) σ n1 n2 := by
  intro H locs ls hw hl ho
  have h := k H locs ls hw hl (okc2 trivial (okc (okc ho).2).2)
  have e : den σ (wi (zdiv x y)) = .int (Int32.ofInt x / Int32.ofInt y) := by
    show Value.int (Int32.ofInt (zdiv x y)) = _
    unfold zdiv; rw [i32_of]
  rw [List.map_cons, e] at h
  exact lv_idiv hC.1 hC.2.1 hd hne h
theorem r_irem (hC : Cx K cc nL own) {x y : Int} (hd : decode cc pc = .ok (.irem, 1)) (hne : ¬ Int32.ofInt y = 0) (k : J K (pc + 1) l (wi (zrem x y) :: st) σ n1 n2) : J K pc l (wi y :: wi x :: st) σ n1 n2 := by
  intro H locs ls hw hl ho
  have h := k H locs ls hw hl (okc2 trivial (okc (okc ho).2).2)
  have e : den σ (wi (zrem x y)) = .int (Int32.ofInt x - Int32.ofInt x / Int32.ofInt y * Int32.ofInt y) := by
    show Value.int (Int32.ofInt (zrem x y)) = _
    unfold zrem; rw [i32_of]
  rw [List.map_cons, e] at h
  exact lv_irem hC.1 hC.2.1 hd hne h
theorem r_ladd (hC : Cx K cc nL own) {x y : Int} (hd : decode cc pc = .ok (.ladd, 1)) (k : J K (pc + 1) l (wl (x + y) :: st) σ n1 n2) : J K pc l (wl y :: wl x :: st) σ n1 n2 := by
  intro H locs ls hw hl ho
  have h := k H locs ls hw hl (okc2 trivial (okc (okc ho).2).2)
  have e : den σ (wl (x + y)) = .long (Int64.ofInt x + Int64.ofInt y) := by
    show Value.long (Int64.ofInt (x + y)) = _
    rw [Int64.ofInt_add]
  rw [List.map_cons, e] at h
  exact lv_ladd hC.1 hC.2.1 hd h
theorem r_land (hC : Cx K cc nL own) {x y : Int} (hd : decode cc pc = .ok (.land, 1)) (k : J K (pc + 1) l (wl (yand x y) :: st) σ n1 n2) : J K pc l (wl y :: wl x :: st) σ n1 n2 := by
  intro H locs ls hw hl ho
  have h := k H locs ls hw hl (okc2 trivial (okc (okc ho).2).2)
  have e : den σ (wl (yand x y)) = .long (Int64.ofInt x &&& Int64.ofInt y) := by
    show Value.long (Int64.ofInt (yand x y)) = _
    unfold yand; rw [i64_of]
  rw [List.map_cons, e] at h
  exact lv_land hC.1 hC.2.1 hd h
theorem r_lor (hC : Cx K cc nL own) {x y : Int} (hd : decode cc pc = .ok (.lor, 1)) (k : J K (pc + 1) l (wl (yor x y) :: st) σ n1 n2) : J K pc l (wl y :: wl x :: st) σ n1 n2 := by
  intro H locs ls hw hl ho
  have h := k H locs ls hw hl (okc2 trivial (okc (okc ho).2).2)
  have e : den σ (wl (yor x y)) = .long (Int64.ofInt x ||| Int64.ofInt y) := by
    show Value.long (Int64.ofInt (yor x y)) = _
    unfold yor; rw [i64_of]
  rw [List.map_cons, e] at h
  exact lv_lor hC.1 hC.2.1 hd h
theorem r_ishr (hC : Cx K cc nL own) {x y : Int} (hd : decode cc pc = .ok (.ishr, 1)) (k : J K (pc + 1) l (wi (zshr x y) :: st) σ n1 n2) : J K pc l (wi y :: wi x :: st) σ n1 n2 := by
  intro H locs ls hw hl ho
  have h := k H locs ls hw hl (okc2 trivial (okc (okc ho).2).2)
  have e : den σ (wi (zshr x y)) = .int (Int32.ofInt x >>> (Int32.ofInt y &&& 31)) := by
    show Value.int (Int32.ofInt (zshr x y)) = _
    unfold zshr; rw [i32_of]
  rw [List.map_cons, e] at h
  exact lv_ishr hC.1 hC.2.1 hd h
theorem r_lshl (hC : Cx K cc nL own) {x y : Int} (hd : decode cc pc = .ok (.lshl, 1)) (k : J K (pc + 1) l (wl (yshl x y) :: st) σ n1 n2) : J K pc l (wi y :: wl x :: st) σ n1 n2 := by
  intro H locs ls hw hl ho
  have h := k H locs ls hw hl (okc2 trivial (okc (okc ho).2).2)
  have e : den σ (wl (yshl x y)) = .long (Int64.ofInt x <<< ((Int32.ofInt y).toInt64 &&& 63)) := by
    show Value.long (Int64.ofInt (yshl x y)) = _
    unfold yshl; rw [i64_of]
  rw [List.map_cons, e] at h
  exact lv_lshl hC.1 hC.2.1 hd rfl h
theorem r_i2l (hC : Cx K cc nL own) {x : Int} (hd : decode cc pc = .ok (.i2l, 1)) (k : J K (pc + 1) l (wl (nm x) :: st) σ n1 n2) : J K pc l (wi x :: st) σ n1 n2 := by
  intro H locs ls hw hl ho
  have h := k H locs ls hw hl (okc2 trivial (okc ho).2)
  exact lv_i2l hC.1 hC.2.1 hd (v := Int64.ofInt (nm x)) (by rw [← Int64.toInt_inj, Int32.toInt_toInt64]; exact (Int64.toInt_ofInt_of_le (by have := nm_rng x; unfold nm at this; omega) (by have := nm_rng x; unfold nm at this; omega)).symm) h
theorem r_pop (hC : Cx K cc nL own) {v : WV} (hd : decode cc pc = .ok (.pop, 1)) (hv : wcat v = 1) (k : J K (pc + 1) l st σ n1 n2) : J K pc l (v :: st) σ n1 n2 := by
  intro H locs ls hw hl ho
  exact lv_pop hC.1 hC.2.1 hd ((den_cat σ v).trans hv) (k H locs ls hw hl (okc ho).2)
theorem r_dup (hC : Cx K cc nL own) {v : WV} (hd : decode cc pc = .ok (.dup, 1)) (hv : wcat v = 1) (k : J K (pc + 1) l (v :: v :: st) σ n1 n2) : J K pc l (v :: st) σ n1 n2 := by
  intro H locs ls hw hl ho
  exact lv_dup hC.1 hC.2.1 hd ((den_cat σ v).trans hv) (k H locs ls hw hl (okc2 (okc ho).1 ho))
theorem r_dup2 (hC : Cx K cc nL own) {v u : WV} (hd : decode cc pc = .ok (.dup2, 1)) (hv : wcat v = 1) (hu : wcat u = 1) (k : J K (pc + 1) l (v :: u :: v :: u :: st) σ n1 n2) : J K pc l (v :: u :: st) σ n1 n2 := by
  intro H locs ls hw hl ho
  exact lv_dup2_11 hC.1 hC.2.1 hd ((den_cat σ v).trans hv) ((den_cat σ u).trans hu) (k H locs ls hw hl (okc2 (okc ho).1 (okc2 (okc (okc ho).2).1 ho)))
theorem r_goto (hC : Cx K cc nL own) {off : Int} {tgt : Nat} (hd : decode cc pc = .ok (.goto off, 3)) (ht : (pc : Int) + off = (tgt : Int)) (k : J K tgt l st σ n1 n2) : J K pc l st σ n1 n2 := by
  intro H locs ls hw hl ho
  exact lv_goto hC.1 hC.2.1 hd ht (k H locs ls hw hl ho)
theorem r_if_eq (hC : Cx K cc nL own) {x : Int} {off : Int} {tgt : Nat} (hd : decode cc pc = .ok (.ifCond .eq off, 3)) (ht : (pc : Int) + off = (tgt : Int)) (kt : nm x = 0 → J K tgt l st σ n1 n2) (kf : nm x ≠ 0 → J K (pc + 3) l st σ n1 n2) : J K pc l (wi x :: st) σ n1 n2 := by
  intro H locs ls hw hl ho
  exact lv_if_eq hC.1 hC.2.1 hd ht (fun h => kt (nm_eq0.mp h) H locs ls hw hl (okc ho).2) (fun h => kf (fun z => h (nm_eq0.mpr z)) H locs ls hw hl (okc ho).2)
theorem r_if_ne (hC : Cx K cc nL own) {x : Int} {off : Int} {tgt : Nat} (hd : decode cc pc = .ok (.ifCond .ne off, 3)) (ht : (pc : Int) + off = (tgt : Int)) (kt : nm x ≠ 0 → J K tgt l st σ n1 n2) (kf : nm x = 0 → J K (pc + 3) l st σ n1 n2) : J K pc l (wi x :: st) σ n1 n2 := by
  intro H locs ls hw hl ho
  exact lv_if_ne hC.1 hC.2.1 hd ht (fun h => kt (fun z => h (nm_eq0.mpr z)) H locs ls hw hl (okc ho).2) (fun h => kf (nm_eq0.mp h) H locs ls hw hl (okc ho).2)
theorem r_if_lt (hC : Cx K cc nL own) {x : Int} {off : Int} {tgt : Nat} (hd : decode cc pc = .ok (.ifCond .lt off, 3)) (ht : (pc : Int) + off = (tgt : Int)) (kt : nm x < 0 → J K tgt l st σ n1 n2) (kf : 0 ≤ nm x → J K (pc + 3) l st σ n1 n2) : J K pc l (wi x :: st) σ n1 n2 := by
  intro H locs ls hw hl ho
  exact lv_if_lt hC.1 hC.2.1 hd ht (fun h => kt ((by rw [nm_lt0] at h; omega)) H locs ls hw hl (okc ho).2) (fun h => kf ((by rw [nm_lt0] at h; omega)) H locs ls hw hl (okc ho).2)
theorem r_if_ge (hC : Cx K cc nL own) {x : Int} {off : Int} {tgt : Nat} (hd : decode cc pc = .ok (.ifCond .ge off, 3)) (ht : (pc : Int) + off = (tgt : Int)) (kt : 0 ≤ nm x → J K tgt l st σ n1 n2) (kf : nm x < 0 → J K (pc + 3) l st σ n1 n2) : J K pc l (wi x :: st) σ n1 n2 := by
  intro H locs ls hw hl ho
  exact lv_if_ge hC.1 hC.2.1 hd ht (fun h => kt ((by rw [nm_0le] at h; omega)) H locs ls hw hl (okc ho).2) (fun h => kf ((by rw [nm_0le] at h; omega)) H locs ls hw hl (okc ho).2)
theorem r_if_gt (hC : Cx K cc nL own) {x : Int} {off : Int} {tgt : Nat} (hd : decode cc pc = .ok (.ifCond .gt off, 3)) (ht : (pc : Int) + off = (tgt : Int)) (kt : 0 < nm x → J K tgt l st σ n1 n2) (kf : nm x ≤ 0 → J K (pc + 3) l st σ n1 n2) : J K pc l (wi x :: st) σ n1 n2 := by
  intro H locs ls hw hl ho
  exact lv_if_gt hC.1 hC.2.1 hd ht (fun h => kt ((by rw [nm_0lt] at h; omega)) H locs ls hw hl (okc ho).2) (fun h => kf ((by rw [nm_0lt] at h; omega)) H locs ls hw hl (okc ho).2)
theorem r_if_le (hC : Cx K cc nL own) {x : Int} {off : Int} {tgt : Nat} (hd : decode cc pc = .ok (.ifCond .le off, 3)) (ht : (pc : Int) + off = (tgt : Int)) (kt : nm x ≤ 0 → J K tgt l st σ n1 n2) (kf : 0 < nm x → J K (pc + 3) l st σ n1 n2) : J K pc l (wi x :: st) σ n1 n2 := by
  intro H locs ls hw hl ho
  exact lv_if_le hC.1 hC.2.1 hd ht (fun h => kt ((by rw [nm_le0] at h; omega)) H locs ls hw hl (okc ho).2) (fun h => kf ((by rw [nm_le0] at h; omega)) H locs ls hw hl (okc ho).2)
theorem r_icmp_eq (hC : Cx K cc nL own) {x y : Int} {off : Int} {tgt : Nat} (hd : decode cc pc = .ok (.if_icmp .eq off, 3)) (ht : (pc : Int) + off = (tgt : Int)) (kt : nm x = nm y → J K tgt l st σ n1 n2) (kf : nm x ≠ nm y → J K (pc + 3) l st σ n1 n2) : J K pc l (wi y :: wi x :: st) σ n1 n2 := by
  intro H locs ls hw hl ho
  exact lv_icmp_eq hC.1 hC.2.1 hd ht (fun h => kt (nm_eq2.mp h) H locs ls hw hl (okc (okc ho).2).2) (fun h => kf (fun z => h (nm_eq2.mpr z)) H locs ls hw hl (okc (okc ho).2).2)
theorem r_icmp_ne (hC : Cx K cc nL own) {x y : Int} {off : Int} {tgt : Nat} (hd : decode cc pc = .ok (.if_icmp .ne off, 3)) (ht : (pc : Int) + off = (tgt : Int)) (kt : nm x ≠ nm y → J K tgt l st σ n1 n2) (kf : nm x = nm y → J K (pc + 3) l st σ n1 n2) : J K pc l (wi y :: wi x :: st) σ n1 n2 := by
  intro H locs ls hw hl ho
  exact lv_icmp_ne hC.1 hC.2.1 hd ht (fun h => kt (fun z => h (nm_eq2.mpr z)) H locs ls hw hl (okc (okc ho).2).2) (fun h => kf (nm_eq2.mp h) H locs ls hw hl (okc (okc ho).2).2)
theorem r_icmp_lt (hC : Cx K cc nL own) {x y : Int} {off : Int} {tgt : Nat} (hd : decode cc pc = .ok (.if_icmp .lt off, 3)) (ht : (pc : Int) + off = (tgt : Int)) (kt : nm x < nm y → J K tgt l st σ n1 n2) (kf : nm y ≤ nm x → J K (pc + 3) l st σ n1 n2) : J K pc l (wi y :: wi x :: st) σ n1 n2 := by
  intro H locs ls hw hl ho
  exact lv_icmp_lt hC.1 hC.2.1 hd ht (fun h => kt ((by rw [nm_lt2] at h; omega)) H locs ls hw hl (okc (okc ho).2).2) (fun h => kf ((by rw [nm_lt2] at h; omega)) H locs ls hw hl (okc (okc ho).2).2)
theorem r_icmp_ge (hC : Cx K cc nL own) {x y : Int} {off : Int} {tgt : Nat} (hd : decode cc pc = .ok (.if_icmp .ge off, 3)) (ht : (pc : Int) + off = (tgt : Int)) (kt : nm y ≤ nm x → J K tgt l st σ n1 n2) (kf : nm x < nm y → J K (pc + 3) l st σ n1 n2) : J K pc l (wi y :: wi x :: st) σ n1 n2 := by
  intro H locs ls hw hl ho
  exact lv_icmp_ge hC.1 hC.2.1 hd ht (fun h => kt ((by rw [nm_le2] at h; omega)) H locs ls hw hl (okc (okc ho).2).2) (fun h => kf ((by rw [nm_le2] at h; omega)) H locs ls hw hl (okc (okc ho).2).2)
theorem r_icmp_gt (hC : Cx K cc nL own) {x y : Int} {off : Int} {tgt : Nat} (hd : decode cc pc = .ok (.if_icmp .gt off, 3)) (ht : (pc : Int) + off = (tgt : Int)) (kt : nm y < nm x → J K tgt l st σ n1 n2) (kf : nm x ≤ nm y → J K (pc + 3) l st σ n1 n2) : J K pc l (wi y :: wi x :: st) σ n1 n2 := by
  intro H locs ls hw hl ho
  exact lv_icmp_gt hC.1 hC.2.1 hd ht (fun h => kt ((by rw [nm_lt2] at h; omega)) H locs ls hw hl (okc (okc ho).2).2) (fun h => kf ((by rw [nm_lt2] at h; omega)) H locs ls hw hl (okc (okc ho).2).2)
theorem r_icmp_le (hC : Cx K cc nL own) {x y : Int} {off : Int} {tgt : Nat} (hd : decode cc pc = .ok (.if_icmp .le off, 3)) (ht : (pc : Int) + off = (tgt : Int)) (kt : nm x ≤ nm y → J K tgt l st σ n1 n2) (kf : nm y < nm x → J K (pc + 3) l st σ n1 n2) : J K pc l (wi y :: wi x :: st) σ n1 n2 := by
  intro H locs ls hw hl ho
  exact lv_icmp_le hC.1 hC.2.1 hd ht (fun h => kt ((by rw [nm_le2] at h; omega)) H locs ls hw hl (okc (okc ho).2).2) (fun h => kf ((by rw [nm_le2] at h; omega)) H locs ls hw hl (okc (okc ho).2).2)
def lcm (x y : Int) : Int := (lg_cmp (Int64.ofInt x) (Int64.ofInt y)).toInt
theorem r_lcmp (hC : Cx K cc nL own) {x y : Int} (hd : decode cc pc = .ok (.lcmp, 1)) (k : J K (pc + 1) l (wi (lcm x y) :: st) σ n1 n2) : J K pc l (wl y :: wl x :: st) σ n1 n2 := by
  intro H locs ls hw hl ho
  have h := k H locs ls hw hl (okc2 trivial (okc (okc ho).2).2)
  have e : den σ (wi (lcm x y)) = .int (lg_cmp (Int64.ofInt x) (Int64.ofInt y)) := by
    show Value.int (Int32.ofInt (lcm x y)) = _
    unfold lcm; rw [i32_of]
  rw [List.map_cons, e] at h
  exact W.lcmp hC.1 hC.2.1 hd h
theorem r_ifnull (hC : Cx K cc nL own) {kd : Nat} {x : Option Nat} {off : Int} {tgt : Nat} (hd : decode cc pc = .ok (.ifnull off, 3)) (ht : (pc : Int) + off = (tgt : Int)) (kt : x = none → J K tgt l st σ n1 n2) (kf : ∀ a, x = some a → J K (pc + 3) l st σ n1 n2) : J K pc l (wr kd x :: st) σ n1 n2 := by
  intro H locs ls hw hl ho
  cases x with
  | none => exact lv_ifnullN hC.1 hC.2.1 hd ht (kt rfl H locs ls hw hl (okc ho).2)
  | some a => exact lv_ifnull hC.1 hC.2.1 hd (kf a rfl H locs ls hw hl (okc ho).2)
theorem r_ifnonnull (hC : Cx K cc nL own) {kd : Nat} {x : Option Nat} {off : Int} {tgt : Nat} (hd : decode cc pc = .ok (.ifnonnull off, 3)) (ht : (pc : Int) + off = (tgt : Int)) (kt : ∀ a, x = some a → J K tgt l st σ n1 n2) (kf : x = none → J K (pc + 3) l st σ n1 n2) : J K pc l (wr kd x :: st) σ n1 n2 := by
  intro H locs ls hw hl ho
  cases x with
  | none => exact lv_ifnonnullN hC.1 hC.2.1 hd (kf rfl H locs ls hw hl (okc ho).2)
  | some a => exact lv_ifnonnull hC.1 hC.2.1 hd ht (kt a rfl H locs ls hw hl (okc ho).2)
theorem den_rf (σ : St) (kd : Nat) (x : Option Nat) : den σ (wr kd x) = va_rf (x.map (σ.1 kd)) := by cases x <;> rfl
theorem Wd.inj {K : JK} {H : Heap} {locs : List Loc} {σ : St} (hw : Wd K H locs σ) {k a k' a' : Nat} (h : (k, a) ∈ σ.2.1) (h' : (k', a') ∈ σ.2.1) (e : σ.1 k a = σ.1 k' a') : k = k' ∧ a = a' := by
  obtain ⟨i, hi⟩ := List.getElem?_of_mem h
  obtain ⟨j, hj⟩ := List.getElem?_of_mem h'
  have := hw.2.1.1 i j _ _ (WL_at hi) (WL_at hj) e
  subst this
  rw [hi] at hj
  cases hj
  exact ⟨rfl, rfl⟩
theorem ref_inj {K : JK} {H : Heap} {locs : List Loc} {σ : St} (hw : Wd K H locs σ) {kd : Nat} (h50 : kd ≠ 50) {x y : Option Nat} (hx : okv σ (wr kd x)) (hy : okv σ (wr kd y)) : x.map (σ.1 kd) = y.map (σ.1 kd) ↔ x = y := by
  constructor
  · intro e
    cases x with
    | none => cases y with
      | none => rfl
      | some b => cases e
    | some a => cases y with
      | none => cases e
      | some b =>
        have hx := hx.resolve_right h50
        have hy := hy.resolve_right h50
        rw [(hw.inj hx hy (Option.some.inj e)).2]
  · rintro rfl; rfl
theorem r_acmp_eq (hC : Cx K cc nL own) {kd : Nat} (h50 : kd ≠ 50) {x y : Option Nat} {off : Int} {tgt : Nat} (hd : decode cc pc = .ok (.if_acmp .eq off, 3)) (ht : (pc : Int) + off = (tgt : Int)) (kt : x = y → J K tgt l st σ n1 n2) (kf : x ≠ y → J K (pc + 3) l st σ n1 n2) : J K pc l (wr kd y :: wr kd x :: st) σ n1 n2 := by
  intro H locs ls hw hl ho
  have ri := ref_inj hw h50 (okc (okc ho).2).1 (okc ho).1
  rw [List.map_cons, List.map_cons, den_rf, den_rf]
  exact lv_acmp_eq hC.1 hC.2.1 hd ht (fun h => kt (ri.mp h) H locs ls hw hl (okc (okc ho).2).2) (fun h => kf (fun z => h (ri.mpr z)) H locs ls hw hl (okc (okc ho).2).2)
theorem r_acmp_ne (hC : Cx K cc nL own) {kd : Nat} (h50 : kd ≠ 50) {x y : Option Nat} {off : Int} {tgt : Nat} (hd : decode cc pc = .ok (.if_acmp .ne off, 3)) (ht : (pc : Int) + off = (tgt : Int)) (kt : x ≠ y → J K tgt l st σ n1 n2) (kf : x = y → J K (pc + 3) l st σ n1 n2) : J K pc l (wr kd y :: wr kd x :: st) σ n1 n2 := by
  intro H locs ls hw hl ho
  have ri := ref_inj hw h50 (okc (okc ho).2).1 (okc ho).1
  rw [List.map_cons, List.map_cons, den_rf, den_rf]
  exact lv_acmp_ne hC.1 hC.2.1 hd ht (fun h => kt (fun z => h (ri.mpr z)) H locs ls hw hl (okc (okc ho).2).2) (fun h => kf (ri.mp h) H locs ls hw hl (okc (okc ho).2).2)
end ROWS
