/-! BASE 4: fields and arrays -/
theorem wd_place {K : JK} {H : Heap} {locs : List Loc} {σ : St} {k a : Nat} (hw : Wd K H locs σ) (h : (k, a) ∈ σ.2.1) : ∃ q : Nat, σ.2.1[q]? = some (k, a) ∧ (WL (kC K) σ)[q]? = some (σ.1 k a, cell (kC K) σ k a) := by
  obtain ⟨q, hq⟩ := List.getElem?_of_mem h
  exact ⟨q, hq, WL_at hq⟩
theorem ok_tag {σ : St} {k a : Nat} (h : okv σ (wr k (some a))) (h50 : k ≠ 50) : (k, a) ∈ σ.2.1 := h.resolve_right h50
section FIELDS
variable {K : JK} {cc : ByteArray} {nL : Nat} {own : String} {pc : Nat} {l : List (Option WV)} {st : List WV} {σ : St} {n1 n2 : Nat}
theorem same_of {s : State} {args : Array Value} {ref o n d : String} (hts : ∀ w ∈ wsG, w.before args s = true) (h : ref = o ∨ Cond.sameField ref o n d ∈ wsG) : ∀ x, s.fieldFound? o n d = some x → s.fieldFound? ref n d = some x := by
  rcases h with rfl | h
  · exact fun _ h => h
  · exact fun x hx => u_same (hts _ h) x hx
/-- a field is read -/
theorem r_get (hC : Cx K cc nL own) {idx k a : Nat} {ref C : String} {T : u_T} {N ci i : Nat} {sp : Nat × Nat} {v : WV} (ht : aTy k a = 0) (h50 : k ≠ 50) (hci : oCi k a = ci) (hcl : vwCl[ci]? = some (C, T, N)) (hin : ∀ w ∈ u_ws C T N, w ∈ wsG) (hi : i < N) (hsp : (oSp k a)[i]? = some sp) (hv : vF σ a sp = den σ v) (hok : WT σ → (k, a) ∈ σ.2.1 → okv σ v)
    (hlink : Cond.fieldLink own idx ref (T i).2.1 (T i).2.2.1 ∈ wsG) (hsame : ref = (T i).1 ∨ Cond.sameField ref (T i).1 (T i).2.1 (T i).2.2.1 ∈ wsG) (hd : decode cc pc = .ok (.getfield idx, 3)) (kk : J K (pc + 3) l (v :: st) σ n1 n2) : J K pc l (wr k (some a) :: st) σ n1 n2 := by
  intro H locs ls hw hl ho
  have hm := ok_tag (okc ho).1 h50
  obtain ⟨q, hq, hp⟩ := wd_place hw hm
  rw [cell_obj ht, hci] at hp
  exact va_get hC.1 hC.2.1 hC.2.2.2.2.1 hin hC.2.2.2.1 hC.2.2.2.2.2.1 hw.1 q hp hcl i hi (hC.2.2.2.2.1 _ hlink) (same_of hC.2.2.2.2.1 hsame) (by rw [List.getElem?_map, hsp]; exact congrArg some hv) hd (kk H locs ls hw hl (okc2 (hok hw.2.2.1 hm) (okc ho).2))
/-- a field is written -/
theorem r_put (hC : Cx K cc nL own) {idx k a : Nat} {ref C : String} {T : u_T} {ty : Nat → FieldType} {N ci i : Nat} {v : WV} {σ' : St} (ht : aTy k a = 0) (h50 : k ≠ 50) (hci : oCi k a = ci) (hcl : vwCl[ci]? = some (C, T, N)) (hin : ∀ w ∈ u_ws C T N, w ∈ wsG) (hty : ∀ k, k < N → parseFieldDescriptor (T k).2.2.1 = some (ty k)) (hnm : ∀ a, a < N → ∀ b, b < N → a ≠ b → (T a).2.1 ≠ (T b).2.1) (hi : i < N)
    (hlink : Cond.fieldLink own idx ref (T i).2.1 (T i).2.2.1 ∈ wsG) (hsame : ref = (T i).1 ∨ Cond.sameField ref (T i).1 (T i).2.1 (T i).2.2.1 ∈ wsG) (hfin : (T i).2.2.2 = false) (hn : narrow (ty i) (den σ v) = den σ v) (hfit : fits (ty i) (den σ v) = true) (hlen : i < (oSp k a).length)
    (hs : Same σ σ') (he : (oSp k a).map (vF σ' a) = ((oSp k a).map (vF σ a)).set i (den σ v)) (hne : ∀ k' a', ¬ (k' = k ∧ a' = a) → cell (kC K) σ' k' a' = cell (kC K) σ k' a') (hT : WT σ → okv σ v → WT σ')
    (hd : decode cc pc = .ok (.putfield idx, 3)) (kk : J K (pc + 3) l st σ' n1 n2) : J K pc l (v :: wr k (some a) :: st) σ n1 n2 := by
  intro H locs ls hw hl ho
  have hm := ok_tag (okc (okc ho).2).1 h50
  obtain ⟨q, hq, hp⟩ := wd_place hw hm
  rw [cell_obj ht, hci] at hp
  refine va_put hC.1 hC.2.1 hC.2.2.2.2.1 hin ty hty hnm hC.2.2.2.1 hC.2.2.2.2.2.1 hw.1 hw.2.1 hw.2.2.2.2 q hp hcl i hi (hC.2.2.2.2.1 _ hlink) (same_of hC.2.2.2.2.1 hsame) hfin (hty i hi) hn hfit (by rw [List.length_map]; exact hlen) hd (fun H1 locs1 hP hD hS => ?_)
  have hcell : cell (kC K) σ' k a = .inr (ci, ((oSp k a).map (vF σ a)).set i (den σ v)) := by rw [cell_obj ht, hci, he]
  have hw1 := Wd.put hw hs hq hcell hne (hT hw.2.2.1 (okc ho).1) hP hD hS
  have hst := st_ext (okc (okc ho).2).2 hs.ext
  have h := kk H1 locs1 ls hw1 (hl.ext hs.ext) hst.2
  rw [hst.1] at h
  exact h
theorem vp_of {j : Int} {n : Nat} (h : 0 ≤ nm j ∧ nm j < (n : Int)) : vp_in (Int32.ofInt j) n := by
  intro z
  rcases z with z | z
  · rw [Int32.lt_iff_toInt_lt] at z
    have : nm j < 0 := z
    omega
  · have : n ≤ (nm j).toNat := z
    omega
theorem cell_1 {aC : Nat → ClassId} {k a : Nat} (h : aTy k a = 1) : cell aC σ k a = .inl (aC 0, aLen k a, .inl (σ.2.2.1 (aFd k) a)) := by unfold cell; simp only [h]
theorem cell_2 {aC : Nat → ClassId} {k a : Nat} (h : aTy k a = 2) : cell aC σ k a = .inl (aC 1, aLen k a, .inr (.inl (σ.2.2.2.1 (aFd k) a))) := by unfold cell; simp only [h]
theorem cell_3 {aC : Nat → ClassId} {k a : Nat} (h : aTy k a = 3) : cell aC σ k a = .inl (aC 2, aLen k a, .inl (σ.2.2.1 (aFd k) a)) := by unfold cell; simp only [h]
theorem cell_4 {aC : Nat → ClassId} {k a : Nat} (h : aTy k a = 4) : cell aC σ k a = .inl (aC 3, aLen k a, .inr (.inr (.inr (.inr (fun j => (σ.2.2.2.2 (aFd k) a j).map (σ.1 10)))))) := by unfold cell; simp only [h]
theorem cell_5 {aC : Nat → ClassId} {k a : Nat} (h : aTy k a = 5) : cell aC σ k a = .inl (aC 4, aLen k a, .inr (.inr (.inr (.inr (fun j => (σ.2.2.2.2 (aFd k) a j).map (σ.1 20)))))) := by unfold cell; simp only [h]
theorem cell_6 {aC : Nat → ClassId} {k a : Nat} (h : aTy k a = 6) : cell aC σ k a = .inl (aC 5, aLen k a, .inr (.inr (.inr (.inr (fun j => (σ.2.2.2.2 (aFd k) a j).map (σ.1 12)))))) := by unfold cell; simp only [h]
theorem r_iaload (hC : Cx K cc nL own) {k a : Nat} {j : Int} (ht : aTy k a = 1) (h50 : k ≠ 50) (hi : 0 ≤ nm j ∧ nm j < (aLen k a : Int)) (hd : decode cc pc = .ok (.iaload, 1)) (kk : J K (pc + 1) l (wi (gI σ (aFd k) a (nm j).toNat) :: st) σ n1 n2) : J K pc l (wi j :: wr k (some a) :: st) σ n1 n2 := by
  intro H locs ls hw hl ho
  obtain ⟨q, hq, hp⟩ := wd_place hw (ok_tag (okc (okc ho).2).1 h50)
  rw [cell_1 ht] at hp
  have h := kk H locs ls hw hl (okc2 trivial (okc (okc ho).2).2)
  have e : den σ (wi (gI σ (aFd k) a (nm j).toNat)) = .int (σ.2.2.1 (aFd k) a (nm j).toNat) := by
    show Value.int (Int32.ofInt (gI σ (aFd k) a (nm j).toNat)) = _
    unfold gI; rw [i32_of]
  rw [List.map_cons, e] at h
  exact va_iald hC.1 hC.2.1 hC.2.2.2.2.2.1 hw.1 q 0 hp rfl (vp_of hi) hd h
theorem r_zaload (hC : Cx K cc nL own) {k a : Nat} {j : Int} (ht : aTy k a = 3) (h50 : k ≠ 50) (hi : 0 ≤ nm j ∧ nm j < (aLen k a : Int)) (hd : decode cc pc = .ok (.baload, 1)) (kk : J K (pc + 1) l (wi (gI σ (aFd k) a (nm j).toNat) :: st) σ n1 n2) : J K pc l (wi j :: wr k (some a) :: st) σ n1 n2 := by
  intro H locs ls hw hl ho
  obtain ⟨q, hq, hp⟩ := wd_place hw (ok_tag (okc (okc ho).2).1 h50)
  rw [cell_3 ht] at hp
  have h := kk H locs ls hw hl (okc2 trivial (okc (okc ho).2).2)
  have e : den σ (wi (gI σ (aFd k) a (nm j).toNat)) = .int (σ.2.2.1 (aFd k) a (nm j).toNat) := by
    show Value.int (Int32.ofInt (gI σ (aFd k) a (nm j).toNat)) = _
    unfold gI; rw [i32_of]
  rw [List.map_cons, e] at h
  exact va_zald hC.1 hC.2.1 hC.2.2.2.2.2.1 hw.1 q 2 hp rfl (vp_of hi) hd h
theorem r_laload (hC : Cx K cc nL own) {k a : Nat} {j : Int} (ht : aTy k a = 2) (h50 : k ≠ 50) (hi : 0 ≤ nm j ∧ nm j < (aLen k a : Int)) (hd : decode cc pc = .ok (.laload, 1)) (kk : J K (pc + 1) l (wl (gL σ (aFd k) a (nm j).toNat) :: st) σ n1 n2) : J K pc l (wi j :: wr k (some a) :: st) σ n1 n2 := by
  intro H locs ls hw hl ho
  obtain ⟨q, hq, hp⟩ := wd_place hw (ok_tag (okc (okc ho).2).1 h50)
  rw [cell_2 ht] at hp
  have h := kk H locs ls hw hl (okc2 trivial (okc (okc ho).2).2)
  have e : den σ (wl (gL σ (aFd k) a (nm j).toNat)) = .long (σ.2.2.2.1 (aFd k) a (nm j).toNat) := by
    show Value.long (Int64.ofInt (gL σ (aFd k) a (nm j).toNat)) = _
    unfold gL; rw [i64_of]
  rw [List.map_cons, e] at h
  exact va_lald hC.1 hC.2.1 hC.2.2.2.2.2.1 hw.1 q 1 hp rfl (vp_of hi) hd h
theorem ok_R {f a b kd : Nat} (hT : WT σ) (h : kR f = kd) : okv σ (wr kd (gR σ f a b)) := by
  cases e : gR σ f a b with
  | none => trivial
  | some x => exact Or.inl (h ▸ hT.2 f a b x e)
theorem r_aaload (hC : Cx K cc nL own) {k a kd : Nat} {j : Int} (ht : (aTy k a = 4 ∧ kd = 10) ∨ (aTy k a = 5 ∧ kd = 20) ∨ (aTy k a = 6 ∧ kd = 12)) (h50 : k ≠ 50) (hkR : kR (aFd k) = kd) (hi : 0 ≤ nm j ∧ nm j < (aLen k a : Int)) (hd : decode cc pc = .ok (.aaload, 1)) (kk : ∀ o, o = gR σ (aFd k) a (nm j).toNat → J K (pc + 1) l (wr kd o :: st) σ n1 n2) : J K pc l (wi j :: wr k (some a) :: st) σ n1 n2 := by
  intro H locs ls hw hl ho
  obtain ⟨q, hq, hp⟩ := wd_place hw (ok_tag (okc (okc ho).2).1 h50)
  have h := kk _ rfl H locs ls hw hl (okc2 (ok_R hw.2.2.1 hkR) (okc (okc ho).2).2)
  rw [List.map_cons, den_rf] at h
  rcases ht with ⟨ht, rfl⟩ | ⟨ht, rfl⟩ | ⟨ht, rfl⟩
  · rw [cell_4 ht] at hp
    exact va_aldq hC.1 hC.2.1 hC.2.2.2.2.2.1 hw.1 q 3 hp rfl (vp_of hi) hd h
  · rw [cell_5 ht] at hp
    exact va_aldq hC.1 hC.2.1 hC.2.2.2.2.2.1 hw.1 q 4 hp rfl (vp_of hi) hd h
  · rw [cell_6 ht] at hp
    exact va_aldq hC.1 hC.2.1 hC.2.2.2.2.2.1 hw.1 q 5 hp rfl (vp_of hi) hd h
theorem r_alen (hC : Cx K cc nL own) {k a : Nat} (ht : aTy k a ≠ 0) (h50 : k ≠ 50) {v : Int} (hv : Int32.ofNat (aLen k a) = Int32.ofInt v) (hd : decode cc pc = .ok (.arraylength, 1)) (kk : J K (pc + 1) l (wi v :: st) σ n1 n2) : J K pc l (wr k (some a) :: st) σ n1 n2 := by
  intro H locs ls hw hl ho
  obtain ⟨q, hq, hp⟩ := wd_place hw (ok_tag (okc ho).1 h50)
  have h := kk H locs ls hw hl (okc2 trivial (okc ho).2)
  have hx : ∃ (t : Nat) (cA : ClassId) (x : vp_A) (ty : FieldType), cell (kC K) σ k a = .inl (cA, x) ∧ x.1 = aLen k a ∧ (tysA (kC K))[t]? = some (cA, ty) := by
    unfold cell
    split
    · rename_i e; exact absurd e ht
    · exact ⟨0, _, _, _, rfl, rfl, rfl⟩
    · exact ⟨1, _, _, _, rfl, rfl, rfl⟩
    · exact ⟨2, _, _, _, rfl, rfl, rfl⟩
    · exact ⟨3, _, _, _, rfl, rfl, rfl⟩
    · exact ⟨4, _, _, _, rfl, rfl, rfl⟩
    · exact ⟨5, _, _, _, rfl, rfl, rfl⟩
  obtain ⟨t, cA, x, ty, h1, h2, h3⟩ := hx
  rw [h1] at hp
  exact va_alen hC.1 hC.2.1 hC.2.2.2.2.2.1 hw.1 q t hp h3 (by rw [h2]; exact hv) hd h
theorem uI_row {f a : Nat} {j x : Int} : (uI σ f a (nm j).toNat x).2.2.1 f a = upd (σ.2.2.1 f a) (Int32.ofInt j).toNatClampNeg (Int32.ofInt x) := by
  funext b
  show (if f = f ∧ a = a ∧ b = (nm j).toNat then _ else _) = _
  unfold upd
  by_cases hb : b = (nm j).toNat
  · rw [if_pos ⟨rfl, rfl, hb⟩]
    rw [if_pos (show b = (Int32.ofInt j).toNatClampNeg from hb)]
  · rw [if_neg (fun z => hb z.2.2)]
    rw [if_neg (show ¬ b = (Int32.ofInt j).toNatClampNeg from hb)]
theorem uL_row {f a : Nat} {j x : Int} : (uL σ f a (nm j).toNat x).2.2.2.1 f a = vp_updL (σ.2.2.2.1 f a) (Int32.ofInt j).toNatClampNeg (Int64.ofInt x) := by
  funext b
  show (if f = f ∧ a = a ∧ b = (nm j).toNat then _ else _) = _
  unfold vp_updL
  by_cases hb : b = (nm j).toNat
  · rw [if_pos ⟨rfl, rfl, hb⟩, if_pos (show b = (Int32.ofInt j).toNatClampNeg from hb)]
  · rw [if_neg (fun z => hb z.2.2), if_neg (show ¬ b = (Int32.ofInt j).toNatClampNeg from hb)]
/-- the store behind a written element, as a name -/
theorem r_iastore (hC : Cx K cc nL own) {k a : Nat} {j x : Int} (ht : aTy k a = 1) (h50 : k ≠ 50) (hi : 0 ≤ nm j ∧ nm j < (aLen k a : Int)) (hd : decode cc pc = .ok (.iastore, 1)) (kk : ∀ σ', σ' = uI σ (aFd k) a (nm j).toNat x → J K (pc + 1) l st σ' n1 n2) : J K pc l (wi x :: wi j :: wr k (some a) :: st) σ n1 n2 := by
  intro H locs ls hw hl ho
  have hm := ok_tag (okc (okc (okc ho).2).2).1 h50
  obtain ⟨q, hq, hp⟩ := wd_place hw hm
  rw [cell_1 ht] at hp
  refine va_iast hC.1 hC.2.1 hC.2.2.2.2.2.1 hw.1 hw.2.1 hw.2.2.2.2 q 0 hp rfl (vp_of hi) hd (fun H1 locs1 hP hD hS => ?_)
  have hk : ownI (aFd k) = k := (fd_own (by rw [ht]; decide)).1 (Or.inl ht)
  have hw1 := Wd.put hw (same_uI (σ := σ) (f := aFd k) (a := a) (b := (nm j).toNat) (v := x)) hq (by rw [cell_1 ht, uI_row]) (fun k' a' h => cell_uI (by rw [hk]; exact h)) (wt_uI hw.2.2.1) hP hD hS
  have hst := st_ext (okc (okc (okc ho).2).2).2 (same_uI (σ := σ) (f := aFd k) (a := a) (b := (nm j).toNat) (v := x)).ext
  have h := kk _ rfl H1 locs1 ls hw1 (hl.ext same_uI.ext) hst.2
  rw [hst.1] at h
  exact h
theorem r_zastore (hC : Cx K cc nL own) {k a : Nat} {j x : Int} (hx : vp_nar .boolean (Int32.ofInt x) = Int32.ofInt x) (ht : aTy k a = 3) (h50 : k ≠ 50) (hi : 0 ≤ nm j ∧ nm j < (aLen k a : Int)) (hd : decode cc pc = .ok (.bastore, 1)) (kk : ∀ σ', σ' = uI σ (aFd k) a (nm j).toNat x → J K (pc + 1) l st σ' n1 n2) : J K pc l (wi x :: wi j :: wr k (some a) :: st) σ n1 n2 := by
  intro H locs ls hw hl ho
  have hm := ok_tag (okc (okc (okc ho).2).2).1 h50
  obtain ⟨q, hq, hp⟩ := wd_place hw hm
  rw [cell_3 ht] at hp
  refine va_zast hC.1 hC.2.1 hC.2.2.2.2.2.1 hw.1 hw.2.1 hw.2.2.2.2 q 2 hp rfl (vp_of hi) hd (fun H1 locs1 hP hD hS => ?_)
  rw [hx] at hP hD
  have hk : ownI (aFd k) = k := (fd_own (by rw [ht]; decide)).1 (Or.inr ht)
  have hw1 := Wd.put hw (same_uI (σ := σ) (f := aFd k) (a := a) (b := (nm j).toNat) (v := x)) hq (by rw [cell_3 ht, uI_row]) (fun k' a' h => cell_uI (by rw [hk]; exact h)) (wt_uI hw.2.2.1) hP hD hS
  have hst := st_ext (okc (okc (okc ho).2).2).2 (same_uI (σ := σ) (f := aFd k) (a := a) (b := (nm j).toNat) (v := x)).ext
  have h := kk _ rfl H1 locs1 ls hw1 (hl.ext same_uI.ext) hst.2
  rw [hst.1] at h
  exact h
theorem r_lastore (hC : Cx K cc nL own) {k a : Nat} {j x : Int} (ht : aTy k a = 2) (h50 : k ≠ 50) (hi : 0 ≤ nm j ∧ nm j < (aLen k a : Int)) (hd : decode cc pc = .ok (.lastore, 1)) (kk : ∀ σ', σ' = uL σ (aFd k) a (nm j).toNat x → J K (pc + 1) l st σ' n1 n2) : J K pc l (wl x :: wi j :: wr k (some a) :: st) σ n1 n2 := by
  intro H locs ls hw hl ho
  have hm := ok_tag (okc (okc (okc ho).2).2).1 h50
  obtain ⟨q, hq, hp⟩ := wd_place hw hm
  rw [cell_2 ht] at hp
  refine va_last hC.1 hC.2.1 hC.2.2.2.2.2.1 hw.1 hw.2.1 hw.2.2.2.2 q 1 hp rfl (vp_of hi) hd (fun H1 locs1 hP hD hS => ?_)
  have hk : ownL (aFd k) = k := (fd_own (by rw [ht]; decide)).2.1 ht
  have hw1 := Wd.put hw (same_uL (σ := σ) (f := aFd k) (a := a) (b := (nm j).toNat) (v := x)) hq (by rw [cell_2 ht, uL_row]) (fun k' a' h => cell_uL (by rw [hk]; exact h)) (wt_uL hw.2.2.1) hP hD hS
  have hst := st_ext (okc (okc (okc ho).2).2).2 (same_uL (σ := σ) (f := aFd k) (a := a) (b := (nm j).toNat) (v := x)).ext
  have h := kk _ rfl H1 locs1 ls hw1 (hl.ext same_uL.ext) hst.2
  rw [hst.1] at h
  exact h
end FIELDS
