/-! BASE 7: what the printed walks want besides -/
set_option maxRecDepth 20000 in
theorem w_mathI : Cond.initialized "java/lang/Math" ∈ wsG := wg 65 (by decide +kernel) (by decide +kernel)
set_option maxRecDepth 20000 in
theorem w_mmin : Cond.static Lib.Math.min.name ∈ wsG ∧ Cond.code Lib.Math.min.name Lib.Math.min.code 2 (some .int) ∈ wsG := ⟨wg 273 (by decide +kernel) (by decide +kernel), wg 274 (by decide +kernel) (by decide +kernel)⟩
set_option maxRecDepth 20000 in
theorem w_mmax : Cond.static Lib.Math.max.name ∈ wsG ∧ Cond.code Lib.Math.max.name Lib.Math.max.code 2 (some .int) ∈ wsG := ⟨wg 276 (by decide +kernel) (by decide +kernel), wg 277 (by decide +kernel) (by decide +kernel)⟩
def subL : List (Option WV) → List (Option WV) → Prop
  | [], _ => True
  | none :: t', _ :: t => subL t' t
  | some v :: t', x :: t => x = some v ∧ subL t' t
  | none :: t', [] => subL t' []
  | some _ :: _, [] => False
theorem subL_at : ∀ {l' l : List (Option WV)}, subL l' l → ∀ (i : Nat) (v : WV), l'[i]? = some (some v) → l[i]? = some (some v)
  | [], _, _, i, v, h => by cases i <;> cases h
  | none :: t', x :: t, hs, i, v, h => by
    cases i with
    | zero => cases h
    | succ i => exact subL_at (l' := t') (l := t) hs i v h
  | some w :: t', x :: t, hs, i, v, h => by
    cases i with
    | zero => cases h; rw [hs.1]; rfl
    | succ i => exact subL_at (l' := t') (l := t) hs.2 i v h
  | none :: t', [], hs, i, v, h => by
    cases i with
    | zero => cases h
    | succ i => have := subL_at (l' := t') (l := []) hs i v h; cases this
  | some _ :: _, [], hs, _, _, _ => False.elim hs
theorem J.drop2 {K : JK} {pc : Nat} {l l' : List (Option WV)} {st : List WV} {σ : St} {n1 n2 : Nat} (k : J K pc l' st σ n1 n2) (h : subL l' l) : J K pc l st σ n1 n2 := J.drop (subL_at h) k
theorem J.widen {K : JK} {pc : Nat} {l : List (Option WV)} {st : List WV} {σ : St} {n1 n2 k1 k2 : Nat} (h1 : n1 ≤ k1) (h2 : n2 ≤ k2) (k : J K pc l st σ k1 k2) : J K pc l st σ n1 n2 := fun H locs ls hw hl ho => W.widen h1 h2 (k H locs ls hw hl ho)
theorem aTy_ne0 {k a : Nat} (h : aTy k a = 5) : aTy k a ≠ 0 := by rw [h]; decide
theorem aTy5_ne50 {k a : Nat} (h : aTy k a = 5) : k ≠ 50 := by rintro rfl; cases h
theorem aTy1_ne50 {k a : Nat} (h : aTy k a = 1) : k ≠ 50 := by rintro rfl; cases h
theorem i32_nat (n : Nat) : Int32.ofNat n = Int32.ofInt (n : Int) := by
  first
    | rfl
    | exact (Int32.ofInt_eq_ofNat).symm
    | simp
theorem oCi_lt {a : Nat} (h : a < 12) : oCi 20 a = 3 := by simp [oCi, h]
theorem oCi_ge {a : Nat} (h : 12 ≤ a) : oCi 20 a = 0 := by
  have h' : ¬ a < 12 := by omega
  simp [oCi, h']
theorem kR_T {k a : Nat} (h : aTy k a = 5) : kR (aFd k) = 20 := by
  revert h
  unfold aTy
  split
  all_goals first
    | (intro h; cases h; done)
    | (intro _; rfl)
    | (split <;> (intro h; cases h))
theorem nmL_lt2 {x y : Int} : Int64.ofInt x < Int64.ofInt y ↔ nmL x < nmL y := Int64.lt_iff_toInt_lt
theorem nmL_eq2 {x y : Int} : Int64.ofInt x = Int64.ofInt y ↔ nmL x = nmL y := by
  rw [← Int64.toInt_inj]; rfl
theorem lcm_is (x y : Int) : nm (lcm x y) = if nmL y < nmL x then 1 else if nmL x = nmL y then 0 else -1 := by
  unfold lcm nm
  rw [i32_of]
  unfold lg_cmp
  by_cases h1 : nmL y < nmL x
  · rw [if_pos h1, if_pos (show Int64.ofInt x > Int64.ofInt y from nmL_lt2.mpr h1)]; rfl
  · rw [if_neg h1, if_neg (show ¬ Int64.ofInt x > Int64.ofInt y from fun z => h1 (nmL_lt2.mp z))]
    by_cases h2 : nmL x = nmL y
    · rw [if_pos h2, if_pos (nmL_eq2.mpr h2)]; rfl
    · rw [if_neg h2, if_neg (fun z => h2 (nmL_eq2.mp z))]; rfl
theorem lcm_lt {x y : Int} : nm (lcm x y) < 0 ↔ nmL x < nmL y := by
  rw [lcm_is]
  split
  · omega
  · split <;> omega
theorem lcm_eq {x y : Int} : nm (lcm x y) = 0 ↔ nmL x = nmL y := by
  rw [lcm_is]
  split
  · omega
  · split <;> omega
section ROW7
variable {K : JK} {cc : ByteArray} {nL : Nat} {own : String} {pc : Nat} {l : List (Option WV)} {st : List WV} {σ : St} {n1 n2 : Nat}
theorem r_mmin (hC : Cx K cc nL own) {idx : Nat} {x y : Int} (w1 : Cond.methodLink own idx Lib.Math.min.name ∈ wsG) (w2 : Cond.static Lib.Math.min.name ∈ wsG ∧ Cond.code Lib.Math.min.name Lib.Math.min.code 2 (some .int) ∈ wsG) (hR : 1 ≤ (kRm K).frames ∧ 21 ≤ (kRm K).locals) (hn : n1 ≤ (kRm K).cells ∧ n2 ≤ (kRm K).slots) (hcat : (st.map wcat).sum ≤ 8) (hd : decode cc pc = .ok (.invokestatic idx, 3)) (k : J K (pc + 3) l (wi (zmin x y) :: st) σ n1 n2) : J K pc l (wi y :: wi x :: st) σ n1 n2 := by
  intro H locs ls hw hl ho
  have h := k H locs ls hw hl (okc2 trivial (okc (okc ho).2).2)
  have e : den σ (wi (zmin x y)) = .int (if Int32.ofInt y < Int32.ofInt x then Int32.ofInt y else Int32.ofInt x) := by
    show Value.int (Int32.ofInt (zmin x y)) = _
    unfold zmin
    by_cases hc : nm y < nm x
    · rw [if_pos hc, if_pos (nm_lt2.mpr hc)]
    · rw [if_neg hc, if_neg (fun z => hc (nm_lt2.mp z))]
  rw [List.map_cons, e] at h
  exact va_mmin hC.1 hC.2.1 hl.1.1.symm hC.2.2.2.1 (hC.2.2.2.2.1 _ w1) (hC.2.2.2.2.1 _ w2.1) (hC.2.2.2.2.1 _ w_mathI) (hC.2.2.2.2.1 _ w2.2) hR.1 (by rw [wcat_sum]; omega) hn.1 hn.2 hd h
theorem r_mmax (hC : Cx K cc nL own) {idx : Nat} {x y : Int} (w1 : Cond.methodLink own idx Lib.Math.max.name ∈ wsG) (w2 : Cond.static Lib.Math.max.name ∈ wsG ∧ Cond.code Lib.Math.max.name Lib.Math.max.code 2 (some .int) ∈ wsG) (hR : 1 ≤ (kRm K).frames ∧ 21 ≤ (kRm K).locals) (hn : n1 ≤ (kRm K).cells ∧ n2 ≤ (kRm K).slots) (hcat : (st.map wcat).sum ≤ 8) (hd : decode cc pc = .ok (.invokestatic idx, 3)) (k : J K (pc + 3) l (wi (zmax x y) :: st) σ n1 n2) : J K pc l (wi y :: wi x :: st) σ n1 n2 := by
  intro H locs ls hw hl ho
  have h := k H locs ls hw hl (okc2 trivial (okc (okc ho).2).2)
  have e : den σ (wi (zmax x y)) = .int (if Int32.ofInt x < Int32.ofInt y then Int32.ofInt y else Int32.ofInt x) := by
    show Value.int (Int32.ofInt (zmax x y)) = _
    unfold zmax
    by_cases hc : nm x < nm y
    · rw [if_pos hc, if_pos (nm_lt2.mpr hc)]
    · rw [if_neg hc, if_neg (fun z => hc (nm_lt2.mp z))]
  rw [List.map_cons, e] at h
  exact va_mmax hC.1 hC.2.1 hl.1.1.symm hC.2.2.2.1 (hC.2.2.2.2.1 _ w1) (hC.2.2.2.2.1 _ w2.1) (hC.2.2.2.2.1 _ w_mathI) (hC.2.2.2.2.1 _ w2.2) hR.1 (by rw [wcat_sum]; omega) hn.1 hn.2 hd h
theorem r_lcmp_ge (hC : Cx K cc nL own) {x y : Int} {off : Int} {tgt : Nat} (hd1 : decode cc pc = .ok (.lcmp, 1)) (hd : decode cc (pc + 1) = .ok (.ifCond .ge off, 3)) (ht : ((pc + 1 : Nat) : Int) + off = (tgt : Int)) (kt : nmL y ≤ nmL x → J K tgt l st σ n1 n2) (kf : nmL x < nmL y → J K (pc + 1 + 3) l st σ n1 n2) : J K pc l (wl y :: wl x :: st) σ n1 n2 :=
  r_lcmp hC hd1 (r_if_ge hC hd ht (fun h => kt (by have := lcm_lt (x := x) (y := y); omega)) (fun h => kf (lcm_lt.mp h)))
theorem r_lcmp_lt (hC : Cx K cc nL own) {x y : Int} {off : Int} {tgt : Nat} (hd1 : decode cc pc = .ok (.lcmp, 1)) (hd : decode cc (pc + 1) = .ok (.ifCond .lt off, 3)) (ht : ((pc + 1 : Nat) : Int) + off = (tgt : Int)) (kt : nmL x < nmL y → J K tgt l st σ n1 n2) (kf : nmL y ≤ nmL x → J K (pc + 1 + 3) l st σ n1 n2) : J K pc l (wl y :: wl x :: st) σ n1 n2 :=
  r_lcmp hC hd1 (r_if_lt hC hd ht (fun h => kt (lcm_lt.mp h)) (fun h => kf (by have := lcm_lt (x := x) (y := y); omega)))
theorem r_lcmp_eq (hC : Cx K cc nL own) {x y : Int} {off : Int} {tgt : Nat} (hd1 : decode cc pc = .ok (.lcmp, 1)) (hd : decode cc (pc + 1) = .ok (.ifCond .eq off, 3)) (ht : ((pc + 1 : Nat) : Int) + off = (tgt : Int)) (kt : nmL x = nmL y → J K tgt l st σ n1 n2) (kf : nmL x ≠ nmL y → J K (pc + 1 + 3) l st σ n1 n2) : J K pc l (wl y :: wl x :: st) σ n1 n2 :=
  r_lcmp hC hd1 (r_if_eq hC hd ht (fun h => kt (lcm_eq.mp h)) (fun h => kf (fun z => h (lcm_eq.mpr z))))
theorem r_lcmp_ne (hC : Cx K cc nL own) {x y : Int} {off : Int} {tgt : Nat} (hd1 : decode cc pc = .ok (.lcmp, 1)) (hd : decode cc (pc + 1) = .ok (.ifCond .ne off, 3)) (ht : ((pc + 1 : Nat) : Int) + off = (tgt : Int)) (kt : nmL x ≠ nmL y → J K tgt l st σ n1 n2) (kf : nmL x = nmL y → J K (pc + 1 + 3) l st σ n1 n2) : J K pc l (wl y :: wl x :: st) σ n1 n2 :=
  r_lcmp hC hd1 (r_if_ne hC hd ht (fun h => kt (fun z => h (lcm_eq.mpr z))) (fun h => kf (lcm_eq.mp h)))
theorem r_lcmp_le (hC : Cx K cc nL own) {x y : Int} {off : Int} {tgt : Nat} (hd1 : decode cc pc = .ok (.lcmp, 1)) (hd : decode cc (pc + 1) = .ok (.ifCond .le off, 3)) (ht : ((pc + 1 : Nat) : Int) + off = (tgt : Int)) (kt : nmL x ≤ nmL y → J K tgt l st σ n1 n2) (kf : nmL y < nmL x → J K (pc + 1 + 3) l st σ n1 n2) : J K pc l (wl y :: wl x :: st) σ n1 n2 :=
  r_lcmp hC hd1 (r_if_le hC hd ht (fun h => kt (by have := lcm_lt (x := x) (y := y); have := lcm_eq (x := x) (y := y); omega)) (fun h => kf (by have := lcm_lt (x := x) (y := y); have := lcm_eq (x := x) (y := y); omega)))
theorem r_lcmp_gt (hC : Cx K cc nL own) {x y : Int} {off : Int} {tgt : Nat} (hd1 : decode cc pc = .ok (.lcmp, 1)) (hd : decode cc (pc + 1) = .ok (.ifCond .gt off, 3)) (ht : ((pc + 1 : Nat) : Int) + off = (tgt : Int)) (kt : nmL y < nmL x → J K tgt l st σ n1 n2) (kf : nmL x ≤ nmL y → J K (pc + 1 + 3) l st σ n1 n2) : J K pc l (wl y :: wl x :: st) σ n1 n2 :=
  r_lcmp hC hd1 (r_if_gt hC hd ht (fun h => kt (by have := lcm_lt (x := x) (y := y); have := lcm_eq (x := x) (y := y); omega)) (fun h => kf (by have := lcm_lt (x := x) (y := y); have := lcm_eq (x := x) (y := y); omega)))
end ROW7
