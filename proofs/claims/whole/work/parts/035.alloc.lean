theorem aTy_ne0i {k a : Nat} (h : aTy k a = 1) : aTy k a ≠ 0 := by rw [h]; decide
theorem nm_id {x : Int} (h : -2147483648 ≤ x ∧ x < 2147483648) : nm x = x := by
  unfold nm
  exact Int32.toInt_ofInt_of_le (by omega) (by omega)
/-! NEW OBJECTS: what the store is behind them -/
def mkMsg (σ : St) (u q1 q2 : Nat) : St := (fun k a => if k = 12 ∧ a = u then q1 else if k = 13 ∧ a = u then q2 else σ.1 k a, σ.2.1 ++ [(12, u), (13, u)], fun f a b => if (f = 17 ∨ f = 18) ∧ a = u then 0 else σ.2.2.1 f a b, fun f a b => if f = 11 ∧ a = u then 0 else σ.2.2.2.1 f a b, σ.2.2.2.2)
def newMsg (σ : St) (u : Nat) (σ' : St) : Prop := (12, u) ∉ σ.2.1 ∧ (13, u) ∉ σ.2.1 ∧ u % 2 = 1 ∧ ∃ q1 q2 : Nat, σ' = mkMsg σ u q1 q2
def tgProc (p : Nat) : List (Nat × Nat) := [(10, p), (11, p), (12, 2 * p), (13, 2 * p), (14, p), (15, p), (16, p), (17, p), (18, p)]
def mkProc (σ : St) (n u g : Int) (ad : Nat → Nat) : St := let p := (nm n).toNat
  (fun k a => if (k, a) ∈ tgProc p then ad k else σ.1 k a, σ.2.1 ++ tgProc p,
   fun f a b => if f = 10 ∧ a = p ∧ b = 0 then Int32.ofInt n else if f = 11 ∧ a = p ∧ b = 0 then Int32.ofInt u else if f = 12 ∧ a = p ∧ b = 0 then Int32.ofInt g else if f = 13 ∧ a = p ∧ b = 0 then 1 else if 14 ≤ f ∧ f ≤ 27 ∧ f ≠ 17 ∧ f ≠ 18 ∧ a = p then 0 else if (f = 17 ∨ f = 18) ∧ a = 2 * p then 0 else σ.2.2.1 f a b,
   fun f a b => if (f = 10 ∨ f = 12) ∧ a = p then 0 else if f = 11 ∧ a = 2 * p then 0 else σ.2.2.2.1 f a b,
   fun f a b => if f = 10 ∧ a = p then none else σ.2.2.2.2 f a b)
def freeProc (σ : St) (n _u _g : Int) : Prop := ∀ t ∈ tgProc (nm n).toNat, t ∉ σ.2.1
def newProc (σ : St) (n u g : Int) (σ' : St) : Prop := ∃ ad : Nat → Nat, σ' = mkProc σ n u g ad
def mkQueue (σ : St) (n : Int) (q1 q2 : Nat) : St := let t := (nm n).toNat
  (fun k a => if k = 20 ∧ a = t then q1 else if k = 21 ∧ a = t then q2 else σ.1 k a, σ.2.1 ++ [(20, t), (21, t)],
   fun f a b => if f = 30 ∧ a = t ∧ b = 0 then Int32.ofInt n else if f = 42 ∧ a = t ∧ b = 0 then 256 else if 30 ≤ f ∧ f ≤ 42 ∧ a = t then 0 else σ.2.2.1 f a b,
   σ.2.2.2.1, fun f a b => if f = 11 ∧ a = t then none else σ.2.2.2.2 f a b)
def freeQueue (σ : St) (n : Int) : Prop := (nm n).toNat < 12 ∧ (20, (nm n).toNat) ∉ σ.2.1 ∧ (21, (nm n).toNat) ∉ σ.2.1
def newQueue (σ : St) (n : Int) (σ' : St) : Prop := ∃ q1 q2 : Nat, σ' = mkQueue σ n q1 q2
def tgSet (t : Nat) : List (Nat × Nat) := [(20, t), (22, t), (23, t), (24, t), (25, t), (26, t)]
def mkCounterSet (σ : St) (n : Int) (ad : Nat → Nat) : St := let t := 12 + (nm n).toNat
  (fun k a => if (k, a) ∈ tgSet t then ad k else σ.1 k a, σ.2.1 ++ tgSet t,
   fun f a b => if f = 30 ∧ a = t ∧ b = 0 then Int32.ofInt n else if 30 ≤ f ∧ f ≤ 51 ∧ a = t then 0 else σ.2.2.1 f a b,
   σ.2.2.2.1, σ.2.2.2.2)
def freeCounterSet (σ : St) (n : Int) : Prop := ∀ t ∈ tgSet (12 + (nm n).toNat), t ∉ σ.2.1
def newCounterSet (σ : St) (n : Int) (σ' : St) : Prop := ∃ ad : Nat → Nat, σ' = mkCounterSet σ n ad

theorem sp_sub {k a : Nat} {sp : Nat × Nat} (h : sp ∈ oSp k a) : (sp.1 = 2 → (sp.2, a) ∈ subs k a) ∧ (sp.1 = 4 → (31, sp.2) ∈ subs k a) ∧ (5 ≤ sp.1 → (12, 2 * a) ∈ subs k a) := by
  unfold oSp at h
  split at h
  all_goals (try split at h)
  all_goals simp only [List.mem_cons, List.not_mem_nil, or_false] at h
  all_goals (repeat' (rcases h with rfl | h))
  all_goals (first | (simp [subs]; done) | (subst h; simp [subs]; done) | (simp only [subs]; rw [if_neg (by omega)]; simp; done) | (simp only [subs]; rw [if_pos (by omega)]; simp; done) | (subst h; simp only [subs]; rw [if_neg (by omega)]; simp; done) | (subst h; simp only [subs]; rw [if_pos (by omega)]; simp; done))
theorem kR_P {k a : Nat} (h : aTy k a = 4) : kR (aFd k) = 10 := by
  revert h
  unfold aTy
  split
  all_goals first
    | (intro h; cases h; done)
    | (intro _; rfl)
    | (split <;> (intro h; cases h))
theorem kR_M {k a : Nat} (h : 6 ≤ aTy k a) : kR (aFd k) = 12 := by
  revert h
  unfold aTy
  split
  all_goals first
    | (intro h; omega)
    | (intro _; rfl)
    | (split <;> (intro h; omega))
/-- what a tag's cell looks at stays: so does the cell -/
theorem cell_keep {aC : Nat → ClassId} {σ σ' : St} {k a : Nat} (hT : WT σ) (hm : (k, a) ∈ σ.2.1) (hx : Ext σ σ') (hI : ∀ f b, ownI f = k → σ'.2.2.1 f a b = σ.2.2.1 f a b) (hL : ∀ f b, ownL f = k → σ'.2.2.2.1 f a b = σ.2.2.2.1 f a b) (hR : ∀ f b, ownR f = k → σ'.2.2.2.2 f a b = σ.2.2.2.2 f a b) : cell aC σ' k a = cell aC σ k a := by
  have hr : ∀ f b kd, ownR f = k → kR f = kd → (σ'.2.2.2.2 f a b).map (σ'.1 kd) = (σ.2.2.2.2 f a b).map (σ.1 kd) := by
    intro f b kd h1 h2
    rw [hR f b h1]
    cases hq : σ.2.2.2.2 f a b with
    | none => rfl
    | some x =>
      have := hT.2 f a b x hq
      rw [h2] at this
      exact congrArg some (hx.1 kd x this).2
  by_cases ht : aTy k a = 0
  · rw [cell_obj ht, cell_obj ht]
    refine congrArg (fun z => Sum.inr (oCi k a, z)) (List.map_congr_left fun sp hsp => ?_)
    obtain ⟨t, f⟩ := sp
    obtain ⟨o1, o2, o3⟩ := sp_own hsp ht
    obtain ⟨s2, s4, s5⟩ := sp_sub hsp
    match t with
    | 0 => exact congrArg Value.int (hI f 0 (o1 rfl))
    | 1 => exact congrArg Value.long (hL f 0 (o2 rfl))
    | 2 => exact congrArg Value.ref (hx.1 f a (hT.1 k a hm _ (s2 rfl))).2
    | 3 => exact congrArg va_rf (hr f 0 (kR f) (o3 rfl) rfl)
    | 4 => exact congrArg Value.ref (hx.1 31 f (hT.1 k a hm _ (s4 rfl))).2
    | n + 5 => exact congrArg Value.ref (hx.1 12 (2 * a) (hT.1 k a hm _ (s5 (by show 5 ≤ n + 5; omega)))).2
  · obtain ⟨h1, h2, h3⟩ := fd_own ht
    by_cases h4 : 4 ≤ aTy k a
    · rcases (show aTy k a = 4 ∨ aTy k a = 5 ∨ 6 ≤ aTy k a by omega) with e | e | e
      · rw [cell_4 e, cell_4 e]
        exact congrArg (fun z => Sum.inl (aC 3, aLen k a, Sum.inr (Sum.inr (Sum.inr (Sum.inr z))))) (funext fun j => hr _ j 10 (h3 h4) (kR_P e))
      · rw [cell_5 e, cell_5 e]
        exact congrArg (fun z => Sum.inl (aC 4, aLen k a, Sum.inr (Sum.inr (Sum.inr (Sum.inr z))))) (funext fun j => hr _ j 20 (h3 h4) (kR_T e))
      · have q : (fun j => (σ'.2.2.2.2 (aFd k) a j).map (σ'.1 12)) = fun j => (σ.2.2.2.2 (aFd k) a j).map (σ.1 12) := funext fun j => hr _ j 12 (h3 h4) (kR_M e)
        obtain ⟨n, hn⟩ : ∃ n, aTy k a = n + 6 := ⟨aTy k a - 6, by omega⟩
        have c6 : ∀ τ, cell aC τ k a = .inl (aC 5, aLen k a, .inr (.inr (.inr (.inr (fun j => (τ.2.2.2.2 (aFd k) a j).map (τ.1 12)))))) := by
          intro τ
          unfold cell
          rw [hn] <;> rfl
        rw [c6, c6, q]
    · rcases (show aTy k a = 1 ∨ aTy k a = 2 ∨ aTy k a = 3 by omega) with e | e | e
      · rw [cell_1 e, cell_1 e]
        exact congrArg (fun z => Sum.inl (aC 0, aLen k a, Sum.inl z)) (funext fun j => hI _ j (h1 (Or.inl e)))
      · rw [cell_2 e, cell_2 e]
        exact congrArg (fun z => Sum.inl (aC 1, aLen k a, Sum.inr (Sum.inl z))) (funext fun j => hL _ j (h2 e))
      · rw [cell_3 e, cell_3 e]
        exact congrArg (fun z => Sum.inl (aC 2, aLen k a, Sum.inl z)) (funext fun j => hI _ j (h1 (Or.inr e)))
theorem WL_app {aC : Nat → ClassId} {σ σ' : St} {tg : List (Nat × Nat)} (hT : WT σ) (hx : Ext σ σ') (ht : σ'.2.1 = σ.2.1 ++ tg) (hI : ∀ k a f b, (k, a) ∈ σ.2.1 → ownI f = k → σ'.2.2.1 f a b = σ.2.2.1 f a b) (hL : ∀ k a f b, (k, a) ∈ σ.2.1 → ownL f = k → σ'.2.2.2.1 f a b = σ.2.2.2.1 f a b) (hR : ∀ k a f b, (k, a) ∈ σ.2.1 → ownR f = k → σ'.2.2.2.2 f a b = σ.2.2.2.2 f a b) : WL aC σ' = WL aC σ ++ tg.map (fun t => (σ'.1 t.1 t.2, cell aC σ' t.1 t.2)) := by
  unfold WL
  rw [ht, List.map_append]
  congr 1
  refine List.map_congr_left fun t hm => ?_
  obtain ⟨k, a⟩ := t
  show (σ'.1 k a, cell aC σ' k a) = (σ.1 k a, cell aC σ k a)
  rw [(hx.1 k a hm).2, cell_keep hT hm hx (fun f b h => hI k a f b hm h) (fun f b h => hL k a f b hm h) (fun f b h => hR k a f b hm h)]
/-- from the list of cells back to the store -/
theorem jc_fin {K : JK} {pc : Nat} {l : List (Option WV)} {st : List WV} {σ σ1 : St} {n1 n2 : Nat} {w1 : va_W} {kd a q : Nat} (he0 : Ext (k0 K) σ) (hx : Ext σ σ1) (hT : WT σ1) (hW : WL (kC K) σ1 = WL (kC K) σ ++ w1) (hlo : ∀ v, some v ∈ l → okv σ v) (hst : ∀ v ∈ st, okv σ v) (hok : (kd, a) ∈ σ1.2.1) (hq : σ1.1 kd a = q) (k : J K pc l (wr kd (some a) :: st) σ1 n1 n2) : JC K pc (lo σ 0 l) (.ref q :: st.map (den σ)) (WL (kC K) σ ++ w1) n1 n2 := by
  subst hq
  intro H locs ls hP hD hS hl
  rw [← hW] at hP hD
  have hs := st_ext hst hx
  have h := k H locs ls ⟨hP, hD, hT, he0.tr hx, hS⟩ ⟨by rw [hx.loc hlo 0]; exact hl, fun v hv => hx.ok (hlo v hv)⟩ (okc2 (Or.inl hok) hs.2)
  rw [List.map_cons, hs.1] at h
  exact h
theorem c_iloadL {K : JK} {cc : ByteArray} {nL : Nat} {own : String} {pc : Nat} {σ : St} {l : List (Option WV)} {st : List Value} {ws : va_W} {n1 n2 : Nat} (hC : Cx K cc nL own) {i : Fin 4} {x : Int} (hd : decode cc pc = .ok (.iload_n i, 1)) (hi : l[(i : Nat)]? = some (some (wi x))) (k : JC K (pc + 1) (lo σ 0 l) (.int (Int32.ofInt x) :: st) ws n1 n2) : JC K pc (lo σ 0 l) st ws n1 n2 :=
  fun H locs ls hP hD hS hl => lv_iload_n hC.1 hC.2.1 hd rfl (lo_at hl hi) (k H locs ls hP hD hS hl)
theorem c_iloadW {K : JK} {cc : ByteArray} {nL : Nat} {own : String} {pc : Nat} {σ : St} {l : List (Option WV)} {st : List Value} {ws : va_W} {n1 n2 : Nat} (hC : Cx K cc nL own) {i : Nat} {x : Int} (hd : decode cc pc = .ok (.iload i, 2)) (hi : l[i]? = some (some (wi x))) (k : JC K (pc + 2) (lo σ 0 l) (.int (Int32.ofInt x) :: st) ws n1 n2) : JC K pc (lo σ 0 l) st ws n1 n2 :=
  fun H locs ls hP hD hS hl => lv_iload hC.1 hC.2.1 hd (lo_at hl hi) (k H locs ls hP hD hS hl)
theorem cat_of {σ : St} {st : List WV} {q : Nat} (h : (st.map wcat).sum ≤ 4) : ((Value.ref q :: st.map (den σ)).map fun v => v.category).sum ≤ 8 := by
  rw [List.map_cons, List.sum_cons, wcat_sum]
  have : (Value.ref q).category = 1 := rfl
  omega
theorem le_sum {x : Nat} : ∀ {l : List Nat}, x ∈ l → x ≤ l.sum
  | a :: l, h => by
    rw [List.sum_cons]
    rcases List.mem_cons.mp h with rfl | h
    · omega
    · have := le_sum h
      omega
theorem fresh_tag (σ : St) : ∃ u, u % 2 = 1 ∧ ∀ k, (k, u) ∉ σ.2.1 := by
  refine ⟨2 * (σ.2.1.map Prod.snd).sum + 1, by omega, fun k h => ?_⟩
  have := le_sum (List.mem_map_of_mem (f := Prod.snd) h)
  have e : (k, 2 * (σ.2.1.map Prod.snd).sum + 1).2 = 2 * (σ.2.1.map Prod.snd).sum + 1 := rfl
  omega
set_option maxHeartbeats 4000000 in
set_option maxRecDepth 100000 in
theorem new_X3_append {K : JK} (hC : Cx K cX3_append 3 RX3) {l : List (Option WV)} {st : List WV} {σ : St} {n1 n2 : Nat} (hr : 2 ≤ (kRm K).frames ∧ 40 ≤ (kRm K).locals ∧ n1 + 2 ≤ (kRm K).cells ∧ n2 + 67 ≤ (kRm K).slots) (k : ∀ u σ1, newMsg σ u σ1 → J K 29 l (wr 12 (some u) :: st) σ1 (n1 + 2) (n2 + 67)) (hcat : (st.map wcat).sum ≤ 4 := by exact Nat.le_of_ble_eq_true rfl) : J K 22 l st σ n1 n2 := by
  intro H locs ls hw hl ho
  refine (?_ : JC K 22 (lo σ 0 l) (st.map (den σ)) (WL (kC K) σ) n1 n2) H locs ls hw.1 hw.2.1 hw.2.2.2.2 hl.1
  refine c_new hC (ci := 1) (C := RX1) (T := TX1) (ty := tyX1) (N := 3) (fs := [.long 0, .int 0, .null]) rfl iw1 tyX1_ok (wg 372 (by decide +kernel) (by decide +kernel)) (wg 113 (by decide +kernel) (by decide +kernel)) (wg 62 (by decide +kernel) (by decide +kernel)) (fun j hj => by rcases (show j = 0 ∨ j = 1 ∨ j = 2 by omega) with rfl | rfl | rfl <;> rfl) (by omega) (by omega) dX3_append_22 (fun q => ?_)
  refine c_dup hC dX3_append_25 ?_
  refine c_initN hC (nA := 0) (y := yX1_init) (host := "QueuesAndGates") (As := []) (w0 := WL (kC K) σ) (o := (.inr (1, [.long 0, .int 0, .null]))) k_X1_init (List.mem_of_getElem? (i := 5) rfl) (wg 115 (by decide +kernel) (by decide +kernel)) (wg 62 (by decide +kernel) (by decide +kernel)) (wg 116 (by decide +kernel) (by decide +kernel)) rfl ⟨by decide, by decide, by decide +kernel⟩ rfl (by have := hr; exact ⟨(by show 2 ≤ _; omega), (by show 32 ≤ _; omega)⟩) (by exact ⟨(by show n1 + 1 + 1 ≤ _; omega), (by show n2 + 3 + 64 ≤ _; omega)⟩) rfl (cat_of hcat) rfl dX3_append_26 (fun w1 hw1 => ?_)
  obtain ⟨q1, rfl⟩ := hw1
  obtain ⟨u, hu, hfr⟩ := fresh_tag σ
  have hT := hw.2.2.1
  have hx : Ext σ (mkMsg σ u q q1) := ⟨fun k a h => ⟨List.mem_append_left _ h, by
    show (if k = 12 ∧ a = u then q else if k = 13 ∧ a = u then q1 else σ.1 k a) = σ.1 k a
    have : a ≠ u := fun z => hfr k (z ▸ h)
    rw [if_neg (fun z => this z.2), if_neg (fun z => this z.2)]⟩, fun a => rfl⟩
  have hWL : WL (kC K) (mkMsg σ u q q1) = WL (kC K) σ ++ [(q, .inr (1, [.long 0, .int 0, .ref q1])), (q1, .inl (kC K 0, 64, .inl (fun _ => 0)))] := by
    rw [WL_app (tg := [(12, u), (13, u)]) hT hx rfl (fun k a f b hm _ => by
      have hne : ¬ a = u := fun e => hfr k (e ▸ hm)
      exact if_neg (fun z : (f = 17 ∨ f = 18) ∧ a = u => hne z.2)) (fun k a f b hm _ => by
      have hne : ¬ a = u := fun e => hfr k (e ▸ hm)
      exact if_neg (fun z : f = 11 ∧ a = u => hne z.2)) (fun _ _ _ _ _ _ => rfl)]
    congr 1
    have a12 : (mkMsg σ u q q1).1 12 u = q := by show (if _ then _ else _) = _; rw [if_pos ⟨rfl, rfl⟩]
    have a13 : (mkMsg σ u q q1).1 13 u = q1 := by simp [mkMsg]
    have i17 : (mkMsg σ u q q1).2.2.1 17 u 0 = 0 := by show (if _ then _ else _) = _; rw [if_pos ⟨Or.inl rfl, rfl⟩]
    have i18 : (mkMsg σ u q q1).2.2.1 18 u = fun _ => 0 := by funext b; show (if _ then _ else _) = _; rw [if_pos ⟨Or.inr rfl, rfl⟩]
    have l11 : (mkMsg σ u q q1).2.2.2.1 11 u 0 = 0 := by show (if _ then _ else _) = _; rw [if_pos ⟨rfl, rfl⟩]
    have c12 : cell (kC K) (mkMsg σ u q q1) 12 u = .inr (1, [.long 0, .int 0, .ref q1]) := by
      show Sum.inr (1, [Value.long ((mkMsg σ u q q1).2.2.2.1 11 u 0), Value.int ((mkMsg σ u q q1).2.2.1 17 u 0), Value.ref ((mkMsg σ u q q1).1 13 u)]) = _
      rw [l11, i17, a13]
    have c13 : cell (kC K) (mkMsg σ u q q1) 13 u = .inl (kC K 0, 64, .inl (fun _ => 0)) := by
      show Sum.inl (kC K 0, 64, Sum.inl ((mkMsg σ u q q1).2.2.1 18 u)) = _
      rw [i18]
    show [((mkMsg σ u q q1).1 12 u, cell (kC K) (mkMsg σ u q q1) 12 u), ((mkMsg σ u q q1).1 13 u, cell (kC K) (mkMsg σ u q q1) 13 u)] = _
    rw [a12, a13, c12, c13]
  have hT1 : WT (mkMsg σ u q q1) := by
    refine ⟨fun k a hm t ht => ?_, fun f a b x h => List.mem_append_left _ (hT.2 f a b x h)⟩
    rcases List.mem_append.mp hm with h | h
    · exact List.mem_append_left _ (hT.1 k a h t ht)
    · simp only [List.mem_cons, Prod.mk.injEq, List.not_mem_nil, or_false] at h
      rcases h with ⟨rfl, rfl⟩ | ⟨rfl, rfl⟩
      · have : t = (13, a) := List.mem_singleton.mp ht
        rw [this]
        exact List.mem_append_right _ (List.mem_cons_of_mem _ List.mem_cons_self)
      · cases ht
  exact jc_fin (st := st) hw.2.2.2.1 hx hT1 hWL hl.2 ho (List.mem_append_right _ List.mem_cons_self) (by show (if _ then _ else _) = _; rw [if_pos ⟨rfl, rfl⟩]) (k u _ ⟨hfr 12, hfr 13, hu, q, q1, rfl⟩)
set_option maxHeartbeats 4000000 in
set_option maxRecDepth 100000 in
theorem new_X7_process {K : JK} (hC : Cx K cX7_process 4 RX7) {u g n : Int} {l : List (Option WV)} {st : List WV} {σ : St} {n1 n2 : Nat} (hr : 3 ≤ (kRm K).frames ∧ 60 ≤ (kRm K).locals ∧ n1 + 9 ≤ (kRm K).cells ∧ n2 + 177 ≤ (kRm K).slots) (h3 : l[3]? = some (some (wi n))) (h1 : l[1]? = some (some (wi u))) (h2 : l[2]? = some (some (wi g))) (hf : freeProc σ n u g) (k : ∀ σ1, True → newProc σ n u g σ1 → J K 53 l (wr 10 (some (nm n).toNat) :: st) σ1 (n1 + 9) (n2 + 177)) (hcat : (st.map wcat).sum ≤ 4 := by exact Nat.le_of_ble_eq_true rfl) : J K 43 l st σ n1 n2 := by
  intro H locs ls hw hl ho
  refine (?_ : JC K 43 (lo σ 0 l) (st.map (den σ)) (WL (kC K) σ) n1 n2) H locs ls hw.1 hw.2.1 hw.2.2.2.2 hl.1
  refine c_new hC (ci := 2) (C := RX2) (T := TX2) (ty := tyX2) (N := 12) (fs := [.int 0, .int 0, .int 0, .null, .null, .null, .null, .int 0, .int 0, .long 0, .int 0, .null]) rfl iw2 tyX2_ok (wg 77 (by decide +kernel) (by decide +kernel)) (wg 107 (by decide +kernel) (by decide +kernel)) (wg 61 (by decide +kernel) (by decide +kernel)) (fun j hj => by rcases (show j = 0 ∨ j = 1 ∨ j = 2 ∨ j = 3 ∨ j = 4 ∨ j = 5 ∨ j = 6 ∨ j = 7 ∨ j = 8 ∨ j = 9 ∨ j = 10 ∨ j = 11 by omega) with rfl | rfl | rfl | rfl | rfl | rfl | rfl | rfl | rfl | rfl | rfl | rfl <;> rfl) (by omega) (by omega) dX7_process_43 (fun q => ?_)
  refine c_dup hC dX7_process_46 ?_
  refine c_iloadL hC dX7_process_47 h3 ?_
  refine c_iloadL hC dX7_process_48 h1 ?_
  refine c_iloadL hC dX7_process_49 h2 ?_
  refine c_init hC (nA := 3) (y := yX2_init)  (As := [.int (Int32.ofInt n), .int (Int32.ofInt u), .int (Int32.ofInt g)]) (w0 := WL (kC K) σ) (o := (.inr (2, [.int 0, .int 0, .int 0, .null, .null, .null, .null, .int 0, .int 0, .long 0, .int 0, .null]))) k_X2_init (wg 108 (by decide +kernel) (by decide +kernel)) (wg 109 (by decide +kernel) (by decide +kernel)) (wg 61 (by decide +kernel) (by decide +kernel)) (wg 110 (by decide +kernel) (by decide +kernel)) rfl ⟨by decide, by decide, by decide +kernel⟩ rfl (by have := hr; exact ⟨(by show 3 ≤ _; omega), (by show 55 ≤ _; omega)⟩) (by exact ⟨(by show n1 + 1 + 8 ≤ _; omega), (by show n2 + 12 + 165 ≤ _; omega)⟩) rfl (cat_of hcat) rfl dX7_process_50 (fun w1 hw1 => ?_)
  obtain ⟨q1, q2, q3, q4, q5, q6, q7, q8, rfl⟩ := hw1
  have hT := hw.2.2.1
  obtain ⟨ad, had⟩ : ∃ ad : Nat → Nat, ad = fun k => if k = 10 then q else if k = 11 then q1 else if k = 12 then q2 else if k = 13 then q3 else if k = 14 then q4 else if k = 15 then q5 else if k = 16 then q6 else if k = 17 then q7 else q8 := ⟨_, rfl⟩
  obtain ⟨σ1, eσ⟩ : ∃ σ1, σ1 = mkProc σ n u g ad := ⟨_, rfl⟩
  obtain ⟨p, hp⟩ : ∃ p, p = (nm n).toNat := ⟨_, rfl⟩
  have hfr : ∀ t, t ∈ tgProc p → t ∉ σ.2.1 := by rw [hp]; exact hf
  have eA : ∀ k a, σ1.1 k a = if (k, a) ∈ tgProc p then ad k else σ.1 k a := by rw [eσ, hp]; intro k a; rfl
  have eT : σ1.2.1 = σ.2.1 ++ tgProc p := by rw [eσ, hp]; rfl
  have eI : ∀ f a b, σ1.2.2.1 f a b = if f = 10 ∧ a = p ∧ b = 0 then Int32.ofInt n else if f = 11 ∧ a = p ∧ b = 0 then Int32.ofInt u else if f = 12 ∧ a = p ∧ b = 0 then Int32.ofInt g else if f = 13 ∧ a = p ∧ b = 0 then 1 else if 14 ≤ f ∧ f ≤ 27 ∧ f ≠ 17 ∧ f ≠ 18 ∧ a = p then 0 else if (f = 17 ∨ f = 18) ∧ a = 2 * p then 0 else σ.2.2.1 f a b := by rw [eσ, hp]; intro f a b; rfl
  have eL : ∀ f a b, σ1.2.2.2.1 f a b = if (f = 10 ∨ f = 12) ∧ a = p then 0 else if f = 11 ∧ a = 2 * p then 0 else σ.2.2.2.1 f a b := by rw [eσ, hp]; intro f a b; rfl
  have eR : ∀ f a b, σ1.2.2.2.2 f a b = if f = 10 ∧ a = p then none else σ.2.2.2.2 f a b := by rw [eσ, hp]; intro f a b; rfl
  have hx : Ext σ σ1 := ⟨fun k a h => ⟨by rw [eT]; exact List.mem_append_left _ h, by rw [eA, if_neg (fun z => hfr _ z h)]⟩, fun a => by rw [eA, if_neg (by simp [tgProc])]⟩
  have no : ∀ k a, (k, a) ∈ σ.2.1 → (k = 10 ∨ k = 11 ∨ (14 ≤ k ∧ k ≤ 18)) → a ≠ p := by
    intro k a hm hk z
    subst z
    refine hfr (k, a) ?_ hm
    simp only [tgProc, List.mem_cons, Prod.mk.injEq, List.not_mem_nil, or_false, and_true]
    omega
  have no2 : ∀ k a, (k, a) ∈ σ.2.1 → (k = 12 ∨ k = 13) → a ≠ 2 * p := by
    intro k a hm hk z
    subst z
    refine hfr (k, 2 * p) ?_ hm
    simp only [tgProc, List.mem_cons, Prod.mk.injEq, List.not_mem_nil, or_false, and_true]
    omega
  have kI : ∀ f, 10 ≤ f → f ≤ 27 → f ≠ 17 → f ≠ 18 → (ownI f = 10 ∨ ownI f = 11 ∨ (14 ≤ ownI f ∧ ownI f ≤ 18)) := by
    intro f a b c d
    have : f = 10 ∨ f = 11 ∨ f = 12 ∨ f = 13 ∨ f = 14 ∨ f = 15 ∨ f = 16 ∨ f = 19 ∨ f = 20 ∨ f = 21 ∨ f = 22 ∨ f = 23 ∨ f = 24 ∨ f = 25 ∨ f = 26 ∨ f = 27 := by omega
    rcases this with rfl | rfl | rfl | rfl | rfl | rfl | rfl | rfl | rfl | rfl | rfl | rfl | rfl | rfl | rfl | rfl <;> decide
  have hWL : WL (kC K) σ1 = WL (kC K) σ ++ [(q, .inr (2, [.int (Int32.ofInt n), .int (Int32.ofInt u), .int (Int32.ofInt g), .ref q1, .ref q2, .ref q4, .ref q5, .int 1, .int 0, .long 0, .int 0, .null])), (q1, .inl ((kC K) 0, 64, .inl (fun _ => 0))), (q2, .inr (1, [.long 0, .int 0, .ref q3])), (q3, .inl ((kC K) 0, 64, .inl (fun _ => 0))), (q4, .inr (5, [.int 0, .long 0, .int 0, .int 0])), (q5, .inr (4, [.ref q6, .ref q7, .ref q8, .int 0, .int 0, .int 0])), (q6, .inl ((kC K) 0, 8, .inl (fun _ => 0))), (q7, .inl ((kC K) 0, 8, .inl (fun _ => 0))), (q8, .inl ((kC K) 0, 8, .inl (fun _ => 0)))] := by
    rw [WL_app (tg := tgProc p) hT hx eT (fun k a f b hm ho => by
      rw [eI]
      by_cases h10 : 10 ≤ f ∧ f ≤ 27 ∧ f ≠ 17 ∧ f ≠ 18
      · have := no k a hm (by rw [← ho]; exact kI f h10.1 h10.2.1 h10.2.2.1 h10.2.2.2)
        rw [if_neg (by omega), if_neg (by omega), if_neg (by omega), if_neg (by omega), if_neg (by omega), if_neg (by omega)]
      · have h17 : ¬ ((f = 17 ∨ f = 18) ∧ a = 2 * p) := by
          rintro ⟨z, z2⟩
          refine no2 k a hm ?_ z2
          rcases z with rfl | rfl
          · exact Or.inl ho.symm
          · exact Or.inr ho.symm
        rw [if_neg (by omega), if_neg (by omega), if_neg (by omega), if_neg (by omega), if_neg (by omega), if_neg h17]) (fun k a f b hm ho => by
      rw [eL]
      have h1 : ¬ ((f = 10 ∨ f = 12) ∧ a = p) := by
        rintro ⟨z, z2⟩
        refine no k a hm ?_ z2
        rcases z with rfl | rfl
        · exact Or.inl ho.symm
        · exact Or.inr (Or.inr (by rw [← ho]; decide))
      have h2 : ¬ (f = 11 ∧ a = 2 * p) := by
        rintro ⟨rfl, z2⟩
        exact no2 k a hm (Or.inl ho.symm) z2
      rw [if_neg h1, if_neg h2]) (fun k a f b hm ho => by
      rw [eR]
      have h1 : ¬ (f = 10 ∧ a = p) := by
        rintro ⟨rfl, z2⟩
        exact no k a hm (Or.inl ho.symm) z2
      rw [if_neg h1])]
    congr 1
    have tA : ∀ k a, (k, a) ∈ tgProc p → σ1.1 k a = ad k := fun k a h => by rw [eA, if_pos h]
    have t10 : σ1.1 10 p = q := by rw [tA 10 p (by simp [tgProc]), had]; rfl
    have t11 : σ1.1 11 p = q1 := by rw [tA 11 p (by simp [tgProc]), had]; rfl
    have t12 : σ1.1 12 (2 * p) = q2 := by rw [tA 12 _ (by simp [tgProc]), had]; rfl
    have t13 : σ1.1 13 (2 * p) = q3 := by rw [tA 13 _ (by simp [tgProc]), had]; rfl
    have t14 : σ1.1 14 p = q4 := by rw [tA 14 p (by simp [tgProc]), had]; rfl
    have t15 : σ1.1 15 p = q5 := by rw [tA 15 p (by simp [tgProc]), had]; rfl
    have t16 : σ1.1 16 p = q6 := by rw [tA 16 p (by simp [tgProc]), had]; rfl
    have t17 : σ1.1 17 p = q7 := by rw [tA 17 p (by simp [tgProc]), had]; rfl
    have t18 : σ1.1 18 p = q8 := by rw [tA 18 p (by simp [tgProc]), had]; rfl
    have z : ∀ f b, 14 ≤ f → f ≤ 27 → f ≠ 17 → f ≠ 18 → σ1.2.2.1 f p b = 0 := fun f b a1 a2 a3 a4 => by
      rw [eI, if_neg (by omega), if_neg (by omega), if_neg (by omega), if_neg (by omega), if_pos (by omega)]
    have i10 : σ1.2.2.1 10 p 0 = Int32.ofInt n := by rw [eI, if_pos ⟨rfl, rfl, rfl⟩]
    have i11 : σ1.2.2.1 11 p 0 = Int32.ofInt u := by rw [eI, if_neg (by omega), if_pos ⟨rfl, rfl, rfl⟩]
    have i12 : σ1.2.2.1 12 p 0 = Int32.ofInt g := by rw [eI, if_neg (by omega), if_neg (by omega), if_pos ⟨rfl, rfl, rfl⟩]
    have i13 : σ1.2.2.1 13 p 0 = 1 := by rw [eI, if_neg (by omega), if_neg (by omega), if_neg (by omega), if_pos ⟨rfl, rfl, rfl⟩]
    have i17 : ∀ f b, f = 17 ∨ f = 18 → σ1.2.2.1 f (2 * p) b = 0 := fun f b hf => by
      rw [eI, if_neg (by omega), if_neg (by omega), if_neg (by omega), if_neg (by omega), if_neg (by omega), if_pos ⟨hf, rfl⟩]
    have L10 : σ1.2.2.2.1 10 p 0 = 0 := by rw [eL, if_pos ⟨Or.inl rfl, rfl⟩]
    have L12 : σ1.2.2.2.1 12 p 0 = 0 := by rw [eL, if_pos ⟨Or.inr rfl, rfl⟩]
    have L11 : σ1.2.2.2.1 11 (2 * p) 0 = 0 := by rw [eL, if_neg (by omega), if_pos ⟨rfl, rfl⟩]
    have R10 : σ1.2.2.2.2 10 p 0 = none := by rw [eR, if_pos ⟨rfl, rfl⟩]
    have row : ∀ f, 14 ≤ f → f ≤ 27 → f ≠ 17 → f ≠ 18 → σ1.2.2.1 f p = fun _ => 0 := fun f a1 a2 a3 a4 => funext fun b => z f b a1 a2 a3 a4
    have row18 : σ1.2.2.1 18 (2 * p) = fun _ => 0 := funext fun b => i17 18 b (Or.inr rfl)
    have c10 : cell (kC K) σ1 10 p = .inr (2, [.int (Int32.ofInt n), .int (Int32.ofInt u), .int (Int32.ofInt g), .ref q1, .ref q2, .ref q4, .ref q5, .int 1, .int 0, .long 0, .int 0, .null]) := by
      show Sum.inr (2, [Value.int (σ1.2.2.1 10 p 0), Value.int (σ1.2.2.1 11 p 0), Value.int (σ1.2.2.1 12 p 0), Value.ref (σ1.1 11 p), Value.ref (σ1.1 12 (2 * p)), Value.ref (σ1.1 14 p), Value.ref (σ1.1 15 p), Value.int (σ1.2.2.1 13 p 0), Value.int (σ1.2.2.1 14 p 0), Value.long (σ1.2.2.2.1 10 p 0), Value.int (σ1.2.2.1 15 p 0), va_rf ((σ1.2.2.2.2 10 p 0).map (σ1.1 20))]) = _
      rw [i10, i11, i12, t11, t12, t14, t15, i13, z 14 0 (by decide) (by decide) (by decide) (by decide), L10, z 15 0 (by decide) (by decide) (by decide) (by decide), R10]
      rfl
    have c11 : cell (kC K) σ1 11 p = .inl (kC K 0, 64, .inl (fun _ => 0)) := by
      show Sum.inl (kC K 0, 64, Sum.inl (σ1.2.2.1 16 p)) = _
      rw [row 16 (by decide) (by decide) (by decide) (by decide)]
    have c12 : cell (kC K) σ1 12 (2 * p) = .inr (1, [.long 0, .int 0, .ref q3]) := by
      show Sum.inr (1, [Value.long (σ1.2.2.2.1 11 (2 * p) 0), Value.int (σ1.2.2.1 17 (2 * p) 0), Value.ref (σ1.1 13 (2 * p))]) = _
      rw [L11, i17 17 0 (Or.inl rfl), t13]
    have c13 : cell (kC K) σ1 13 (2 * p) = .inl (kC K 0, 64, .inl (fun _ => 0)) := by
      show Sum.inl (kC K 0, 64, Sum.inl (σ1.2.2.1 18 (2 * p))) = _
      rw [row18]
    have c14 : cell (kC K) σ1 14 p = .inr (5, [.int 0, .long 0, .int 0, .int 0]) := by
      show Sum.inr (5, [Value.int (σ1.2.2.1 19 p 0), Value.long (σ1.2.2.2.1 12 p 0), Value.int (σ1.2.2.1 20 p 0), Value.int (σ1.2.2.1 21 p 0)]) = _
      rw [z 19 0 (by decide) (by decide) (by decide) (by decide), L12, z 20 0 (by decide) (by decide) (by decide) (by decide), z 21 0 (by decide) (by decide) (by decide) (by decide)]
    have c15 : cell (kC K) σ1 15 p = .inr (4, [.ref q6, .ref q7, .ref q8, .int 0, .int 0, .int 0]) := by
      show Sum.inr (4, [Value.ref (σ1.1 16 p), Value.ref (σ1.1 17 p), Value.ref (σ1.1 18 p), Value.int (σ1.2.2.1 25 p 0), Value.int (σ1.2.2.1 26 p 0), Value.int (σ1.2.2.1 27 p 0)]) = _
      rw [t16, t17, t18, z 25 0 (by decide) (by decide) (by decide) (by decide), z 26 0 (by decide) (by decide) (by decide) (by decide), z 27 0 (by decide) (by decide) (by decide) (by decide)]
    have c16 : cell (kC K) σ1 16 p = .inl (kC K 0, 8, .inl (fun _ => 0)) := by
      show Sum.inl (kC K 0, 8, Sum.inl (σ1.2.2.1 22 p)) = _
      rw [row 22 (by decide) (by decide) (by decide) (by decide)]
    have c17 : cell (kC K) σ1 17 p = .inl (kC K 0, 8, .inl (fun _ => 0)) := by
      show Sum.inl (kC K 0, 8, Sum.inl (σ1.2.2.1 23 p)) = _
      rw [row 23 (by decide) (by decide) (by decide) (by decide)]
    have c18 : cell (kC K) σ1 18 p = .inl (kC K 0, 8, .inl (fun _ => 0)) := by
      show Sum.inl (kC K 0, 8, Sum.inl (σ1.2.2.1 24 p)) = _
      rw [row 24 (by decide) (by decide) (by decide) (by decide)]
    show [(σ1.1 10 p, cell (kC K) σ1 10 p), (σ1.1 11 p, cell (kC K) σ1 11 p), (σ1.1 12 (2 * p), cell (kC K) σ1 12 (2 * p)), (σ1.1 13 (2 * p), cell (kC K) σ1 13 (2 * p)), (σ1.1 14 p, cell (kC K) σ1 14 p), (σ1.1 15 p, cell (kC K) σ1 15 p), (σ1.1 16 p, cell (kC K) σ1 16 p), (σ1.1 17 p, cell (kC K) σ1 17 p), (σ1.1 18 p, cell (kC K) σ1 18 p)] = _
    rw [t10, t11, t12, t13, t14, t15, t16, t17, t18, c10, c11, c12, c13, c14, c15, c16, c17, c18]
  have hT1 : WT σ1 := by
    refine ⟨fun k a hm t ht => ?_, fun f a b x h => ?_⟩
    · rw [eT] at hm ⊢
      rcases List.mem_append.mp hm with h | h
      · exact List.mem_append_left _ (hT.1 k a h t ht)
      · refine List.mem_append_right _ ?_
        simp only [tgProc, List.mem_cons, Prod.mk.injEq, List.not_mem_nil, or_false] at h
        rcases h with ⟨rfl, rfl⟩ | ⟨rfl, rfl⟩ | ⟨rfl, rfl⟩ | ⟨rfl, rfl⟩ | ⟨rfl, rfl⟩ | ⟨rfl, rfl⟩ | ⟨rfl, rfl⟩ | ⟨rfl, rfl⟩ | ⟨rfl, rfl⟩ <;> simp only [subs, List.mem_cons, List.not_mem_nil, or_false] at ht
        · rcases ht with rfl | rfl | rfl | rfl <;> simp [tgProc]
        · subst ht; simp [tgProc]
        · rcases ht with rfl | rfl | rfl <;> simp [tgProc]
    · rw [eR] at h
      rw [eT]
      by_cases z : f = 10 ∧ a = p
      · rw [if_pos z] at h; cases h
      · rw [if_neg z] at h; exact List.mem_append_left _ (hT.2 f a b x h)
  refine jc_fin (st := st) hw.2.2.2.1 hx hT1 hWL hl.2 ho (a := (nm n).toNat) (by rw [eT, ← hp]; exact List.mem_append_right _ List.mem_cons_self) (by rw [← hp, eA, if_pos (by simp [tgProc]), had]; rfl) (k σ1 trivial ⟨ad, eσ⟩)
set_option maxHeartbeats 4000000 in
set_option maxRecDepth 100000 in
theorem new_X7_makeQueue {K : JK} (hC : Cx K cX7_makeQueue 8 RX7) {n : Int} {l : List (Option WV)} {st : List WV} {σ : St} {n1 n2 : Nat} (hr : 3 ≤ (kRm K).frames ∧ 60 ≤ (kRm K).locals ∧ n1 + 2 ≤ (kRm K).cells ∧ n2 + 54 ≤ (kRm K).slots) (h4 : l[4]? = some (some (wi n))) (hf : freeQueue σ n) (k : ∀ σ1, (nm n).toNat < 12 → newQueue σ n σ1 → J K 62 l (wr 20 (some (nm n).toNat) :: st) σ1 (n1 + 2) (n2 + 54)) (hcat : (st.map wcat).sum ≤ 4 := by exact Nat.le_of_ble_eq_true rfl) : J K 53 l st σ n1 n2 := by
  intro H locs ls hw hl ho
  refine (?_ : JC K 53 (lo σ 0 l) (st.map (den σ)) (WL (kC K) σ) n1 n2) H locs ls hw.1 hw.2.1 hw.2.2.2.2 hl.1
  refine c_new hC (ci := 3) (C := RX3) (T := TX3) (ty := tyX3) (N := 14) (fs := [.int 0, .int 0, .int 0, .int 0, .int 0, .int 0, .int 0, .int 0, .int 0, .int 0, .null, .int 0, .int 0, .int 0]) rfl iw3 tyX3_ok (wg 363 (by decide +kernel) (by decide +kernel)) (wg 364 (by decide +kernel) (by decide +kernel)) (wg 67 (by decide +kernel) (by decide +kernel)) (fun j hj => by rcases (show j = 0 ∨ j = 1 ∨ j = 2 ∨ j = 3 ∨ j = 4 ∨ j = 5 ∨ j = 6 ∨ j = 7 ∨ j = 8 ∨ j = 9 ∨ j = 10 ∨ j = 11 ∨ j = 12 ∨ j = 13 by omega) with rfl | rfl | rfl | rfl | rfl | rfl | rfl | rfl | rfl | rfl | rfl | rfl | rfl | rfl <;> rfl) (by omega) (by omega) dX7_makeQueue_53 (fun q => ?_)
  refine c_dup hC dX7_makeQueue_56 ?_
  refine c_iloadW hC dX7_makeQueue_57 h4 ?_
  refine c_init hC (nA := 1) (y := yX3_init)  (As := [.int (Int32.ofInt n)]) (w0 := WL (kC K) σ) (o := (.inr (3, [.int 0, .int 0, .int 0, .int 0, .int 0, .int 0, .int 0, .int 0, .int 0, .int 0, .null, .int 0, .int 0, .int 0]))) k_X3_init (wg 365 (by decide +kernel) (by decide +kernel)) (wg 366 (by decide +kernel) (by decide +kernel)) (wg 67 (by decide +kernel) (by decide +kernel)) (wg 367 (by decide +kernel) (by decide +kernel)) rfl ⟨by decide, by decide, by decide +kernel⟩ rfl (by have := hr; exact ⟨(by show 3 ≤ _; omega), (by show 54 ≤ _; omega)⟩) (by exact ⟨(by show n1 + 1 + 1 ≤ _; omega), (by show n2 + 14 + 40 ≤ _; omega)⟩) rfl (cat_of hcat) rfl dX7_makeQueue_59 (fun w1 hw1 => ?_)
  obtain ⟨q1, rfl⟩ := hw1
  have hT := hw.2.2.1
  obtain ⟨σ1, eσ⟩ : ∃ σ1, σ1 = mkQueue σ n q q1 := ⟨_, rfl⟩
  obtain ⟨t, ht⟩ : ∃ t, t = (nm n).toNat := ⟨_, rfl⟩
  obtain ⟨ht12, f20, f21⟩ := hf
  rw [← ht] at ht12 f20 f21
  have eA : ∀ k a, σ1.1 k a = if k = 20 ∧ a = t then q else if k = 21 ∧ a = t then q1 else σ.1 k a := by rw [eσ, ht]; intro k a; rfl
  have eT : σ1.2.1 = σ.2.1 ++ [(20, t), (21, t)] := by rw [eσ, ht]; rfl
  have eI : ∀ f a b, σ1.2.2.1 f a b = if f = 30 ∧ a = t ∧ b = 0 then Int32.ofInt n else if f = 42 ∧ a = t ∧ b = 0 then 256 else if 30 ≤ f ∧ f ≤ 42 ∧ a = t then 0 else σ.2.2.1 f a b := by rw [eσ, ht]; intro f a b; rfl
  have eL : ∀ f a b, σ1.2.2.2.1 f a b = σ.2.2.2.1 f a b := by rw [eσ]; intro f a b; rfl
  have eR : ∀ f a b, σ1.2.2.2.2 f a b = if f = 11 ∧ a = t then none else σ.2.2.2.2 f a b := by rw [eσ, ht]; intro f a b; rfl
  have hx : Ext σ σ1 := ⟨fun k a h => ⟨by rw [eT]; exact List.mem_append_left _ h, by
    rw [eA, if_neg (by rintro ⟨rfl, rfl⟩; exact f20 h), if_neg (by rintro ⟨rfl, rfl⟩; exact f21 h)]⟩, fun a => by rw [eA, if_neg (by omega), if_neg (by omega)]⟩
  have k20 : ∀ f, 30 ≤ f → f ≤ 42 → ownI f = 20 := by
    intro f a b
    have : f = 30 ∨ f = 31 ∨ f = 32 ∨ f = 33 ∨ f = 34 ∨ f = 35 ∨ f = 36 ∨ f = 37 ∨ f = 38 ∨ f = 39 ∨ f = 40 ∨ f = 41 ∨ f = 42 := by omega
    rcases this with rfl | rfl | rfl | rfl | rfl | rfl | rfl | rfl | rfl | rfl | rfl | rfl | rfl <;> rfl
  have hWL : WL (kC K) σ1 = WL (kC K) σ ++ [(q, .inr (3, [.int (Int32.ofInt n), .int 0, .int 0, .int 0, .int 0, .int 0, .int 0, .int 0, .int 0, .int 0, .ref q1, .int 0, .int 0, .int 256])), (q1, .inl ((kC K) 5, 40, .inr (.inr (.inr (.inr (fun _ => none))))))] := by
    rw [WL_app (tg := [(20, t), (21, t)]) hT hx eT (fun k a f b hm ho => by
      rw [eI]
      by_cases h3 : 30 ≤ f ∧ f ≤ 42 ∧ a = t
      · have := k20 f h3.1 h3.2.1
        exact absurd (by rw [← h3.2.2, ← this, ho]; exact hm) f20
      · rw [if_neg (by omega), if_neg (by omega), if_neg h3]) (fun k a f b hm ho => eL f a b) (fun k a f b hm ho => by
      rw [eR]
      have h1 : ¬ (f = 11 ∧ a = t) := by
        rintro ⟨rfl, rfl⟩
        rw [← ho] at hm
        exact f21 hm
      rw [if_neg h1])]
    congr 1
    have t20 : σ1.1 20 t = q := by rw [eA, if_pos ⟨rfl, rfl⟩]
    have t21 : σ1.1 21 t = q1 := by rw [eA, if_neg (by omega), if_pos ⟨rfl, rfl⟩]
    have i30 : σ1.2.2.1 30 t 0 = Int32.ofInt n := by rw [eI, if_pos ⟨rfl, rfl, rfl⟩]
    have i42 : σ1.2.2.1 42 t 0 = 256 := by rw [eI, if_neg (by omega), if_pos ⟨rfl, rfl, rfl⟩]
    have z : ∀ f, 31 ≤ f → f ≤ 41 → σ1.2.2.1 f t 0 = 0 := fun f a1 a2 => by rw [eI, if_neg (by omega), if_neg (by omega), if_pos (by omega)]
    have c20 : cell (kC K) σ1 20 t = .inr (3, [.int (Int32.ofInt n), .int 0, .int 0, .int 0, .int 0, .int 0, .int 0, .int 0, .int 0, .int 0, .ref q1, .int 0, .int 0, .int 256]) := by
      rw [cell_obj (show aTy 20 t = 0 from rfl), oCi_lt ht12, show oSp 20 t = [(0, 30), (0, 31), (0, 32), (0, 33), (0, 34), (0, 35), (0, 36), (0, 37), (0, 38), (0, 39), (2, 21), (0, 40), (0, 41), (0, 42)] by simp [oSp, ht12]]
      show Sum.inr (3, [Value.int (σ1.2.2.1 30 t 0), Value.int (σ1.2.2.1 31 t 0), Value.int (σ1.2.2.1 32 t 0), Value.int (σ1.2.2.1 33 t 0), Value.int (σ1.2.2.1 34 t 0), Value.int (σ1.2.2.1 35 t 0), Value.int (σ1.2.2.1 36 t 0), Value.int (σ1.2.2.1 37 t 0), Value.int (σ1.2.2.1 38 t 0), Value.int (σ1.2.2.1 39 t 0), Value.ref (σ1.1 21 t), Value.int (σ1.2.2.1 40 t 0), Value.int (σ1.2.2.1 41 t 0), Value.int (σ1.2.2.1 42 t 0)]) = _
      rw [i30, i42, t21, z 31 (by decide) (by decide), z 32 (by decide) (by decide), z 33 (by decide) (by decide), z 34 (by decide) (by decide), z 35 (by decide) (by decide), z 36 (by decide) (by decide), z 37 (by decide) (by decide), z 38 (by decide) (by decide), z 39 (by decide) (by decide), z 40 (by decide) (by decide), z 41 (by decide) (by decide)]
    have c21 : cell (kC K) σ1 21 t = .inl (kC K 5, 40, .inr (.inr (.inr (.inr (fun _ => none))))) := by
      show Sum.inl (kC K 5, 40, Sum.inr (Sum.inr (Sum.inr (Sum.inr (fun j => (σ1.2.2.2.2 11 t j).map (σ1.1 12)))))) = _
      have : (fun j => (σ1.2.2.2.2 11 t j).map (σ1.1 12)) = fun _ => none := by
        funext j
        rw [eR, if_pos ⟨rfl, rfl⟩]
        rfl
      rw [this]
    show [(σ1.1 20 t, cell (kC K) σ1 20 t), (σ1.1 21 t, cell (kC K) σ1 21 t)] = _
    rw [t20, t21, c20, c21]
  have hT1 : WT σ1 := by
    refine ⟨fun k a hm tt htt => ?_, fun f a b x h => ?_⟩
    · rw [eT] at hm ⊢
      rcases List.mem_append.mp hm with h | h
      · exact List.mem_append_left _ (hT.1 k a h tt htt)
      · refine List.mem_append_right _ ?_
        simp only [List.mem_cons, Prod.mk.injEq, List.not_mem_nil, or_false] at h
        rcases h with ⟨rfl, rfl⟩ | ⟨rfl, rfl⟩
        · simp only [subs, ht12, if_true, List.mem_cons, List.not_mem_nil, or_false] at htt
          subst htt
          exact List.mem_cons_of_mem _ List.mem_cons_self
        · simp [subs] at htt
    · rw [eR] at h
      rw [eT]
      by_cases z : f = 11 ∧ a = t
      · rw [if_pos z] at h; cases h
      · rw [if_neg z] at h; exact List.mem_append_left _ (hT.2 f a b x h)
  refine jc_fin (st := st) hw.2.2.2.1 hx hT1 hWL hl.2 ho (a := (nm n).toNat) (by rw [eT, ← ht]; exact List.mem_append_right _ List.mem_cons_self) (by rw [← ht, eA, if_pos ⟨rfl, rfl⟩]) (k σ1 (by rw [← ht]; exact ht12) ⟨q, q1, eσ⟩)
set_option maxHeartbeats 4000000 in
set_option maxRecDepth 100000 in
theorem new_X7_makeSet {K : JK} (hC : Cx K cX7_makeSet 9 RX7) {n : Int} {l : List (Option WV)} {st : List WV} {σ : St} {n1 n2 : Nat} (hr : 3 ≤ (kRm K).frames ∧ 60 ≤ (kRm K).locals ∧ n1 + 6 ≤ (kRm K).cells ∧ n2 + 177 ≤ (kRm K).slots) (h5 : l[5]? = some (some (wi n))) (hf : freeCounterSet σ n) (k : ∀ σ1, 12 ≤ 12 + (nm n).toNat → newCounterSet σ n σ1 → J K 69 l (wr 20 (some (12 + (nm n).toNat)) :: st) σ1 (n1 + 6) (n2 + 177)) (hcat : (st.map wcat).sum ≤ 4 := by exact Nat.le_of_ble_eq_true rfl) : J K 60 l st σ n1 n2 := by
  intro H locs ls hw hl ho
  refine (?_ : JC K 60 (lo σ 0 l) (st.map (den σ)) (WL (kC K) σ) n1 n2) H locs ls hw.1 hw.2.1 hw.2.2.2.2 hl.1
  refine c_new hC (ci := 0) (C := RX0) (T := TX0) (ty := tyX0) (N := 17) (fs := [.int 0, .int 0, .int 0, .int 0, .int 0, .int 0, .int 0, .int 0, .int 0, .int 0, .int 0, .null, .null, .null, .null, .null, .int 0]) rfl iw0 tyX0_ok (wg 258 (by decide +kernel) (by decide +kernel)) (wg 310 (by decide +kernel) (by decide +kernel)) (wg 68 (by decide +kernel) (by decide +kernel)) (fun j hj => by rcases (show j = 0 ∨ j = 1 ∨ j = 2 ∨ j = 3 ∨ j = 4 ∨ j = 5 ∨ j = 6 ∨ j = 7 ∨ j = 8 ∨ j = 9 ∨ j = 10 ∨ j = 11 ∨ j = 12 ∨ j = 13 ∨ j = 14 ∨ j = 15 ∨ j = 16 by omega) with rfl | rfl | rfl | rfl | rfl | rfl | rfl | rfl | rfl | rfl | rfl | rfl | rfl | rfl | rfl | rfl | rfl <;> rfl) (by omega) (by omega) dX7_makeSet_60 (fun q => ?_)
  refine c_dup hC dX7_makeSet_63 ?_
  refine c_iloadW hC dX7_makeSet_64 h5 ?_
  refine c_init hC (nA := 1) (y := yX0_init)  (As := [.int (Int32.ofInt n)]) (w0 := WL (kC K) σ) (o := (.inr (0, [.int 0, .int 0, .int 0, .int 0, .int 0, .int 0, .int 0, .int 0, .int 0, .int 0, .int 0, .null, .null, .null, .null, .null, .int 0]))) k_X0_init (wg 476 (by decide +kernel) (by decide +kernel)) (wg 477 (by decide +kernel) (by decide +kernel)) (wg 68 (by decide +kernel) (by decide +kernel)) (wg 478 (by decide +kernel) (by decide +kernel)) rfl ⟨by decide, by decide, by decide +kernel⟩ rfl (by have := hr; exact ⟨(by show 3 ≤ _; omega), (by show 54 ≤ _; omega)⟩) (by exact ⟨(by show n1 + 1 + 5 ≤ _; omega), (by show n2 + 17 + 160 ≤ _; omega)⟩) rfl (cat_of hcat) rfl dX7_makeSet_66 (fun w1 hw1 => ?_)
  obtain ⟨q1, q2, q3, q4, q5, rfl⟩ := hw1
  have hT := hw.2.2.1
  obtain ⟨ad, had⟩ : ∃ ad : Nat → Nat, ad = fun k => if k = 20 then q else if k = 22 then q1 else if k = 23 then q2 else if k = 24 then q3 else if k = 25 then q4 else q5 := ⟨_, rfl⟩
  obtain ⟨σ1, eσ⟩ : ∃ σ1, σ1 = mkCounterSet σ n ad := ⟨_, rfl⟩
  obtain ⟨t, ht⟩ : ∃ t, t = 12 + (nm n).toNat := ⟨_, rfl⟩
  have ht12 : 12 ≤ t := by omega
  have hfr : ∀ x, x ∈ tgSet t → x ∉ σ.2.1 := by rw [ht]; exact hf
  have eA : ∀ k a, σ1.1 k a = if (k, a) ∈ tgSet t then ad k else σ.1 k a := by rw [eσ, ht]; intro k a; rfl
  have eT : σ1.2.1 = σ.2.1 ++ tgSet t := by rw [eσ, ht]; rfl
  have eI : ∀ f a b, σ1.2.2.1 f a b = if f = 30 ∧ a = t ∧ b = 0 then Int32.ofInt n else if 30 ≤ f ∧ f ≤ 51 ∧ a = t then 0 else σ.2.2.1 f a b := by rw [eσ, ht]; intro f a b; rfl
  have eL : ∀ f a b, σ1.2.2.2.1 f a b = σ.2.2.2.1 f a b := by rw [eσ]; intro f a b; rfl
  have eR : ∀ f a b, σ1.2.2.2.2 f a b = σ.2.2.2.2 f a b := by rw [eσ]; intro f a b; rfl
  have hx : Ext σ σ1 := ⟨fun k a h => ⟨by rw [eT]; exact List.mem_append_left _ h, by rw [eA, if_neg (fun z => hfr _ z h)]⟩, fun a => by rw [eA, if_neg (by simp [tgSet])]⟩
  have no : ∀ k a, (k, a) ∈ σ.2.1 → (k = 20 ∨ (22 ≤ k ∧ k ≤ 26)) → a ≠ t := by
    intro k a hm hk z
    subst z
    refine hfr (k, a) ?_ hm
    simp only [tgSet, List.mem_cons, Prod.mk.injEq, List.not_mem_nil, or_false, and_true]
    omega
  have kI : ∀ f, 30 ≤ f → f ≤ 51 → (ownI f = 20 ∨ (22 ≤ ownI f ∧ ownI f ≤ 26)) := by
    intro f a b
    have : f = 30 ∨ f = 31 ∨ f = 32 ∨ f = 33 ∨ f = 34 ∨ f = 35 ∨ f = 36 ∨ f = 37 ∨ f = 38 ∨ f = 39 ∨ f = 40 ∨ f = 41 ∨ f = 42 ∨ f = 43 ∨ f = 44 ∨ f = 45 ∨ f = 46 ∨ f = 47 ∨ f = 48 ∨ f = 49 ∨ f = 50 ∨ f = 51 := by omega
    rcases this with rfl | rfl | rfl | rfl | rfl | rfl | rfl | rfl | rfl | rfl | rfl | rfl | rfl | rfl | rfl | rfl | rfl | rfl | rfl | rfl | rfl | rfl <;> decide
  have hWL : WL (kC K) σ1 = WL (kC K) σ ++ [(q, .inr (0, [.int (Int32.ofInt n), .int 0, .int 0, .int 0, .int 0, .int 0, .int 0, .int 0, .int 0, .int 0, .int 0, .ref q1, .ref q2, .ref q3, .ref q4, .ref q5, .int 0])), (q1, .inl ((kC K) 0, 8, .inl (fun _ => 0))), (q2, .inl ((kC K) 0, 8, .inl (fun _ => 0))), (q3, .inl ((kC K) 0, 128, .inl (fun _ => 0))), (q4, .inl ((kC K) 0, 8, .inl (fun _ => 0))), (q5, .inl ((kC K) 0, 8, .inl (fun _ => 0)))] := by
    rw [WL_app (tg := tgSet t) hT hx eT (fun k a f b hm ho => by
      rw [eI]
      by_cases h3 : 30 ≤ f ∧ f ≤ 51
      · have := no k a hm (by rw [← ho]; exact kI f h3.1 h3.2)
        rw [if_neg (by omega), if_neg (by omega)]
      · rw [if_neg (by omega), if_neg (by omega)]) (fun k a f b hm ho => eL f a b) (fun k a f b hm ho => eR f a b)]
    congr 1
    have tA : ∀ k a, (k, a) ∈ tgSet t → σ1.1 k a = ad k := fun k a h => by rw [eA, if_pos h]
    have t20 : σ1.1 20 t = q := by rw [tA 20 t (by simp [tgSet]), had]; rfl
    have t22 : σ1.1 22 t = q1 := by rw [tA 22 t (by simp [tgSet]), had]; rfl
    have t23 : σ1.1 23 t = q2 := by rw [tA 23 t (by simp [tgSet]), had]; rfl
    have t24 : σ1.1 24 t = q3 := by rw [tA 24 t (by simp [tgSet]), had]; rfl
    have t25 : σ1.1 25 t = q4 := by rw [tA 25 t (by simp [tgSet]), had]; rfl
    have t26 : σ1.1 26 t = q5 := by rw [tA 26 t (by simp [tgSet]), had]; rfl
    have i30 : σ1.2.2.1 30 t 0 = Int32.ofInt n := by rw [eI, if_pos ⟨rfl, rfl, rfl⟩]
    have z : ∀ f b, 31 ≤ f → f ≤ 51 → σ1.2.2.1 f t b = 0 := fun f b a1 a2 => by rw [eI, if_neg (by omega), if_pos (by omega)]
    have row : ∀ f, 31 ≤ f → f ≤ 51 → σ1.2.2.1 f t = fun _ => 0 := fun f a1 a2 => funext fun b => z f b a1 a2
    have c20 : cell (kC K) σ1 20 t = .inr (0, [.int (Int32.ofInt n), .int 0, .int 0, .int 0, .int 0, .int 0, .int 0, .int 0, .int 0, .int 0, .int 0, .ref q1, .ref q2, .ref q3, .ref q4, .ref q5, .int 0]) := by
      have hn : ¬ t < 12 := by omega
      rw [cell_obj (show aTy 20 t = 0 from rfl), oCi_ge ht12, show oSp 20 t = [(0, 30), (0, 31), (0, 32), (0, 33), (0, 34), (0, 35), (0, 36), (0, 37), (0, 38), (0, 39), (0, 45), (2, 22), (2, 23), (2, 24), (2, 25), (2, 26), (0, 51)] by simp [oSp, hn]]
      show Sum.inr (0, [Value.int (σ1.2.2.1 30 t 0), Value.int (σ1.2.2.1 31 t 0), Value.int (σ1.2.2.1 32 t 0), Value.int (σ1.2.2.1 33 t 0), Value.int (σ1.2.2.1 34 t 0), Value.int (σ1.2.2.1 35 t 0), Value.int (σ1.2.2.1 36 t 0), Value.int (σ1.2.2.1 37 t 0), Value.int (σ1.2.2.1 38 t 0), Value.int (σ1.2.2.1 39 t 0), Value.int (σ1.2.2.1 45 t 0), Value.ref (σ1.1 22 t), Value.ref (σ1.1 23 t), Value.ref (σ1.1 24 t), Value.ref (σ1.1 25 t), Value.ref (σ1.1 26 t), Value.int (σ1.2.2.1 51 t 0)]) = _
      rw [i30, t22, t23, t24, t25, t26, z 31 0 (by decide) (by decide), z 32 0 (by decide) (by decide), z 33 0 (by decide) (by decide), z 34 0 (by decide) (by decide), z 35 0 (by decide) (by decide), z 36 0 (by decide) (by decide), z 37 0 (by decide) (by decide), z 38 0 (by decide) (by decide), z 39 0 (by decide) (by decide), z 45 0 (by decide) (by decide), z 51 0 (by decide) (by decide)]
    have c22 : cell (kC K) σ1 22 t = .inl (kC K 0, 8, .inl (fun _ => 0)) := by
      show Sum.inl (kC K 0, 8, Sum.inl (σ1.2.2.1 46 t)) = _
      rw [row 46 (by decide) (by decide)]
    have c23 : cell (kC K) σ1 23 t = .inl (kC K 0, 8, .inl (fun _ => 0)) := by
      show Sum.inl (kC K 0, 8, Sum.inl (σ1.2.2.1 47 t)) = _
      rw [row 47 (by decide) (by decide)]
    have c24 : cell (kC K) σ1 24 t = .inl (kC K 0, 128, .inl (fun _ => 0)) := by
      show Sum.inl (kC K 0, 128, Sum.inl (σ1.2.2.1 48 t)) = _
      rw [row 48 (by decide) (by decide)]
    have c25 : cell (kC K) σ1 25 t = .inl (kC K 0, 8, .inl (fun _ => 0)) := by
      show Sum.inl (kC K 0, 8, Sum.inl (σ1.2.2.1 49 t)) = _
      rw [row 49 (by decide) (by decide)]
    have c26 : cell (kC K) σ1 26 t = .inl (kC K 0, 8, .inl (fun _ => 0)) := by
      show Sum.inl (kC K 0, 8, Sum.inl (σ1.2.2.1 50 t)) = _
      rw [row 50 (by decide) (by decide)]
    show [(σ1.1 20 t, cell (kC K) σ1 20 t), (σ1.1 22 t, cell (kC K) σ1 22 t), (σ1.1 23 t, cell (kC K) σ1 23 t), (σ1.1 24 t, cell (kC K) σ1 24 t), (σ1.1 25 t, cell (kC K) σ1 25 t), (σ1.1 26 t, cell (kC K) σ1 26 t)] = _
    rw [t20, t22, t23, t24, t25, t26, c20, c22, c23, c24, c25, c26]
  have hT1 : WT σ1 := by
    refine ⟨fun k a hm tt htt => ?_, fun f a b x h => ?_⟩
    · rw [eT] at hm ⊢
      rcases List.mem_append.mp hm with h | h
      · exact List.mem_append_left _ (hT.1 k a h tt htt)
      · refine List.mem_append_right _ ?_
        have hn : ¬ t < 12 := by omega
        simp only [tgSet, List.mem_cons, Prod.mk.injEq, List.not_mem_nil, or_false] at h
        rcases h with ⟨rfl, rfl⟩ | ⟨rfl, rfl⟩ | ⟨rfl, rfl⟩ | ⟨rfl, rfl⟩ | ⟨rfl, rfl⟩ | ⟨rfl, rfl⟩
        · simp only [subs, hn, if_false, List.mem_cons, List.not_mem_nil, or_false] at htt
          rcases htt with rfl | rfl | rfl | rfl | rfl <;> simp [tgSet]
        all_goals (simp [subs] at htt)
    · rw [eR] at h
      rw [eT]
      exact List.mem_append_left _ (hT.2 f a b x h)
  refine jc_fin (st := st) hw.2.2.2.1 hx hT1 hWL hl.2 ho (a := 12 + (nm n).toNat) (by rw [eT, ← ht]; exact List.mem_append_right _ List.mem_cons_self) (by rw [← ht, eA, if_pos (by simp [tgSet]), had]; rfl) (k σ1 (by rw [← ht]; exact ht12) ⟨ad, eσ⟩)
