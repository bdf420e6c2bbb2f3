/-! BASE 2: what a store's change does to the cells; the judgement -/
theorem cell_obj {aC : Nat → ClassId} {σ : St} {k a : Nat} (h : aTy k a = 0) : cell aC σ k a = .inr (oCi k a, (oSp k a).map (vF σ a)) := by unfold cell; simp only [h]
theorem cell_uI {aC : Nat → ClassId} {σ : St} {f a0 b k a : Nat} {v : Int} (h : ¬ (k = ownI f ∧ a = a0)) : cell aC (uI σ f a0 b v) k a = cell aC σ k a := by
  have key : ∀ f', ownI f' = k → (uI σ f a0 b v).2.2.1 f' a = σ.2.2.1 f' a := by
    intro f' hf
    funext j
    show (if f' = f ∧ a = a0 ∧ j = b then _ else _) = _
    rw [if_neg]
    rintro ⟨rfl, rfl, _⟩
    exact h ⟨hf.symm, rfl⟩
  by_cases ht : aTy k a = 0
  · rw [cell_obj ht, cell_obj ht]
    refine congrArg (fun z => Sum.inr (oCi k a, z)) (List.map_congr_left fun sp hsp => ?_)
    obtain ⟨t, f'⟩ := sp
    obtain ⟨h0, -, -⟩ := sp_own hsp ht
    match t with
    | 0 => exact congrArg Value.int (congrFun (key f' (h0 rfl)) 0)
    | 1 => rfl
    | 2 => rfl
    | 3 => rfl
    | 4 => rfl
    | n + 5 => rfl
  · obtain ⟨h1, -, -⟩ := fd_own ht
    unfold cell
    split <;> first | rfl | (rename_i e; exact absurd e ht) | (rename_i e; rw [key _ (h1 (Or.inl e))]) | (rename_i e; rw [key _ (h1 (Or.inr e))])
theorem cell_uL {aC : Nat → ClassId} {σ : St} {f a0 b k a : Nat} {v : Int} (h : ¬ (k = ownL f ∧ a = a0)) : cell aC (uL σ f a0 b v) k a = cell aC σ k a := by
  have key : ∀ f', ownL f' = k → (uL σ f a0 b v).2.2.2.1 f' a = σ.2.2.2.1 f' a := by
    intro f' hf
    funext j
    show (if f' = f ∧ a = a0 ∧ j = b then _ else _) = _
    rw [if_neg]
    rintro ⟨rfl, rfl, _⟩
    exact h ⟨hf.symm, rfl⟩
  by_cases ht : aTy k a = 0
  · rw [cell_obj ht, cell_obj ht]
    refine congrArg (fun z => Sum.inr (oCi k a, z)) (List.map_congr_left fun sp hsp => ?_)
    obtain ⟨t, f'⟩ := sp
    obtain ⟨-, h0, -⟩ := sp_own hsp ht
    match t with
    | 0 => rfl
    | 1 => exact congrArg Value.long (congrFun (key f' (h0 rfl)) 0)
    | 2 => rfl
    | 3 => rfl
    | 4 => rfl
    | n + 5 => rfl
  · obtain ⟨-, h1, -⟩ := fd_own ht
    unfold cell
    split <;> first | rfl | (rename_i e; exact absurd e ht) | (rename_i e; rw [key _ (h1 e)])
theorem cell_uR {aC : Nat → ClassId} {σ : St} {f a0 b k a : Nat} {v : Option Nat} (h : ¬ (k = ownR f ∧ a = a0)) : cell aC (uR σ f a0 b v) k a = cell aC σ k a := by
  have key : ∀ f', ownR f' = k → (uR σ f a0 b v).2.2.2.2 f' a = σ.2.2.2.2 f' a := by
    intro f' hf
    funext j
    show (if f' = f ∧ a = a0 ∧ j = b then _ else _) = _
    rw [if_neg]
    rintro ⟨rfl, rfl, _⟩
    exact h ⟨hf.symm, rfl⟩
  by_cases ht : aTy k a = 0
  · rw [cell_obj ht, cell_obj ht]
    refine congrArg (fun z => Sum.inr (oCi k a, z)) (List.map_congr_left fun sp hsp => ?_)
    obtain ⟨t, f'⟩ := sp
    obtain ⟨-, -, h0⟩ := sp_own hsp ht
    match t with
    | 0 => rfl
    | 1 => rfl
    | 2 => rfl
    | 3 => exact congrArg (fun o => va_rf (Option.map (σ.1 (kR f')) o)) (congrFun (key f' (h0 rfl)) 0)
    | 4 => rfl
    | n + 5 => rfl
  · obtain ⟨-, -, h1⟩ := fd_own ht
    by_cases h4 : 4 ≤ aTy k a
    · have hk := key _ (h1 h4)
      unfold cell
      rw [hk]
      obtain ⟨n, hn⟩ : ∃ n, aTy k a = n + 4 := ⟨aTy k a - 4, by omega⟩
      rw [hn]
      rcases n with _ | _ | n <;> rfl
    · have h5 : aTy k a = 1 ∨ aTy k a = 2 ∨ aTy k a = 3 := by omega
      unfold cell
      rcases h5 with e | e | e <;> rw [e] <;> rfl
/-- same addresses, same tags -/
def Same (σ σ' : St) : Prop := σ'.1 = σ.1 ∧ σ'.2.1 = σ.2.1
theorem WL_upd {aC : Nat → ClassId} {A : Nat → Prop} {σ σ' : St} {q k0 a0 : Nat} {e : va_E} (hs : Same σ σ') (hD : va_D A (WL aC σ)) (hq : σ.2.1[q]? = some (k0, a0)) (he : cell aC σ' k0 a0 = e) (hn : ∀ k a, ¬ (k = k0 ∧ a = a0) → cell aC σ' k a = cell aC σ k a) : WL aC σ' = (WL aC σ).set q (σ.1 k0 a0, e) := by
  have hlt : q < (WL aC σ).length := by
    have := (List.getElem?_eq_some_iff.mp hq).1
    simpa [WL] using this
  have e1 : WL aC σ' = σ.2.1.map (fun t => (σ.1 t.1 t.2, cell aC σ' t.1 t.2)) := by
    unfold WL
    rw [hs.1, hs.2]
  refine List.ext_getElem? fun i => ?_
  rw [List.getElem?_set, e1, List.getElem?_map]
  by_cases hi : q = i
  · subst hi
    rw [if_pos rfl, if_pos hlt, hq]
    simp [he]
  · rw [if_neg hi, WL, List.getElem?_map]
    cases ht : σ.2.1[i]? with
    | none => rfl
    | some t =>
      obtain ⟨k, a⟩ := t
      have hne : ¬ (k = k0 ∧ a = a0) := by
        rintro ⟨rfl, rfl⟩
        exact hi (hD.1 q i _ _ (WL_at hq) (WL_at ht) rfl)
      simp [hn k a hne]
/-- what is referred to is there, and what belongs to it -/
def WT (σ : St) : Prop := (∀ k a, (k, a) ∈ σ.2.1 → ∀ q ∈ subs k a, q ∈ σ.2.1) ∧ ∀ f a b x, σ.2.2.2.2 f a b = some x → (kR f, x) ∈ σ.2.1
/-- the tags of before are there, at their places -/
def Ext (σ σ' : St) : Prop := (∀ k a, (k, a) ∈ σ.2.1 → (k, a) ∈ σ'.2.1 ∧ σ'.1 k a = σ.1 k a) ∧ ∀ a, σ'.1 50 a = σ.1 50 a
theorem Ext.rf {σ : St} : Ext σ σ := ⟨fun _ _ h => ⟨h, rfl⟩, fun _ => rfl⟩
theorem Ext.tr {a b c : St} (h : Ext a b) (g : Ext b c) : Ext a c := ⟨fun k x hx => ⟨(g.1 k x (h.1 k x hx).1).1, (g.1 k x (h.1 k x hx).1).2.trans (h.1 k x hx).2⟩, fun x => (g.2 x).trans (h.2 x)⟩
theorem Ext.dn {σ σ' : St} (h : Ext σ σ') {v : WV} (hv : okv σ v) : den σ' v = den σ v := by
  rcases v with x | x | ⟨k, _ | a⟩
  · rfl
  · rfl
  · rfl
  · show Value.ref (σ'.1 k a) = Value.ref (σ.1 k a)
    rcases hv with hv | rfl
    · rw [(h.1 k a hv).2]
    · rw [h.2 a]
theorem Ext.ok {σ σ' : St} (h : Ext σ σ') {v : WV} (hv : okv σ v) : okv σ' v := by
  rcases v with x | x | ⟨k, _ | a⟩
  · trivial
  · trivial
  · trivial
  · rcases hv with hv | rfl
    · exact Or.inl (h.1 k a hv).1
    · exact Or.inr rfl
theorem Ext.loc {σ σ' : St} (h : Ext σ σ') {l : List (Option WV)} (hl : ∀ v, some v ∈ l → okv σ v) : ∀ i, lo σ' i l = lo σ i l := by
  induction l with
  | nil => intro i; rfl
  | cons x t ih =>
    intro i
    have ih := ih (fun v hv => hl v (List.mem_cons_of_mem _ hv))
    cases x with
    | none => exact ih (i + 1)
    | some v =>
      have e := h.dn (hl v List.mem_cons_self)
      have e2 := ih (i + 1)
      show (i, den σ' v) :: lo σ' (i + 1) t = (i, den σ v) :: lo σ (i + 1) t
      rw [e, e2]
theorem Same.ext {σ σ' : St} (h : Same σ σ') : Ext σ σ' := ⟨fun k a hk => ⟨by rw [h.2]; exact hk, by rw [h.1]⟩, fun a => by rw [h.1]⟩
theorem same_uI {σ : St} {f a b : Nat} {v : Int} : Same σ (uI σ f a b v) := ⟨rfl, rfl⟩
theorem same_uL {σ : St} {f a b : Nat} {v : Int} : Same σ (uL σ f a b v) := ⟨rfl, rfl⟩
theorem same_uR {σ : St} {f a b : Nat} {v : Option Nat} : Same σ (uR σ f a b v) := ⟨rfl, rfl⟩
theorem wt_uI {σ : St} {f a b : Nat} {v : Int} (h : WT σ) : WT (uI σ f a b v) := h
theorem wt_uL {σ : St} {f a b : Nat} {v : Int} (h : WT σ) : WT (uL σ f a b v) := h
theorem wt_uR {σ : St} {f a b : Nat} {v : Option Nat} (h : WT σ) (hv : ∀ x, v = some x → (kR f, x) ∈ σ.2.1) : WT (uR σ f a b v) := by
  refine ⟨h.1, fun f' a' b' x hx => ?_⟩
  have hy : (if f' = f ∧ a' = a ∧ b' = b then v else σ.2.2.2.2 f' a' b') = some x := hx
  clear hx
  by_cases hc : f' = f ∧ a' = a ∧ b' = b
  · rw [if_pos hc] at hy
    rw [hc.1]
    exact hv x hy
  · rw [if_neg hc] at hy
    exact h.2 f' a' b' x hy
/-- words of nest mates' calls -/
def nestW : List (String × Nat × MethodName × String) := [("QueuesAndGates$Proc", 17, yX1_init, "QueuesAndGates"), ("QueuesAndGates$Proc", 24, yX6_init, "QueuesAndGates"), ("QueuesAndGates$Proc", 31, yX4_init, "QueuesAndGates"), ("QueuesAndGates$CounterSet", 39, yX7_isWithin, "QueuesAndGates"), ("QueuesAndGates$Steps", 37, yX7_isWithin, "QueuesAndGates"), ("QueuesAndGates$Queue", 27, yX1_init, "QueuesAndGates")]
def NW (U : State) : Prop := (∀ w ∈ nestW, va_Nw (.methodLinkNest w.1 w.2.1 w.2.2.1 w.2.2.2) U) ∧ va_AO "QueuesAndGates$Proc" U ∧ va_AO "QueuesAndGates$Thing" U ∧ va_AO "QueuesAndGates$Message" U ∧ va_Nw (.castable RX3 "QueuesAndGates$Thing") U ∧ va_Nw (.castable RX0 "QueuesAndGates$Thing") U
theorem NW.warm {s U : State} (hW : s.WarmedH U.vm) (h : NW s) : NW U := ⟨fun w hw => va_Nw.warmM hW (h.1 w hw), h.2.1.moved hW.alike, h.2.2.1.moved hW.alike, h.2.2.2.1.moved hW.alike, va_Nw.warmC hW h.2.2.2.2.1, va_Nw.warmC hW h.2.2.2.2.2⟩
abbrev JK : Type := Program × Launch × Env × Room × State × MethodId × Array Value × List Frame × Method × Code × va_G × (Nat → ClassId) × (Nat → Prop) × (State → Prop) × St
abbrev kP (K : JK) : Program := K.1
abbrev kL (K : JK) : Launch := K.2.1
abbrev kE (K : JK) : Env := K.2.2.1
abbrev kRm (K : JK) : Room := K.2.2.2.1
abbrev kS (K : JK) : State := K.2.2.2.2.1
abbrev kM (K : JK) : MethodId := K.2.2.2.2.2.1
abbrev kAr (K : JK) : Array Value := K.2.2.2.2.2.2.1
abbrev kBe (K : JK) : List Frame := K.2.2.2.2.2.2.2.1
abbrev kMe (K : JK) : Method := K.2.2.2.2.2.2.2.2.1
abbrev kCo (K : JK) : Code := K.2.2.2.2.2.2.2.2.2.1
abbrev kD (K : JK) : va_G := K.2.2.2.2.2.2.2.2.2.2.1
abbrev kC (K : JK) : Nat → ClassId := K.2.2.2.2.2.2.2.2.2.2.2.1
abbrev kA (K : JK) : Nat → Prop := K.2.2.2.2.2.2.2.2.2.2.2.2.1
abbrev kQ (K : JK) : State → Prop := K.2.2.2.2.2.2.2.2.2.2.2.2.2.1
abbrev k0 (K : JK) : St := K.2.2.2.2.2.2.2.2.2.2.2.2.2.2
/-- what holds all through a method's run: the machine, its code, its class, the tables -/
def Cx (K : JK) (cc : ByteArray) (nL : Nat) (own : String) : Prop :=
  (kP K).tables.exec = Jvm.exec ∧ (kCo K).code = cc ∧ (kCo K).maxLocals = nL ∧ (kS K).vm.findClass own = some (kM K).cls ∧ (∀ w ∈ wsG, w.before (kAr K) (kS K) = true) ∧ va_K (kD K) vwCl (tysA (kC K)) (kS K) ∧ (∀ q, (kS K).heap.size ≤ q → kA K q) ∧ (kMe K).locks = false ∧ NW (kS K)
/-- the world: the heap holds the store's cells, and nothing else of old was written -/
def Wd (K : JK) (H : Heap) (locs : List Loc) (σ : St) : Prop :=
  va_P (kD K) vwCl (WL (kC K) σ) H ∧ va_D (kA K) (WL (kC K) σ) ∧ WT σ ∧ Ext (k0 K) σ ∧ va_S (kA K) (kS K).heap H locs
def Lc (K : JK) (ls : Array Slot) (l : List (Option WV)) (σ : St) : Prop := lv_has ls (kCo K).maxLocals (lo σ 0 l) ∧ ∀ v, some v ∈ l → okv σ v
abbrev WJ (K : JK) (H : Heap) (locs : List Loc) (n1 n2 : Nat) (g : JFrame) : Prop := W (kP K) (kL K) (kE K) (kRm K) (kS K) (kM K) (kAr K) (kBe K) (kMe K) (kCo K) H locs n1 n2 (kQ K) g
def J (K : JK) (pc : Nat) (l : List (Option WV)) (st : List WV) (σ : St) (n1 n2 : Nat) : Prop :=
  ∀ (H : Heap) (locs : List Loc) (ls : Array Slot), Wd K H locs σ → Lc K ls l σ → (∀ v ∈ st, okv σ v) → WJ K H locs n1 n2 (F0 (kM K) pc ls (st.map (den σ)))
theorem okc {σ : St} {v : WV} {st : List WV} (h : ∀ w ∈ v :: st, okv σ w) : okv σ v ∧ ∀ w ∈ st, okv σ w := List.forall_mem_cons.mp h
theorem okc2 {σ : St} {v : WV} {st : List WV} (h1 : okv σ v) (h : ∀ w ∈ st, okv σ w) : ∀ w ∈ v :: st, okv σ w := List.forall_mem_cons.mpr ⟨h1, h⟩
theorem Lc.set1 {K : JK} {ls : Array Slot} {l : List (Option WV)} {σ : St} {i : Nat} {v : WV} (h : Lc K ls l σ) (hv : okv σ v) {ls' : Array Slot} (h' : lv_has ls' (kCo K).maxLocals (lo σ 0 (l.set i (some v)))) : Lc K ls' (l.set i (some v)) σ := by
  refine ⟨h', fun w hw => ?_⟩
  rcases List.mem_or_eq_of_mem_set hw with hw | hw
  · exact h.2 w hw
  · cases hw; exact hv
theorem Lc.set2 {K : JK} {ls : Array Slot} {l : List (Option WV)} {σ : St} {i : Nat} {v : WV} (h : Lc K ls l σ) (hv : okv σ v) {ls' : Array Slot} (h' : lv_has ls' (kCo K).maxLocals (lo σ 0 ((l.set i (some v)).set (i + 1) none))) : Lc K ls' ((l.set i (some v)).set (i + 1) none) σ := by
  refine ⟨h', fun w hw => ?_⟩
  rcases List.mem_or_eq_of_mem_set hw with hw | hw
  · rcases List.mem_or_eq_of_mem_set hw with hw | hw
    · exact h.2 w hw
    · cases hw; exact hv
  · cases hw
theorem Lc.sub {K : JK} {ls : Array Slot} {l l' : List (Option WV)} {σ : St} (h : Lc K ls l σ) (hs : ∀ (i : Nat) (v : WV), l'[i]? = some (some v) → l[i]? = some (some v)) : Lc K ls l' σ := by
  refine ⟨⟨h.1.1, h.1.2.1, fun q hq => ?_⟩, fun v hv => ?_⟩
  · obtain ⟨j, v, hj, rfl⟩ := lo_mem.mp hq
    exact h.1.2.2 _ (lo_mem.mpr ⟨j, v, hs j v hj, rfl⟩)
  · obtain ⟨i, hi⟩ := List.getElem?_of_mem hv
    exact h.2 v (List.mem_of_getElem? (hs i v hi))
theorem Lc.ext {K : JK} {ls : Array Slot} {l : List (Option WV)} {σ σ' : St} (h : Lc K ls l σ) (he : Ext σ σ') : Lc K ls l σ' := by
  refine ⟨?_, fun v hv => he.ok (h.2 v hv)⟩
  rw [he.loc h.2 0]
  exact h.1
theorem st_ext {st : List WV} {σ σ' : St} (h : ∀ v ∈ st, okv σ v) (he : Ext σ σ') : st.map (den σ') = st.map (den σ) ∧ ∀ v ∈ st, okv σ' v := ⟨List.map_congr_left fun v hv => he.dn (h v hv), fun v hv => he.ok (h v hv)⟩
/-- a changed store's world: one tag's cell was written -/
theorem Wd.put {K : JK} {H H1 : Heap} {locs locs1 : List Loc} {σ σ' : St} {q k0' a0 : Nat} {e : va_E} (hw : Wd K H locs σ) (hs : Same σ σ') (hq : σ.2.1[q]? = some (k0', a0)) (he : cell (kC K) σ' k0' a0 = e) (hn : ∀ k a, ¬ (k = k0' ∧ a = a0) → cell (kC K) σ' k a = cell (kC K) σ k a) (hT : WT σ')
    (hP : va_P (kD K) vwCl ((WL (kC K) σ).set q (σ.1 k0' a0, e)) H1) (hD : va_D (kA K) ((WL (kC K) σ).set q (σ.1 k0' a0, e))) (hS : va_S (kA K) (kS K).heap H1 locs1) : Wd K H1 locs1 σ' := by
  have e1 := WL_upd hs hw.2.1 hq he hn
  exact ⟨by rw [e1]; exact hP, by rw [e1]; exact hD, hT, hw.2.2.2.1.tr hs.ext, hS⟩
/-- fewer locals are asked for -/
theorem J.drop {K : JK} {pc : Nat} {l l' : List (Option WV)} {st : List WV} {σ : St} {n1 n2 : Nat} (hs : ∀ (i : Nat) (v : WV), l'[i]? = some (some v) → l[i]? = some (some v)) (k : J K pc l' st σ n1 n2) : J K pc l st σ n1 n2 := fun H locs ls hw hl ho => k H locs ls hw (hl.sub hs) ho
