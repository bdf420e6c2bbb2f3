/-! BASE 1: values, stores, cells, the world, the judgement J -/
abbrev WV : Type := Int ⊕ (Int ⊕ (Nat × Option Nat))
abbrev wi (x : Int) : WV := .inl x
abbrev wl (x : Int) : WV := .inr (.inl x)
abbrev wr (k : Nat) (o : Option Nat) : WV := .inr (.inr (k, o))
/-- a store: addresses of tags, the tags that are there, ints, longs, references -/
abbrev St : Type := (Nat → Nat → Nat) × (List (Nat × Nat)) × (Nat → Nat → Nat → Int32) × (Nat → Nat → Nat → Int64) × (Nat → Nat → Nat → Option Nat)
def sTg (σ : St) : List (Nat × Nat) := σ.2.1
def gI (σ : St) (f a b : Nat) : Int := (σ.2.2.1 f a b).toInt
def gL (σ : St) (f a b : Nat) : Int := (σ.2.2.2.1 f a b).toInt
def gR (σ : St) (f a b : Nat) : Option Nat := σ.2.2.2.2 f a b
def uI (σ : St) (f a b : Nat) (v : Int) : St := (σ.1, σ.2.1, fun f' a' b' => if f' = f ∧ a' = a ∧ b' = b then Int32.ofInt v else σ.2.2.1 f' a' b', σ.2.2.2.1, σ.2.2.2.2)
def uL (σ : St) (f a b : Nat) (v : Int) : St := (σ.1, σ.2.1, σ.2.2.1, fun f' a' b' => if f' = f ∧ a' = a ∧ b' = b then Int64.ofInt v else σ.2.2.2.1 f' a' b', σ.2.2.2.2)
def uR (σ : St) (f a b : Nat) (v : Option Nat) : St := (σ.1, σ.2.1, σ.2.2.1, σ.2.2.2.1, fun f' a' b' => if f' = f ∧ a' = a ∧ b' = b then v else σ.2.2.2.2 f' a' b')
def nm (x : Int) : Int := (Int32.ofInt x).toInt
def nmL (x : Int) : Int := (Int64.ofInt x).toInt
def zand (x y : Int) : Int := (Int32.ofInt x &&& Int32.ofInt y).toInt
def zor (x y : Int) : Int := (Int32.ofInt x ||| Int32.ofInt y).toInt
def zxor (x y : Int) : Int := (Int32.ofInt x ^^^ Int32.ofInt y).toInt
def zshr (x y : Int) : Int := (Int32.ofInt x >>> (Int32.ofInt y &&& 31)).toInt
def zdiv (x y : Int) : Int := (Int32.ofInt x / Int32.ofInt y).toInt
def zrem (x y : Int) : Int := (Int32.ofInt x - Int32.ofInt x / Int32.ofInt y * Int32.ofInt y).toInt
def yand (x y : Int) : Int := (Int64.ofInt x &&& Int64.ofInt y).toInt
def yor (x y : Int) : Int := (Int64.ofInt x ||| Int64.ofInt y).toInt
def yshl (x y : Int) : Int := (Int64.ofInt x <<< ((Int32.ofInt y).toInt64 &&& 63)).toInt
def den (σ : St) (v : WV) : Value := match v with
  | .inl x => .int (Int32.ofInt x)
  | .inr (.inl x) => .long (Int64.ofInt x)
  | .inr (.inr (_, none)) => .null
  | .inr (.inr (k, some a)) => .ref (σ.1 k a)
def okv (σ : St) (v : WV) : Prop := match v with
  | .inr (.inr (k, some a)) => (k, a) ∈ σ.2.1 ∨ k = 50
  | _ => True
def wcat (v : WV) : Nat := match v with
  | .inr (.inl _) => 2
  | _ => 1
theorem den_cat (σ : St) (v : WV) : (den σ v).category = wcat v := by
  rcases v with x | x | ⟨k, _ | a⟩ <;> rfl
def lo (σ : St) : Nat → List (Option WV) → List (Nat × Value)
  | _, [] => []
  | i, none :: t => lo σ (i + 1) t
  | i, some v :: t => (i, den σ v) :: lo σ (i + 1) t
theorem lo_mem {σ : St} {l : List (Option WV)} {b : Nat} {q : Nat × Value} : q ∈ lo σ b l ↔ ∃ j v, l[j]? = some (some v) ∧ q = (b + j, den σ v) := by
  induction l generalizing b with
  | nil => simp [lo]
  | cons h t ih =>
    cases h with
    | none =>
      rw [lo, ih]
      constructor
      · rintro ⟨j, v, h1, rfl⟩
        exact ⟨j + 1, v, by simpa using h1, by simp; omega⟩
      · rintro ⟨j, v, h1, rfl⟩
        cases j with
        | zero => simp at h1
        | succ j => exact ⟨j, v, by simpa using h1, by simp; omega⟩
    | some w =>
      rw [lo, List.mem_cons, ih]
      constructor
      · rintro (rfl | ⟨j, v, h1, rfl⟩)
        · exact ⟨0, w, rfl, rfl⟩
        · exact ⟨j + 1, v, by simpa using h1, by simp; omega⟩
      · rintro ⟨j, v, h1, rfl⟩
        cases j with
        | zero => left; simp at h1; rw [h1]; rfl
        | succ j => right; exact ⟨j, v, by simpa using h1, by simp; omega⟩
theorem lo_at {σ : St} {l : List (Option WV)} {ls : Array Slot} {n i : Nat} {v : WV} (h : lv_has ls n (lo σ 0 l)) (hl : l[i]? = some (some v)) : ls[i]? = some (.val (den σ v)) := by
  have := h.2.2 (i, den σ v) (lo_mem.mpr ⟨i, v, hl, by simp⟩)
  exact this
/-- the place ahead of i isn't a long's -/
def nlong (l : List (Option WV)) (i : Nat) : Bool := match i with
  | 0 => true
  | j + 1 => match l[j]? with
    | some (some (.inr (.inl _))) => false
    | _ => true
theorem nlong_cat {σ : St} {l : List (Option WV)} {i j : Nat} {w : WV} (h : nlong l i = true) (hl : l[j]? = some (some w)) (hj : j + 1 = i) : ¬ (den σ w).category = 2 := by
  subst hj
  rw [den_cat]
  have h : (match l[j]? with
    | some (some (.inr (.inl _))) => false
    | _ => true) = true := h
  rw [hl] at h
  rcases w with x | x | ⟨k, _ | a⟩ <;> simp_all [wcat]
theorem lo_set1 {σ : St} {l : List (Option WV)} {ls : Array Slot} {n i : Nat} {v : WV} (hn : nlong l i = true)
    (h : lv_has ls n ((i, den σ v) :: (lo σ 0 l).filter (fun q => !(q.1 == i) && !(q.1 + 1 == i && q.2.category == 2)))) : lv_has ls n (lo σ 0 (l.set i (some v))) := by
  refine ⟨h.1, h.2.1, fun q hq => h.2.2 q ?_⟩
  obtain ⟨j, w, hj, rfl⟩ := lo_mem.mp hq
  rw [List.getElem?_set] at hj
  by_cases hij : i = j
  · subst hij
    rw [if_pos rfl] at hj
    by_cases hlt : i < l.length
    · rw [if_pos hlt] at hj
      cases hj
      simp
    · rw [if_neg hlt] at hj; cases hj
  · rw [if_neg hij] at hj
    refine List.mem_cons_of_mem _ (List.mem_filter.mpr ⟨lo_mem.mpr ⟨j, w, hj, rfl⟩, ?_⟩)
    have hji : ¬ j = i := fun e => hij e.symm
    by_cases h1 : j + 1 = i
    · have := nlong_cat (σ := σ) hn hj h1
      simp [hji, this]
    · simp [hji, h1]
theorem lo_set2 {σ : St} {l : List (Option WV)} {ls : Array Slot} {n i : Nat} {v : WV} (hn : nlong l i = true)
    (h : lv_has ls n ((i, den σ v) :: (lo σ 0 l).filter (fun q => !(q.1 == i) && (!(q.1 == i + 1) && !(q.1 + 1 == i && q.2.category == 2))))) : lv_has ls n (lo σ 0 ((l.set i (some v)).set (i + 1) none)) := by
  refine ⟨h.1, h.2.1, fun q hq => h.2.2 q ?_⟩
  obtain ⟨j, w, hj, rfl⟩ := lo_mem.mp hq
  rw [List.getElem?_set] at hj
  by_cases hij1 : i + 1 = j
  · rw [if_pos hij1] at hj
    split at hj <;> simp at hj
  rw [if_neg hij1, List.getElem?_set] at hj
  by_cases hij : i = j
  · subst hij
    rw [if_pos rfl] at hj
    by_cases hlt : i < l.length
    · rw [if_pos hlt] at hj
      cases hj
      simp
    · rw [if_neg hlt] at hj; cases hj
  · rw [if_neg hij] at hj
    refine List.mem_cons_of_mem _ (List.mem_filter.mpr ⟨lo_mem.mpr ⟨j, w, hj, rfl⟩, ?_⟩)
    have hji : ¬ j = i := fun e => hij e.symm
    have hji1 : ¬ j = i + 1 := fun e => hij1 e.symm
    by_cases h1 : j + 1 = i
    · have := nlong_cat (σ := σ) hn hj h1
      simp [hji, hji1, this]
    · simp [hji, hji1, h1]
-- ---- cells of tags
def oCi (k a : Nat) : Nat := match k with
  | 0 => 6
  | 10 => 2
  | 12 => 1
  | 14 => 5
  | 15 => 4
  | 20 => if a < 12 then 3 else 0
  | _ => 7
/-- an object's fields: 0 an int, 1 a long, 2 an own array or object, 3 a reference, 4 an array of the model, 5 the parcel -/
def oSp (k a : Nat) : List (Nat × Nat) := match k with
  | 0 => [(2, 1), (0, 1), (2, 2), (2, 3), (2, 4), (0, 2)]
  | 10 => [(0, 10), (0, 11), (0, 12), (2, 11), (5, 0), (2, 14), (2, 15), (0, 13), (0, 14), (1, 10), (0, 15), (3, 10)]
  | 12 => [(1, 11), (0, 17), (2, 13)]
  | 14 => [(0, 19), (1, 12), (0, 20), (0, 21)]
  | 15 => [(2, 16), (2, 17), (2, 18), (0, 25), (0, 26), (0, 27)]
  | 20 => if a < 12 then [(0, 30), (0, 31), (0, 32), (0, 33), (0, 34), (0, 35), (0, 36), (0, 37), (0, 38), (0, 39), (2, 21), (0, 40), (0, 41), (0, 42)]
      else [(0, 30), (0, 31), (0, 32), (0, 33), (0, 34), (0, 35), (0, 36), (0, 37), (0, 38), (0, 39), (0, 45), (2, 22), (2, 23), (2, 24), (2, 25), (2, 26), (0, 51)]
  | 30 => [(0, 100), (4, 1), (4, 2), (4, 3), (4, 4), (4, 5), (4, 6), (4, 7), (4, 8), (4, 9), (4, 10), (4, 11), (4, 12), (4, 13), (4, 14), (0, 101), (4, 16), (4, 17), (4, 18), (4, 19), (4, 20), (4, 21), (4, 22), (4, 23), (4, 24), (4, 25), (4, 26), (4, 27), (4, 28), (4, 29), (4, 30), (4, 31), (4, 32), (4, 33), (4, 34), (4, 35), (4, 36), (4, 37), (4, 38), (4, 39), (4, 40), (4, 41), (4, 42), (4, 43)]
  | _ => []
def kR (f : Nat) : Nat := match f with
  | 1 => 10
  | 2 => 20
  | 3 => 20
  | 4 => 10
  | 10 => 20
  | _ => 12
/-- 0: an object; 1 ints, 2 longs, 3 booleans, 4 processes, 5 things, 6 messages -/
def aTy (k a : Nat) : Nat := match k with
  | 1 => 4
  | 2 => 5
  | 3 => 5
  | 4 => 4
  | 11 => 1
  | 13 => 1
  | 16 => 1
  | 17 => 1
  | 18 => 1
  | 21 => 6
  | 22 => 1
  | 23 => 1
  | 24 => 1
  | 25 => 1
  | 26 => 1
  | 31 => match a with
    | 3 => 3
    | 24 => 3
    | 6 => 2
    | 10 => 2
    | 35 => 2
    | _ => 1
  | _ => 0
def aFd (k : Nat) : Nat := match k with
  | 1 => 1
  | 2 => 2
  | 3 => 3
  | 4 => 4
  | 11 => 16
  | 13 => 18
  | 16 => 22
  | 17 => 23
  | 18 => 24
  | 21 => 11
  | 22 => 46
  | 23 => 47
  | 24 => 48
  | 25 => 49
  | 26 => 50
  | _ => 110
def mLen (a : Nat) : Nat := match a with
  | 5 => 1024
  | 13 => 1024
  | 17 => 128
  | 18 => 128
  | 19 => 128
  | 21 => 128
  | 22 => 128
  | 23 => 128
  | 24 => 24
  | 25 => 24
  | 26 => 24
  | 27 => 24
  | 28 => 24
  | 29 => 24
  | 30 => 24
  | 31 => 24
  | 32 => 12
  | 33 => 12
  | 34 => 12
  | 35 => 480
  | 36 => 480
  | 37 => 30720
  | 38 => 12
  | 39 => 96
  | 40 => 96
  | 41 => 1536
  | 42 => 8
  | 43 => 8
  | _ => 16
def aLen (k a : Nat) : Nat := match k with
  | 1 => 16
  | 2 => 12
  | 3 => 12
  | 4 => 16
  | 11 => 64
  | 13 => 64
  | 21 => 40
  | 24 => 128
  | 31 => mLen a
  | _ => 8
/-- the tags that come with a tag -/
def subs (k a : Nat) : List (Nat × Nat) := match k with
  | 0 => [(1, a), (2, a), (3, a), (4, a)]
  | 10 => [(11, a), (12, 2 * a), (14, a), (15, a)]
  | 12 => [(13, a)]
  | 15 => [(16, a), (17, a), (18, a)]
  | 20 => if a < 12 then [(21, a)] else [(22, a), (23, a), (24, a), (25, a), (26, a)]
  | 30 => [(31, 1), (31, 2), (31, 3), (31, 4), (31, 5), (31, 6), (31, 7), (31, 8), (31, 9), (31, 10), (31, 11), (31, 12), (31, 13), (31, 14), (31, 16), (31, 17), (31, 18), (31, 19), (31, 20), (31, 21), (31, 22), (31, 23), (31, 24), (31, 25), (31, 26), (31, 27), (31, 28), (31, 29), (31, 30), (31, 31), (31, 32), (31, 33), (31, 34), (31, 35), (31, 36), (31, 37), (31, 38), (31, 39), (31, 40), (31, 41), (31, 42), (31, 43)]
  | _ => []
/-- the field's kind: a tag of that kind alone holds it -/
def ownI (f : Nat) : Nat := match f with
  | 1 => 0
  | 2 => 0
  | 10 => 10
  | 11 => 10
  | 12 => 10
  | 13 => 10
  | 14 => 10
  | 15 => 10
  | 16 => 11
  | 17 => 12
  | 18 => 13
  | 19 => 14
  | 20 => 14
  | 21 => 14
  | 22 => 16
  | 23 => 17
  | 24 => 18
  | 25 => 15
  | 26 => 15
  | 27 => 15
  | 46 => 22
  | 47 => 23
  | 48 => 24
  | 49 => 25
  | 50 => 26
  | 100 => 30
  | 101 => 30
  | 110 => 31
  | _ => 20
def ownL (f : Nat) : Nat := match f with
  | 10 => 10
  | 11 => 12
  | 12 => 14
  | _ => 31
def ownR (f : Nat) : Nat := match f with
  | 1 => 1
  | 2 => 2
  | 3 => 3
  | 4 => 4
  | 10 => 10
  | _ => 21
def vF (σ : St) (a : Nat) (sp : Nat × Nat) : Value := match sp.1 with
  | 0 => .int (σ.2.2.1 sp.2 a 0)
  | 1 => .long (σ.2.2.2.1 sp.2 a 0)
  | 2 => .ref (σ.1 sp.2 a)
  | 3 => va_rf ((σ.2.2.2.2 sp.2 a 0).map (σ.1 (kR sp.2)))
  | 4 => .ref (σ.1 31 sp.2)
  | _ => .ref (σ.1 12 (2 * a))
def cell (aC : Nat → ClassId) (σ : St) (k a : Nat) : va_E := match aTy k a with
  | 0 => .inr (oCi k a, (oSp k a).map (vF σ a))
  | 1 => .inl (aC 0, aLen k a, .inl (σ.2.2.1 (aFd k) a))
  | 2 => .inl (aC 1, aLen k a, .inr (.inl (σ.2.2.2.1 (aFd k) a)))
  | 3 => .inl (aC 2, aLen k a, .inl (σ.2.2.1 (aFd k) a))
  | 4 => .inl (aC 3, aLen k a, .inr (.inr (.inr (.inr (fun j => (σ.2.2.2.2 (aFd k) a j).map (σ.1 10))))))
  | 5 => .inl (aC 4, aLen k a, .inr (.inr (.inr (.inr (fun j => (σ.2.2.2.2 (aFd k) a j).map (σ.1 20))))))
  | _ => .inl (aC 5, aLen k a, .inr (.inr (.inr (.inr (fun j => (σ.2.2.2.2 (aFd k) a j).map (σ.1 12))))))
abbrev tysA (aC : Nat → ClassId) : List (ClassId × FieldType) := [(aC 0, .int), (aC 1, .long), (aC 2, .boolean), (aC 3, .object "QueuesAndGates$Proc"), (aC 4, .object "QueuesAndGates$Thing"), (aC 5, .object "QueuesAndGates$Message")]
def WL (aC : Nat → ClassId) (σ : St) : va_W := σ.2.1.map (fun t => (σ.1 t.1 t.2, cell aC σ t.1 t.2))
theorem WL_at {aC : Nat → ClassId} {σ : St} {q k a : Nat} (h : σ.2.1[q]? = some (k, a)) : (WL aC σ)[q]? = some (σ.1 k a, cell aC σ k a) := by
  simp [WL, h]
theorem WL_of {aC : Nat → ClassId} {σ : St} {q : Nat} {x : Nat × va_E} (h : (WL aC σ)[q]? = some x) : ∃ k a, σ.2.1[q]? = some (k, a) ∧ x = (σ.1 k a, cell aC σ k a) := by
  rw [WL, List.getElem?_map] at h
  cases hq : σ.2.1[q]? with
  | none => rw [hq] at h; cases h
  | some t => rw [hq] at h; obtain ⟨k, a⟩ := t; cases h; exact ⟨k, a, rfl, rfl⟩
/-- another tag's cell stays: the stores that a tag's cell looks at -/
def spOK (k : Nat) (l : List (Nat × Nat)) : Bool := l.all (fun sp => (sp.1 != 0 || ownI sp.2 == k) && (sp.1 != 1 || ownL sp.2 == k) && (sp.1 != 3 || ownR sp.2 == k))
theorem oSp_ok (k a : Nat) : spOK k (oSp k a) = true := by
  unfold oSp
  split
  all_goals first
    | rfl
    | (split <;> rfl)
    | decide
theorem sp_own {k a : Nat} {sp : Nat × Nat} (h : sp ∈ oSp k a) (ht : aTy k a = 0) : (sp.1 = 0 → ownI sp.2 = k) ∧ (sp.1 = 1 → ownL sp.2 = k) ∧ (sp.1 = 3 → ownR sp.2 = k) := by
  have h1 := List.all_eq_true.mp (oSp_ok k a) sp h
  simp only [Bool.and_eq_true, Bool.or_eq_true, bne_iff_ne, beq_iff_eq] at h1
  obtain ⟨⟨h2, h3⟩, h4⟩ := h1
  exact ⟨fun e => h2.resolve_left (fun z => z e), fun e => h3.resolve_left (fun z => z e), fun e => h4.resolve_left (fun z => z e)⟩
theorem fd_own {k a : Nat} (ht : aTy k a ≠ 0) : ((aTy k a = 1 ∨ aTy k a = 3) → ownI (aFd k) = k) ∧ (aTy k a = 2 → ownL (aFd k) = k) ∧ (4 ≤ aTy k a → ownR (aFd k) = k) := by
  revert ht
  unfold aTy
  split
  all_goals first
    | (simp [aFd, ownI, ownL, ownR]; done)
    | (split <;> simp [aFd, ownI, ownL, ownR])
