/-! LAYER 2: one that waited goes on -/
def stR4 (C : St) (g : Nat → Option Nat) : St := (C.1, C.2.1, C.2.2.1, C.2.2.2.1, fun f a b => if f = 4 ∧ a = 0 then g b else C.2.2.2.2 f a b)
theorem gI_stR4 (C : St) (g : Nat → Option Nat) (f a b : Nat) : gI (stR4 C g) f a b = gI C f a b := rfl
theorem gL_stR4 (C : St) (g : Nat → Option Nat) (f a b : Nat) : gL (stR4 C g) f a b = gL C f a b := rfl
theorem gR_stR4 (C : St) (g : Nat → Option Nat) (f a b : Nat) : gR (stR4 C g) f a b = if f = 4 ∧ a = 0 then g b else gR C f a b := rfl
theorem uR_stR4 (C : St) (g : Nat → Option Nat) (i : Nat) (v : Option Nat) : uR (stR4 C g) 4 0 i v = stR4 C (fun j => if j = i then v else g j) := by
  unfold uR stR4
  refine Prod.ext rfl (Prod.ext rfl (Prod.ext rfl (Prod.ext rfl ?_)))
  funext f a b
  show (if f = 4 ∧ a = 0 ∧ b = i then v else if f = 4 ∧ a = 0 then g b else C.2.2.2.2 f a b) = if f = 4 ∧ a = 0 then (if b = i then v else g b) else C.2.2.2.2 f a b
  by_cases h : f = 4 ∧ a = 0
  · obtain ⟨rfl, rfl⟩ := h
    by_cases hb : b = i <;> simp [hb]
  · rw [if_neg (fun z => h ⟨z.1, z.2.1⟩), if_neg h, if_neg h]
theorem stR4_self {C : St} {g : Nat → Option Nat} (h : ∀ i, gR C 4 0 i = g i) : stR4 C g = C := by
  unfold stR4
  refine Prod.ext rfl (Prod.ext rfl (Prod.ext rfl (Prod.ext rfl ?_)))
  funext f a b
  show (if f = 4 ∧ a = 0 then g b else C.2.2.2.2 f a b) = C.2.2.2.2 f a b
  by_cases hc : f = 4 ∧ a = 0
  · obtain ⟨rfl, rfl⟩ := hc
    rw [if_pos ⟨rfl, rfl⟩]; exact (h b).symm
  · rw [if_neg hc]
/-- the line without one -/
def without (ls : List Nat) (p : Nat) : List Nat := ls.filter (fun q => !(q == p))
def goOnS (C : St) (ls : List Nat) (p : Nat) (r : Int) : St := uI (uR (uI (uI (stR4 C (fun i => (without ls p)[i]?)) 2 0 0 ((without ls p).length : Int)) 15 p 0 0) 10 p 0 none) 14 p 0 r
def goG (ls : List Nat) (p i : Nat) : Nat → Option Nat := fun j => if j < (without (ls.take i) p).length then (without (ls.take i) p)[j]? else if j < i then none else ls[j]?
theorem without_take {ls : List Nat} {p i q : Nat} (h : ls[i]? = some q) : without (ls.take (i + 1)) p = without (ls.take i) p ++ (if q = p then [] else [q]) := by
  unfold without
  have e : ls.take (i + 1) = ls.take i ++ [q] := by
    rw [List.take_add_one, h]; rfl
  rw [e, List.filter_append]
  congr 1
  by_cases hq : q = p <;> simp [hq]
theorem without_le (ls : List Nat) (p i : Nat) : (without (ls.take i) p).length ≤ i := Nat.le_trans (List.length_filter_le _ _) (by rw [List.length_take]; omega)
theorem run_goOn_loop {C : St} {ls : List Nat} {p : Nat} {r : Int} {po : St → Prop} (hW : gI C 2 0 0 = ls.length) (hlen : ls.length ≤ 16) (h : po (goOnS C ls p r)) :
    ∀ m i : Nat, i + m = ls.length → wp_X7_goOn_5 po (m + 1) (some p) r ((without (ls.take i) p).length : Int) (i : Int) (stR4 C (goG ls p i)) := by
  intro m
  induction m with
  | zero =>
    intro i hi
    have hi' : i = ls.length := by omega
    subst hi'
    unfold wp_X7_goOn_5
    have e : stR4 C (goG ls p ls.length) = stR4 C (fun i => (without ls p)[i]?) := by
      congr 1
      funext j
      unfold goG
      rw [List.take_length]
      by_cases h1 : j < (without ls p).length
      · rw [if_pos h1]
      · rw [if_neg h1, List.getElem?_eq_none (by omega : (without ls p).length ≤ j)]
        by_cases h2 : j < ls.length
        · rw [if_pos h2]
        · rw [if_neg h2, List.getElem?_eq_none (by omega)]
    rw [gI_stR4, hW, nm_nat (n := 17) (by omega) (by omega), e, List.take_length]
    refine ⟨fun _ => ?_, fun z => absurd z (by omega)⟩
    rintro _ rfl
    refine ⟨p, rfl, ?_⟩
    rintro _ rfl _ rfl _ rfl
    exact h
  | succ m ih =>
    intro i hi
    have hil : i < ls.length := by omega
    obtain ⟨q, hq⟩ : ∃ q, ls[i]? = some q := ⟨ls[i], List.getElem?_eq_getElem hil⟩
    have hk := without_le ls p i
    have ni : nm (i : Int) = i := nm_nat (n := 17) (by omega) (by omega)
    have nk : nm ((without (ls.take i) p).length : Int) = (without (ls.take i) p).length := nm_nat (n := 17) (by omega) (by omega)
    have n16 : nm 16 = 16 := by decide
    unfold wp_X7_goOn_5
    rw [gI_stR4, hW, nm_nat (n := 17) (by omega) (by omega), ni, nk, n16]
    refine ⟨fun z => absurd z (by omega), fun _ => ⟨fun z => absurd z (by omega), fun _ => ⟨⟨by omega, by omega⟩, ?_⟩⟩⟩
    rintro _ rfl
    refine ⟨⟨by omega, by omega⟩, ?_⟩
    rintro _ rfl
    have eT : ((i : Int)).toNat = i := by omega
    have eg : gR (stR4 C (goG ls p i)) 4 0 i = some q := by
      rw [gR_stR4, if_pos ⟨rfl, rfl⟩]
      unfold goG
      rw [if_neg (by omega), if_neg (by omega), hq]
    rw [eT, eg, uR_stR4]
    have ihs := ih (i + 1) (by omega)
    have wt := without_take (p := p) hq
    refine ⟨fun z => ?_, fun z => ⟨⟨by omega, by omega⟩, ?_⟩⟩
    · cases z
      rw [if_pos rfl, List.append_nil] at wt
      rw [wt] at ihs
      have e : (fun j => if j = i then none else goG ls p i j) = goG ls p (i + 1) := by
        funext j
        unfold goG
        rw [wt]
        by_cases hj : j = i
        · subst hj
          rw [if_pos rfl, if_neg (by omega), if_pos (by omega)]
        · rw [if_neg hj]
          by_cases h1 : j < (without (ls.take i) p).length
          · rw [if_pos h1, if_pos h1]
          · rw [if_neg h1, if_neg h1]
            by_cases h2 : j < i
            · rw [if_pos h2, if_pos (by omega)]
            · rw [if_neg h2, if_neg (by omega)]
      rw [e]
      exact ihs
    · have hne : ¬ q = p := fun z2 => z (by rw [z2])
      rw [if_neg hne] at wt
      rintro _ rfl
      have eT2 : (((without (ls.take i) p).length : Int)).toNat = (without (ls.take i) p).length := by omega
      rw [eT2, uR_stR4]
      have e : (fun j => if j = (without (ls.take i) p).length then some q else if j = i then none else goG ls p i j) = goG ls p (i + 1) := by
        funext j
        unfold goG
        rw [wt, List.length_append, List.length_singleton]
        by_cases hj : j = (without (ls.take i) p).length
        · subst hj
          rw [if_pos rfl, if_pos (by omega), List.getElem?_append_right (Nat.le_refl _)]
          simp
        · rw [if_neg hj]
          by_cases h1 : j < (without (ls.take i) p).length
          · rw [if_neg (by omega), if_pos h1, if_pos (by omega), List.getElem?_append_left h1]
          · rw [if_neg (by omega : ¬ j < (without (ls.take i) p).length + 1)]
            by_cases hji : j = i
            · rw [if_pos hji, if_pos (by omega)]
            · rw [if_neg hji, if_neg h1]
              by_cases h2 : j < i
              · rw [if_pos h2, if_pos (by omega)]
              · rw [if_neg h2, if_neg (by omega)]
      rw [e]
      rw [wt, List.length_append, List.length_singleton] at ihs
      exact ihs
theorem run_goOn {C : St} {ls : List Nat} {p : Nat} {r : Int} {po : St → Prop} (hR : ∀ i, gR C 4 0 i = ls[i]?) (hW : gI C 2 0 0 = ls.length) (hlen : ls.length ≤ 16) (h : po (goOnS C ls p r)) : wp_X7_goOn (some p) r C po := by
  refine ⟨ls.length + 1, ?_⟩
  have := run_goOn_loop hW hlen h ls.length 0 (by omega)
  have e : stR4 C (goG ls p 0) = C := stR4_self (fun i => by rw [hR]; unfold goG; simp [without])
  rw [e] at this
  simpa [without] using this
