/-! LAYER 2: how many wait -/
def wOn (C : St) (kd : Int) (t q : Nat) : Bool := decide (gI C 15 q 0 = kd ∧ gR C 10 q 0 = some t)
theorem sp_waitersOn {C : St} {n : Nat} {ls : List Nat} {t : Nat} {kd : Int} {po : Int → St → Prop} (h : lineOK n ls C) (hkd : nm kd = kd) (hpo : po (((ls.filter (wOn C kd t)).length : Nat) : Int) C) : ∀ m i : Nat, i + m = ls.length → wp_X7_waitersOn_5 po (m + 1) (some t) kd ((((ls.take i).filter (wOn C kd t)).length : Nat) : Int) (i : Int) C := by
  intro m
  have h16 := h.2.2.1
  induction m with
  | zero =>
    intro i hi
    have e : i = ls.length := by omega
    subst e
    unfold wp_X7_waitersOn_5
    rw [nm_gI, h.2.1, nm_nat (n := 17) (by omega) (by omega), List.take_length]
    exact ⟨fun _ => hpo, fun z => absurd z (by omega)⟩
  | succ m ih =>
    intro i hi
    have ih := ih (i + 1) (by omega)
    obtain ⟨q, hq⟩ : ∃ q, ls[i]? = some q := ⟨ls[i], List.getElem?_eq_getElem (by omega)⟩
    have et : ls.take (i + 1) = ls.take i ++ [q] := by rw [List.take_add_one, hq]; rfl
    rw [et, List.filter_append] at ih
    unfold wp_X7_waitersOn_5
    rw [nm_gI, h.2.1, nm_nat (n := 17) (by omega) (by omega)]
    refine ⟨fun z => absurd z (by omega), fun _ => sp_inLine_some h hq ⟨fun z => (by cases z), ?_⟩⟩
    rintro _ ⟨rfl⟩
    refine sp_waitsTo hkd ⟨fun z => ?_, fun z => ?_⟩
    · have z := (ez_bI (gI C 15 q 0 = kd ∧ gR C 10 q 0 = some t)).mp z
      have e : wOn C kd t q = false := by unfold wOn; exact decide_eq_false z
      rw [List.filter_cons_of_neg (by simp [e]), List.filter_nil, List.append_nil] at ih
      exact ih
    · have z := (nz_bI (gI C 15 q 0 = kd ∧ gR C 10 q 0 = some t)).mp z
      have e : wOn C kd t q = true := by unfold wOn; exact decide_eq_true z
      rw [List.filter_cons_of_pos e, List.filter_nil, List.length_append, List.length_singleton] at ih
      exact ih
theorem sp_waiting {M : St} {n : Nat} {kd sl : Int} {po : Int → St → Prop} (hn : gI M 100 0 0 = n) (hn16 : n ≤ 16) (hkd : nm kd = kd) (hsl : nm sl = sl) (h : po (cntI (fun q => gI M 110 7 q = kd ∧ gI M 110 9 q = sl) n) M) : ∀ m i : Nat, i + m = n → wp_X8_waiting_5 po (m + 1) kd sl (cntI (fun q => gI M 110 7 q = kd ∧ gI M 110 9 q = sl) i) (i : Int) M := by
  intro m
  induction m with
  | zero =>
    intro i hi
    have e : i = n := by omega
    subst e
    unfold wp_X8_waiting_5
    rw [nm_gI, hn, nm_nat (n := 17) (by omega) (by omega)]
    exact ⟨fun _ => h, fun z => absurd z (by omega)⟩
  | succ m ih =>
    intro i hi
    have ih := ih (i + 1) (by omega)
    have ei : ((i : Int)).toNat = i := by omega
    unfold wp_X8_waiting_5
    rw [nm_gI, hn, nm_nat (n := 17) (by omega) (by omega), ei, nm_gI, nm_gI, hkd, hsl]
    refine ⟨fun z => absurd z (by omega), fun _ => ⟨by omega, fun z => ?_, fun z => ⟨by omega, fun z2 => ?_, fun z2 => ?_⟩⟩⟩
    · rw [cntI_no (P := fun q => gI M 110 7 q = kd ∧ gI M 110 9 q = sl) (fun y => z y.1)] at ih; rw [Int.add_zero]; exact ih
    · rw [cntI_no (P := fun q => gI M 110 7 q = kd ∧ gI M 110 9 q = sl) (fun y => z2 y.2)] at ih; rw [Int.add_zero]; exact ih
    · rw [cntI_yes (P := fun q => gI M 110 7 q = kd ∧ gI M 110 9 q = sl) ⟨z, z2⟩] at ih; exact ih
theorem wt_CM {k n : Nat} {ls : List Nat} {e e2 : Option Nat} {C M : St} {kd : Int} {t s q : Nat} (h : SimB k n ls e e2 C M) (hq : q < n) (hs : s < 12) (hk : ((kd = 1 ∨ kd = 2) ∧ t = s) ∨ (kd = 3 ∧ t = 12 + s)) : (gI C 15 q 0 = kd ∧ gR C 10 q 0 = some t) ↔ (gI M 110 7 q = kd ∧ gI M 110 9 q = s) := by
  have e7 := (h.2.2.2.2.2.1 q hq).2.2.2.2.2.1
  rw [← e7]
  rcases h.2.2.2.2.2.2.2.1 q hq with ⟨w, w1⟩ | ⟨w, -, s', hs', w1, w2, -⟩ | ⟨w, -, s', hs', w1, w2, -⟩ | ⟨w, s', hs', w1, w2, -⟩
  · constructor <;> (intro z; omega)
  · rw [w1, w2]
    constructor
    · rintro ⟨z, z2⟩; cases z2; exact ⟨z, by omega⟩
    · rintro ⟨z, z2⟩; exact ⟨z, by congr 1; omega⟩
  · rw [w1, w2]
    constructor
    · rintro ⟨z, z2⟩; cases z2; exact ⟨z, by omega⟩
    · rintro ⟨z, z2⟩; exact ⟨z, by congr 1; omega⟩
  · rw [w1, w2]
    constructor
    · rintro ⟨z, z2⟩
      have z3 : 12 + s' = t := by cases z2; rfl
      exact ⟨z, by omega⟩
    · rintro ⟨z, z2⟩; exact ⟨z, by congr 1; omega⟩
theorem waiters_CM {k n : Nat} {ls : List Nat} {e e2 : Option Nat} {C M : St} {kd : Int} {t s : Nat} (h : SimB k n ls e e2 C M) (hs : s < 12) (hk : ((kd = 1 ∨ kd = 2) ∧ t = s) ∨ (kd = 3 ∧ t = 12 + s)) : (((ls.filter (wOn C kd t)).length : Nat) : Int) = cntI (fun q => gI M 110 7 q = kd ∧ gI M 110 9 q = (s : Int)) n := by
  refine cntI_len n _ (h.2.1.2.2.2.1.filter _) (fun q hq => ?_) (fun q hq hp => ?_)
  · obtain ⟨h1, h2⟩ := List.mem_filter.mp hq
    have hqn := ((h.2.1.2.2.2.2 q).mp h1).1
    exact ⟨hqn, (wt_CM h hqn hs hk).mp (of_decide_eq_true h2)⟩
  · have h2 := (wt_CM h hq hs hk).mpr hp
    exact List.mem_filter.mpr ⟨(h.2.1.2.2.2.2 q).mpr ⟨hq, by omega⟩, decide_eq_true h2⟩
