/-! LAYER 2: all bytes, what fits -/
def sumC (C : St) : Nat → Int
  | 0 => 0
  | i + 1 => sumC C i + (if gR C 2 0 i = none then 0 else if gI C 32 i 0 = 0 then 0 else gI C 41 i 0)
def sumM (M : St) : Nat → Int
  | 0 => 0
  | i + 1 => sumM M i + (if gI M 110 24 i = 0 then 0 else gI M 110 32 i)
theorem sum_CM {k n : Nat} {ls : List Nat} {e e2 : Option Nat} {C M : St} (h : SimB k n ls e e2 C M) : ∀ i, i ≤ 12 → sumC C i = sumM M i := by
  intro i
  induction i with
  | zero => intro _; rfl
  | succ i ih =>
    intro hi
    unfold sumC sumM
    rw [ih (by omega)]
    congr 1
    obtain ⟨a1, a2, a3, a4, a5, a6, a7⟩ := h.thing i (by omega)
    rw [rt_lo C (by omega)] at a1 a4 a6
    by_cases h1 : gR C 2 0 i = none
    · rw [if_pos h1, if_pos (a4 h1).1]
    · have h2 := a1.resolve_left h1
      rw [if_neg h1]
      by_cases h3 : gI C 32 i 0 = 0
      · rw [if_pos h3, if_pos (a6 h2 h3).1]
      · have hh : hre C i := ⟨by rw [rt_lo C (by omega)]; exact h2, h3⟩
        have h4 := h.is_of (by omega) hh
        rw [if_neg h3, if_neg (by omega)]
        exact (h.2.2.2.2.2.2.2.2.2.1 i (by omega) hh).2.2.2.1
theorem sp_allBytes_loop {C : St} {po : Int → St → Prop} (hr : rootT C) (h : po (sumC C 12) C) : ∀ m i : Nat, i + m = 12 → wp_X7_allBytes_4 po (m + 1) (sumC C i) (i : Int) C := by
  intro m
  induction m with
  | zero =>
    intro i hi
    have e : i = 12 := by omega
    subst e
    unfold wp_X7_allBytes_4
    exact ⟨fun _ => h, fun z => absurd z (by decide)⟩
  | succ m ih =>
    intro i hi
    have ei : ((i : Int)).toNat = i := by omega
    have ih := ih (i + 1) (by omega)
    unfold wp_X7_allBytes_4
    rw [nm_nat (n := 17) (by omega) (by omega), show nm 12 = 12 by decide, ei]
    refine ⟨fun z => absurd z (by omega), fun _ => ⟨⟨by omega, by omega⟩, ?_⟩⟩
    rintro o rfl
    have ec : sumC C (i + 1) = sumC C i + (if gR C 2 0 i = none then 0 else if gI C 32 i 0 = 0 then 0 else gI C 41 i 0) := rfl
    rw [ec] at ih
    have hri := hr i (by omega)
    rw [rt_lo C (by omega)] at hri
    refine ⟨fun z => ?_, fun a z => ?_⟩
    · rw [if_pos z, Int.add_zero] at ih; exact ih
    · rw [z] at hri
      have ea : a = i := by
        rcases hri with w | w
        · cases w
        · exact Option.some.inj w
      subst ea
      rw [if_neg (by rw [z]; simp)] at ih
      refine ⟨by omega, fun w => ?_, fun w => ?_⟩
      · rw [nm_gI] at w; rw [if_pos w, Int.add_zero] at ih; exact ih
      · rw [nm_gI] at w; rw [if_neg w] at ih; exact ih
theorem sp_allBytes {C : St} {po : Int → St → Prop} (hr : rootT C) (h : po (sumC C 12) C) : wp_X7_allBytes C po := ⟨13, sp_allBytes_loop hr h 12 0 (by omega)⟩
theorem sp_allBytesM_loop {M : St} {po : Int → St → Prop} (h : po (sumM M 12) M) : ∀ m i : Nat, i + m = 12 → wp_X8_allBytes_4 po (m + 1) (sumM M i) (i : Int) M := by
  intro m
  induction m with
  | zero =>
    intro i hi
    have e : i = 12 := by omega
    subst e
    unfold wp_X8_allBytes_4
    exact ⟨fun _ => h, fun z => absurd z (by decide)⟩
  | succ m ih =>
    intro i hi
    have ei : ((i : Int)).toNat = i := by omega
    have ih := ih (i + 1) (by omega)
    unfold wp_X8_allBytes_4
    rw [nm_nat (n := 17) (by omega) (by omega), show nm 12 = 12 by decide, ei, nm_gI]
    have ec : sumM M (i + 1) = sumM M i + (if gI M 110 24 i = 0 then 0 else gI M 110 32 i) := rfl
    rw [ec] at ih
    refine ⟨fun z => absurd z (by omega), fun _ => ⟨⟨by omega, by omega⟩, fun z => ?_, fun z => ⟨⟨by omega, by omega⟩, ?_⟩⟩⟩
    · rw [if_pos z] at ih; exact ih
    · rw [if_neg z] at ih; exact ih
theorem sp_allBytesM {M : St} {po : Int → St → Prop} (h : po (sumM M 12) M) : wp_X8_allBytes M po := ⟨13, sp_allBytesM_loop h 12 0 (by omega)⟩
def fitC (C : St) (s : Nat) (x : Int) : Prop := nm (gI C 41 s 0 + x) ≤ gI C 42 s 0 ∧ gI C 40 s 0 < 40 ∧ nm (sumC C 12 + x) ≤ 1000
theorem sp_fits {s : Nat} {x : Int} {C : St} {po : Int → St → Prop} (hs : s < 12) (hr : rootT C) (h1 : fitC C s x → po 1 C) (h0 : ¬ fitC C s x → po 0 C) : wp_X7_fits (some s) x C po := by
  refine ⟨s, rfl, hs, ?_⟩
  unfold wp_X3_hasRoomFor
  rw [nm_gI, nm_gI, show nm 40 = 40 by decide]
  unfold fitC at h1 h0
  refine ⟨hs, fun z => ⟨fun _ => h0 (by omega), fun w => absurd n0 w⟩, fun z => ⟨fun z2 => ⟨fun _ => h0 (by omega), fun w => absurd n0 w⟩, fun z2 => ⟨fun w => absurd w (by decide), fun _ => sp_allBytes hr ?_⟩⟩⟩
  rw [show nm 1000 = 1000 by decide]
  exact ⟨fun z3 => h0 (by omega), fun z3 => h1 ⟨z, z2, z3⟩⟩
theorem sp_fitsM {k n : Nat} {ls : List Nat} {e e2 : Option Nat} {C M : St} {s : Nat} {x : Int} {po : Int → St → Prop} (h : SimB k n ls e e2 C M) (hs : s < 12) (hh : hre C s) (h1 : fitC C s x → po 1 M) (h0 : ¬ fitC C s x → po 0 M) : wp_X8_fits (s : Int) x M po := by
  have es : ((s : Int)).toNat = s := by omega
  obtain ⟨q1, q2, q3, q4, q5, -⟩ := h.2.2.2.2.2.2.2.2.2.1 s hs hh
  have hsum := sum_CM h 12 (by omega)
  unfold fitC at h1 h0
  rw [q1, q4, q5, hsum] at h1 h0
  unfold wp_X8_fits
  rw [nm_nat (n := 12) hs (by omega), es, nm_gI, nm_gI, show nm 40 = 40 by decide]
  have i12 : (0 : Int) ≤ s ∧ (s : Int) < 12 := by omega
  refine ⟨i12, i12, fun z => h0 (by omega), fun z => ⟨i12, fun z2 => h0 (by omega), fun z2 => sp_allBytesM ?_⟩⟩
  rw [show nm 1000 = 1000 by decide]
  exact ⟨fun z3 => h0 (by omega), fun z3 => h1 ⟨z, z2, z3⟩⟩
