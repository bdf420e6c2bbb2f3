/-! LAYER 2: a message comes to one that waits to take -/
def dlvC (C : St) (ls : List Nat) (p u m : Nat) : St := goOnS (recS C p u m) ls p (m : Int)
def dlvM (M : St) (p c o : Nat) (ty : Int) (m : Nat) : St := givS (uI M 110 7 p 0) p c o ty m
theorem SimB.deliver {k n : Nat} {ls : List Nat} {e e2 : Option Nat} {C M : St} {p u c o m : Nat} {ty : Int} (h : SimB k n ls e e2 C M) (hm : m ≤ 64) (hty : nmL ty = ty) (hc5 : c ≠ 5 ∧ c ≠ 4 ∧ c ≠ 7) (ht : gL C 11 u 0 = ty) (hb : ∀ j : Nat, j < m → gI C 18 u j = gI M 110 c (o + j)) (hpn : p < n := by assumption) : SimB k n (without ls p) e e2 (dlvC C ls p u m) (dlvM M p c o ty m) := by
  have nmm : nm (m : Int) = m := nm_nat (n := 65) (by omega) (by omega)
  have g := h.goOn (p := p) nmm
  refine g.priv ?_ ?_ (fun q hq => ?_) (fun _ q h1 h2 => by
    obtain ⟨f1, f2, f3, f4, f5⟩ := h.2.2.2.2.2.2.2.2.2.2.2 q h1 h2
    unfold dlvM
    simp only [gI_givS, gL_givS, gI_uI, gL_uI]
    exact ⟨by rw [if_neg (by omega), if_neg (by omega), if_neg (by omega)]; exact f1, by rw [if_neg (by omega), if_neg (by omega), if_neg (by omega)]; exact f2, by rw [if_neg (by omega), if_neg (by omega), if_neg (by omega)]; exact f3, by rw [if_neg (by omega)]; exact f4, fun i hi => by rw [if_neg (by omega), if_neg (by omega), if_neg (by omega)]; exact f5 i hi⟩)
  · refine ⟨rfl, fun f a b h1 h2 h3 h4 => ?_, fun f a b h1 h2 => ?_, fun f a b => rfl⟩
    · unfold dlvC
      rw [gI_goOnS, gI_goOnS, gI_recS, if_neg (show ¬ (f = 16 ∧ a = p ∧ 0 ≤ b ∧ b < 0 + m) by omega)]
    · unfold dlvC
      rw [gL_goOnS, gL_goOnS, gL_recS, if_neg (by omega)]
  · refine ⟨fun f a b h1 => ?_, fun a b h1 => ?_⟩
    · unfold dlvM
      rw [gI_givS, if_neg (by omega), if_neg (by omega), gI_uI, gI_goM, if_neg (show ¬ (f = 110 ∧ a = 4 ∧ b = p) by omega), n0]
    · unfold dlvM
      rw [gL_givS, if_neg (by omega)]; rfl
  · obtain ⟨a1, a2, a3, a4, a5, a6, a7, a8⟩ := h.2.2.2.2.2.1 q hq
    unfold dlvC dlvM
    refine ⟨?_, ?_, ?_, ?_, ?_, ?_, ?_, fun j hj => ?_⟩
    · rw [gI_goOnS, gI_recS]; simpa using a1
    · simpa [gI_goOnS, gI_recS, gI_givS, gI_uI] using a2
    · simpa [gI_goOnS, gI_recS, gI_givS, gI_uI] using a3
    · simpa [gI_goOnS, gI_recS, gI_givS, gI_uI] using a4
    · intro hqe
      by_cases hqp : q = p
      · simp [hqp, gI_goOnS, gI_recS, gI_givS, gI_uI]
      · simpa [hqp, gI_goOnS, gI_recS, gI_givS, gI_uI] using a5 hqe
    · by_cases hqp : q = p
      · simp [hqp, n0, gI_goOnS, gI_recS, gI_givS, gI_uI]
      · simpa [hqp, gI_goOnS, gI_recS, gI_givS, gI_uI] using a6
    · rw [gL_goOnS, gL_recS, gL_givS, gL_uI]
      by_cases hqp : q = p
      · simp [hqp, ht]
      · simpa [hqp] using a7
    · rw [gI_goOnS, if_neg (by omega), if_neg (by omega), if_neg (by omega), gI_recS, gI_givS, if_neg (show ¬ (110 = 110 ∧ 5 = 4 ∧ 64 * q + j = p) by omega)]
      by_cases hqp : q = p ∧ j < m
      · obtain ⟨rfl, hjm⟩ := hqp
        rw [if_pos (by omega), if_pos (by omega), gI_uI, if_neg (by omega)]
        have := hb j hjm
        rw [show 0 + (j - 0) = j by omega, show o + (64 * q + j - 64 * q) = o + j by omega]
        exact this
      · rw [if_neg (by omega), if_neg (by omega), gI_uI, if_neg (by omega)]
        exact a8 j hj
theorem sp_inLine_some {n : Nat} {ls : List Nat} {C : St} {i p : Nat} {po : Option Nat → St → Prop} (h : lineOK n ls C) (hi : ls[i]? = some p) (hpo : po (some p) C) : wp_X7_inLine (i : Int) C po := by
  have hl := (List.getElem?_eq_some_iff.mp hi).1
  have ei : ((i : Int)).toNat = i := by omega
  have := h.2.2.1
  unfold wp_X7_inLine
  rw [nm_gI, h.2.1, nm_nat (n := 17) (by omega) (by omega), show nm 16 = 16 by decide, ei]
  refine ⟨fun z => absurd z (by omega), fun _ => ⟨fun z => absurd z (by omega), fun _ => ⟨fun z => absurd z (by omega), fun _ => ⟨⟨by omega, by omega⟩, ?_⟩⟩⟩⟩
  rintro _ rfl
  rw [h.1, hi]
  exact hpo
theorem sp_inLine_none {n : Nat} {ls : List Nat} {C : St} {i : Nat} {po : Option Nat → St → Prop} (h : lineOK n ls C) (hi : ls.length ≤ i) (hi2 : i < 65536) (hpo : po none C) : wp_X7_inLine (i : Int) C po := by
  unfold wp_X7_inLine
  rw [nm_gI, h.2.1, nm_nat (n := 65536) hi2 (by omega)]
  exact ⟨fun z => absurd z (by omega), fun _ => ⟨fun _ => hpo, fun z => absurd z (by omega)⟩⟩
theorem sp_tooSmall {p u : Nat} {C : St} {po : Int → St → Prop} (h1 : gI C 20 p 0 = 0 → gI C 19 p 0 < gI C 17 u 0 → po 1 C) (h0 : (gI C 20 p 0 ≠ 0 ∨ gI C 17 u 0 ≤ gI C 19 p 0) → po 0 C) : wp_X6_isTooSmallFor p (some u) C po := by
  unfold wp_X6_isTooSmallFor
  rw [nm_gI, nm_gI]
  refine ⟨fun z => h0 (Or.inl z), fun z => ⟨u, rfl, ?_⟩⟩
  rw [nm_gI]
  exact ⟨fun z2 => h0 (Or.inr z2), fun z2 => h1 z z2⟩
/-- takers at the end of their line: the class only counts -/
theorem hand_idle {n : Nat} {ls : List Nat} {C : St} {po : Int → St → Prop} {o1 o2 : Option Nat} (h : lineOK n ls C) (hpo : po 0 C) : ∀ m i looks : Nat, looks + m = 16 → ls.length ≤ i → i + m ≤ 65535 → wp_X7_handToTaker_5 po (m + 1) o1 o2 (i : Int) (looks : Int) C := by
  intro m
  induction m with
  | zero =>
    intro i looks hl hi _
    have e : looks = 16 := by omega
    subst e
    unfold wp_X7_handToTaker_5
    exact ⟨fun _ => hpo, fun z => absurd z (by decide)⟩
  | succ m ih =>
    intro i looks hl hi hb
    have ih := ih (i + 1) (looks + 1) (by omega) (by omega) (by omega)
    unfold wp_X7_handToTaker_5
    rw [nm_nat (n := 17) (by omega) (by omega), show nm 16 = 16 by decide]
    refine ⟨fun z => absurd z (by omega), fun _ => sp_inLine_none h hi (by omega) ⟨fun _ => ?_, fun a z => (by cases z)⟩⟩
    exact ih
def tkr (C : St) (s p : Nat) : Prop := gI C 15 p 0 = 2 ∧ gR C 10 p 0 = some s
