/-! LAYER 2: who wants what; what is handed over -/
def wantN (t : Int) (oth : Prop) (ty : Int) : Prop := t = 0 ∨ (0 < t ∧ (ty = t ↔ ¬ oth)) ∨ (t < 0 ∧ ty + t ≤ 0)
theorem l0 : nmL 0 = 0 := by decide
theorem sp_wants {p : Nat} {ty : Int} {C : St} {po : Int → St → Prop} (hty : 1 ≤ ty ∧ nmL ty = ty) (ho : gI C 21 p 0 = 0 ∨ gI C 21 p 0 = 1) (h1 : wantN (gL C 12 p 0) (gI C 21 p 0 ≠ 0) ty → po 1 C) (h0 : ¬ wantN (gL C 12 p 0) (gI C 21 p 0 ≠ 0) ty → po 0 C) : wp_X6_wants p ty C po := by
  have hr := gL_rng C 12 p 0
  have hr2 : -9223372036854775808 ≤ ty ∧ ty < 9223372036854775808 := by
    have h1 := Int64.le_toInt (Int64.ofInt ty)
    have h2 := Int64.toInt_lt (Int64.ofInt ty)
    have h3 : (Int64.ofInt ty).toInt = ty := hty.2
    omega
  unfold wp_X6_wants
  unfold wantN at h1 h0
  rw [nmL_gL, nm_gI, hty.2, l0, n0, show nm 1 = 1 by decide]
  refine ⟨fun hn => ⟨fun hp => ⟨fun hne => ⟨fun z => h0 (by omega), fun z => h1 (by omega)⟩, fun he => ⟨fun z => h0 (by omega), fun z => h1 (by omega)⟩⟩, fun hng => ?_⟩, fun z => h1 (Or.inl z)⟩
  rw [nmL_id (by omega)]
  exact ⟨fun z => h0 (by omega), fun z => h1 (by omega)⟩
theorem sp_wantsM {ty t way : Int} {M : St} {po : Int → St → Prop} (hty : 1 ≤ ty ∧ nmL ty = ty) (ht : nmL t = t) (h1 : wantN t (zand way 4 ≠ 0) ty → po 1 M) (h0 : ¬ wantN t (zand way 4 ≠ 0) ty → po 0 M) : wp_X8_wants ty t way M po := by
  have rg : ∀ x : Int, nmL x = x → -9223372036854775808 ≤ x ∧ x < 9223372036854775808 := by
    intro x hx
    have h1 := Int64.le_toInt (Int64.ofInt x)
    have h2 := Int64.toInt_lt (Int64.ofInt x)
    have h3 : (Int64.ofInt x).toInt = x := hx
    omega
  have hr := rg t ht
  have hr2 := rg ty hty.2
  have nz : nm (zand way 4) = zand way 4 := by unfold zand nm; rw [i32_of]
  unfold wantN at h1 h0
  have c38 : t ≠ 0 → ¬ (0 < t ∧ (ty = t ↔ ¬ (zand way 4 ≠ 0))) → wp_X8_wants_38 po ty t M := by
    intro h2 h3
    unfold wp_X8_wants_38
    rw [ht, l0]
    refine ⟨fun z => h0 (by omega), fun z => ?_⟩
    rw [nmL_id (by omega)]
    exact ⟨fun z2 => h0 (by omega), fun z2 => h1 (by omega)⟩
  unfold wp_X8_wants
  rw [ht, hty.2, l0]
  refine ⟨fun z => h1 (Or.inl z), fun hn => ⟨fun hle => c38 hn (by omega), fun hpos => ⟨fun hne => ?_, fun he => ?_⟩⟩⟩
  · unfold wp_X8_wants_23
    rw [nz, n0, show nm 1 = 1 by decide]
    exact ⟨fun z => ⟨fun _ => h1 (by omega), fun z2 => absurd rfl z2⟩, fun z => ⟨fun z2 => absurd z2 (by decide), fun _ => c38 hn (by omega)⟩⟩
  · unfold wp_X8_wants_23
    rw [nz, n0, show nm 1 = 1 by decide]
    exact ⟨fun z => ⟨fun z2 => absurd z2 (by decide), fun _ => c38 hn (by omega)⟩, fun z => ⟨fun _ => h1 (by omega), fun z2 => absurd rfl z2⟩⟩
theorem gI_recS (C : St) (p u m f a b : Nat) : gI (recS C p u m) f a b = if f = 16 ∧ a = p ∧ 0 ≤ b ∧ b < 0 + m then gI C 18 u (0 + (b - 0)) else gI C f a b := by
  unfold recS; rw [gI_uL, gI_cpI]
theorem gL_recS (C : St) (p u m f a b : Nat) : gL (recS C p u m) f a b = if f = 10 ∧ a = p ∧ b = 0 then nmL (gL C 11 u 0) else gL C f a b := by
  unfold recS; rw [gL_uL, gL_cpI]
theorem gR_recS (C : St) (p u m f a b : Nat) : gR (recS C p u m) f a b = gR C f a b := rfl
theorem gI_givS (M : St) (p c o : Nat) (ty : Int) (m f a b : Nat) : gI (givS M p c o ty m) f a b = if f = 110 ∧ a = 4 ∧ b = p then nm (m : Int) else if f = 110 ∧ a = 5 ∧ 64 * p ≤ b ∧ b < 64 * p + m then gI M 110 c (o + (b - 64 * p)) else gI M f a b := by
  unfold givS; rw [gI_uI, gI_uL, gI_cpI]
theorem gL_givS (M : St) (p c o : Nat) (ty : Int) (m f a b : Nat) : gL (givS M p c o ty m) f a b = if f = 110 ∧ a = 6 ∧ b = p then nmL ty else gL M f a b := by
  unfold givS; rw [gL_uI, gL_uL, gL_cpI]
/-- one who takes, without having waited -/
theorem SimB.receive {k n : Nat} {ls : List Nat} {e2 : Option Nat} {C M : St} {p u c o m : Nat} {ty : Int} (h : SimB k n ls none e2 C M) (hm : m ≤ 64) (hty : nmL ty = ty) (hc5 : c ≠ 5 ∧ c ≠ 4) (ht : gL C 11 u 0 = ty) (hb : ∀ j : Nat, j < m → gI C 18 u j = gI M 110 c (o + j)) (hpn : p < n := by assumption) : SimB k n ls (some p) e2 (recS C p u m) (givS M p c o ty m) := by
  refine h.priv ?_ ?_ (fun q hq => ?_) (fun hF q h1 h2 => by
    obtain ⟨f1, f2, f3, f4, f5⟩ := hF q h1 h2
    simp only [gI_givS, gL_givS]
    exact ⟨by rw [if_neg (by omega), if_neg (by omega)]; exact f1, by rw [if_neg (by omega), if_neg (by omega)]; exact f2, by rw [if_neg (by omega), if_neg (by omega)]; exact f3, by rw [if_neg (by omega)]; exact f4, fun i hi => by rw [if_neg (by omega), if_neg (by omega)]; exact f5 i hi⟩)
  · refine ⟨rfl, fun f a b h1 h2 h3 h4 => ?_, fun f a b h1 h2 => ?_, fun f a b => rfl⟩
    · rw [gI_recS, if_neg (by omega)]
    · rw [gL_recS, if_neg (by omega)]
  · refine ⟨fun f a b h1 => ?_, fun a b h1 => ?_⟩
    · rw [gI_givS, if_neg (by omega), if_neg (by omega)]
    · rw [gL_givS, if_neg (by omega)]
  · obtain ⟨a1, a2, a3, a4, a5, a6, a7, a8⟩ := h.2.2.2.2.2.1 q hq
    refine ⟨?_, ?_, ?_, ?_, ?_, ?_, ?_, fun j hj => ?_⟩
    · rw [gI_recS]; simpa using a1
    · rw [gI_recS, gI_givS]; simpa using a2
    · rw [gI_recS, gI_givS]; simpa using a3
    · rw [gI_recS, gI_givS]; simpa using a4
    · intro hqp
      have hne : ¬ q = p := fun z => hqp (by rw [z])
      rw [gI_recS, gI_givS, if_neg (by omega), if_neg (by omega), if_neg (by omega)]
      exact a5 (by simp)
    · rw [gI_recS, gI_givS]; simpa using a6
    · rw [gL_recS, gL_givS]
      by_cases hqp : q = p
      · simp [hqp, ht]
      · simpa [hqp] using a7
    · rw [gI_recS, gI_givS, if_neg (show ¬ (110 = 110 ∧ 5 = 4 ∧ 64 * q + j = p) by omega)]
      by_cases hqp : q = p ∧ j < m
      · obtain ⟨rfl, hjm⟩ := hqp
        rw [if_pos (by omega), if_pos (by omega)]
        have := hb j hjm
        rw [show 0 + (j - 0) = j by omega, show o + (64 * q + j - 64 * q) = o + j by omega]
        exact this
      · rw [if_neg (by omega), if_neg (by omega)]
        exact a8 j hj
