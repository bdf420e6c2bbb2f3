/-! LAYER 2: what stays where others were written -/
def fL1 : List Nat := [1, 17, 18, 22, 23, 24, 25, 30, 31, 32, 33, 34, 35, 36, 37, 38, 39, 40, 41, 42, 45, 46, 47, 48]
def mL1 : List Nat := [16, 17, 18, 19, 24, 25, 26, 27, 28, 29, 30, 31, 32, 33, 34, 35, 36, 37, 38, 39, 40, 41]
/-- tables, rows, told steps, things, queues, sets stay, where nothing that they look at was written -/
def Frame1 (C C' M M' : St) : Prop := C'.2.1 = C.2.1 ∧ (∀ f, f ∈ fL1 → ∀ a b, gI C' f a b = gI C f a b) ∧ (∀ a b, gL C' 11 a b = gL C 11 a b) ∧ (∀ f, f ∈ [1, 2, 3, 11] → ∀ a b, gR C' f a b = gR C f a b) ∧ (∀ a, a ∈ mL1 → ∀ b, gI M' 110 a b = gI M 110 a b) ∧ (∀ b, gL M' 110 35 b = gL M 110 35 b) ∧ gI M' 100 0 0 = gI M 100 0 0
theorem frame1_rt {C C' : St} (hR : ∀ f, f ∈ [1, 2, 3, 11] → ∀ a b, gR C' f a b = gR C f a b) (t : Nat) : rt C' t = rt C t := by unfold rt; rw [hR 2 (by decide), hR 3 (by decide)]
theorem frame1_hre {C C' M M' : St} (h : Frame1 C C' M M') (t : Nat) : hre C' t ↔ hre C t := by unfold hre; rw [frame1_rt h.2.2.2.1, h.2.1 32 (by decide)]
theorem frame1 {k n : Nat} {C C' M M' : St} (h : Frame1 C C' M M') (hs : rootOK n C M ∧ tagOK n C ∧ rowOK C ∧ (∀ p, p < n → toldOK C M p) ∧ (∀ t, t < 24 → thingOK k C M t) ∧ (∀ s, s < 12 → queueOK C M s) ∧ (∀ s, s < 12 → setOK C M s)) :
    rootOK n C' M' ∧ tagOK n C' ∧ rowOK C' ∧ (∀ p, p < n → toldOK C' M' p) ∧ (∀ t, t < 24 → thingOK k C' M' t) ∧ (∀ s, s < 12 → queueOK C' M' s) ∧ (∀ s, s < 12 → setOK C' M' s) := by
  have hr := frame1_rt h.2.2.2.1
  have hh := frame1_hre h
  obtain ⟨htg, hI, hL, hR, mI, mL, m0⟩ := h
  unfold rootOK tagOK rowOK toldOK thingOK queueOK setOK msgOK stepOK at hs ⊢
  simp only [hr, hh, htg, hR 1 (by decide), hR 2 (by decide), hR 3 (by decide), hR 11 (by decide), hL, mL, m0, hI 1 (by decide), hI 17 (by decide), hI 18 (by decide), hI 22 (by decide), hI 23 (by decide), hI 24 (by decide), hI 25 (by decide), hI 30 (by decide), hI 31 (by decide), hI 32 (by decide), hI 33 (by decide), hI 34 (by decide), hI 35 (by decide), hI 36 (by decide), hI 37 (by decide), hI 38 (by decide), hI 39 (by decide), hI 40 (by decide), hI 41 (by decide), hI 42 (by decide), hI 45 (by decide), hI 46 (by decide), hI 47 (by decide), hI 48 (by decide), mI 16 (by decide), mI 17 (by decide), mI 18 (by decide), mI 19 (by decide), mI 24 (by decide), mI 25 (by decide), mI 26 (by decide), mI 27 (by decide), mI 28 (by decide), mI 29 (by decide), mI 30 (by decide), mI 31 (by decide), mI 32 (by decide), mI 33 (by decide), mI 34 (by decide), mI 35 (by decide), mI 36 (by decide), mI 37 (by decide), mI 38 (by decide), mI 39 (by decide), mI 40 (by decide), mI 41 (by decide)]
  exact hs
theorem gI_goOnS (C : St) (ls : List Nat) (p : Nat) (r : Int) (f a b : Nat) : gI (goOnS C ls p r) f a b = if f = 14 ∧ a = p ∧ b = 0 then nm r else if f = 15 ∧ a = p ∧ b = 0 then 0 else if f = 2 ∧ a = 0 ∧ b = 0 then nm ((without ls p).length : Int) else gI C f a b := by
  unfold goOnS
  rw [gI_uI, gI_uR, gI_uI, gI_uI, gI_stR4]
  rfl
theorem gL_goOnS (C : St) (ls : List Nat) (p : Nat) (r : Int) (f a b : Nat) : gL (goOnS C ls p r) f a b = gL C f a b := rfl
theorem gR_goOnS (C : St) (ls : List Nat) (p : Nat) (r : Int) (f a b : Nat) : gR (goOnS C ls p r) f a b = if f = 10 ∧ a = p ∧ b = 0 then none else if f = 4 ∧ a = 0 then (without ls p)[b]? else gR C f a b := rfl
theorem tg_goOnS (C : St) (ls : List Nat) (p : Nat) (r : Int) : (goOnS C ls p r).2.1 = C.2.1 := rfl
def goM (M : St) (p : Nat) (r : Int) : St := uI (uI M 110 7 p 0) 110 4 p r
theorem gI_goM (M : St) (p : Nat) (r : Int) (f a b : Nat) : gI (goM M p r) f a b = if f = 110 ∧ a = 4 ∧ b = p then nm r else if f = 110 ∧ a = 7 ∧ b = p then 0 else gI M f a b := by
  unfold goM
  rw [gI_uI, gI_uI]
  rfl
theorem gL_goM (M : St) (p : Nat) (r : Int) (f a b : Nat) : gL (goM M p r) f a b = gL M f a b := rfl
theorem goOn_frame (C M : St) (ls : List Nat) (p : Nat) (r : Int) : Frame1 C (goOnS C ls p r) M (goM M p r) := by
  refine ⟨rfl, fun f hf a b => ?_, fun a b => rfl, fun f hf a b => ?_, fun a ha b => ?_, fun b => rfl, ?_⟩
  · rw [gI_goOnS, if_neg (by rintro ⟨rfl, -⟩; revert hf; decide), if_neg (by rintro ⟨rfl, -⟩; revert hf; decide), if_neg (by rintro ⟨rfl, -⟩; revert hf; decide)]
  · rw [gR_goOnS, if_neg (by rintro ⟨rfl, -⟩; revert hf; decide), if_neg (by rintro ⟨rfl, -⟩; revert hf; decide)]
  · rw [gI_goM, if_neg (by rintro ⟨-, rfl, -⟩; revert ha; decide), if_neg (by rintro ⟨-, rfl, -⟩; revert ha; decide)]
  · rw [gI_goM, if_neg (by rintro ⟨h, -⟩; cases h), if_neg (by rintro ⟨h, -⟩; cases h)]
theorem mem_without {ls : List Nat} {p q : Nat} : q ∈ without ls p ↔ q ∈ ls ∧ q ≠ p := by
  unfold without
  rw [List.mem_filter]
  simp
theorem SimB.goOn {k n : Nat} {ls : List Nat} {e e2 : Option Nat} {C M : St} {p : Nat} {r : Int} (h : SimB k n ls e e2 C M) (hr : nm r = r) (hpn : p < n := by assumption) : SimB k n (without ls p) e e2 (goOnS C ls p r) (goM M p r) := by
  obtain ⟨h1, h2, h3, h4, h5, h6, h7, h8, h9, h10, h11, h12⟩ := h
  obtain ⟨g1, g4, g5, g7, g9, g10, g11⟩ := frame1 (goOn_frame C M ls p r) ⟨h1, h4, h5, h7, h9, h10, h11⟩
  refine ⟨g1, ?_, ?_, g4, g5, ?_, g7, ?_, g9, g10, g11, fun q h1 h2 => (by
    obtain ⟨f1, f2, f3, f4, f5⟩ := h12 q h1 h2
    simp only [gI_goM]
    refine ⟨by rw [if_neg (by omega), if_neg (by omega)]; exact f1, by rw [if_neg (by omega), if_neg (by omega)]; exact f2, by rw [if_neg (by omega), if_neg (by omega)]; exact f3, f4, fun i hi => by rw [if_neg (by omega), if_neg (by omega)]; exact f5 i hi⟩)⟩
  · obtain ⟨a1, a2, a3, a4, a5⟩ := h2
    have hle : (without ls p).length ≤ ls.length := List.length_filter_le _ _
    refine ⟨fun i => by rw [gR_goOnS]; simp, ?_, by omega, a4.filter _, fun q => ?_⟩
    · rw [gI_goOnS]
      simp
      exact nm_nat (n := 17) (by omega) (by omega)
    · rw [mem_without, a5, gI_goOnS]
      by_cases hq : q = p
      · simp [hq]
      · simp [hq]
  · obtain ⟨a1, a2, a3, a4⟩ := h3
    have e8 : ∀ b, gI (goM M p r) 110 8 b = gI M 110 8 b := fun b => by rw [gI_goM]; simp
    have e1 : gI (goM M p r) 101 0 0 = gI M 101 0 0 := by rw [gI_goM]; simp
    refine ⟨by rw [e1]; exact a1, by rw [e1]; exact a2, fun q hq => ?_, ?_⟩
    · rw [e8, e1]; exact a3 q (mem_without.mp hq).1
    · have := a4.filter (fun q => !(q == p))
      simp only [e8]
      exact this
  · intro q hq
    obtain ⟨b1, b2, b3, b4, b5, b6, b7, b8⟩ := h6 q hq
    refine ⟨?_, ?_, ?_, ?_, ?_, ?_, b7, fun j hj => ?_⟩
    · rw [gI_goOnS]; simpa using b1
    · rw [gI_goOnS, gI_goM]; simpa using b2
    · rw [gI_goOnS, gI_goM]; simpa using b3
    · rw [gI_goOnS, gI_goM]; simpa using b4
    · rw [gI_goOnS, gI_goM]
      by_cases hqp : q = p
      · simp [hqp]
      · simpa [hqp] using b5
    · rw [gI_goOnS, gI_goM]
      by_cases hqp : q = p
      · simp [hqp]
      · simpa [hqp] using b6
    · rw [gI_goOnS, gI_goM]; simpa using b8 j hj
  · intro q hq
    have hh := frame1_hre (goOn_frame C M ls p r)
    by_cases hqp : q = p
    · subst hqp
      refine Or.inl ⟨?_, ?_⟩
      · rw [gI_goOnS]; simp
      · rw [gR_goOnS]; simp
    · have := h8 q hq
      unfold waitOK sendOK takeOK tryOK stepOK at this ⊢
      simp only [hh]
      simpa [gI_goOnS, gI_goM, gR_goOnS, gL_goOnS, gL_goM, hqp] using this
theorem run_goesOn {M : St} {p : Nat} {r : Int} {po : St → Prop} (hp : p < 16) (h : po (goM M p r)) : wp_X8_goesOn (p : Int) r M po := by
  unfold wp_X8_goesOn
  rw [nm_nat (n := 16) hp (by omega)]
  refine ⟨⟨by omega, by omega⟩, ?_⟩
  rintro _ rfl
  refine ⟨⟨by omega, by omega⟩, ?_⟩
  rintro _ rfl
  have e : ((p : Int)).toNat = p := by omega
  rw [e]
  exact h
