/-! LAYER 2: steps are taken up, both -/
theorem SimB.upw {k n : Nat} {ls : List Nat} {e e2 : Option Nat} {C C' M M' : St} (h : SimB k n ls e e2 C M) (hC : AgC [1, 2, 10, 11, 12, 13, 14, 15, 16, 17, 18, 19, 20, 21, 22, 23, 24, 27, 30, 31, 32, 33, 34, 35, 36, 37, 38, 39, 40, 41, 42, 45, 46, 47, 48] [10, 11, 12] [1, 2, 3, 4, 10, 11] C C') (hM : AgM [1, 2, 3, 4, 5, 7, 8, 9, 11, 12, 13, 14, 17, 18, 19, 24, 25, 26, 27, 28, 29, 30, 31, 32, 33, 34, 35, 36, 37, 38, 39, 40, 41] [6, 10, 35] M M') (h_told : ∀ p, p < n → toldOK C' M' p) (h_wait : ∀ p, p < n → waitOK C' M' p) (h_fre : freM n M') : SimB k n ls e e2 C' M' :=
  ⟨root_ag (hC.sub (by decide) (by decide) (by decide)) (hM.sub (by decide) (by decide)) (h.1), line_ag (hC.sub (by decide) (by decide) (by decide)) (hM.sub (by decide) (by decide)) (h.2.1), turn_ag (hC.sub (by decide) (by decide) (by decide)) (hM.sub (by decide) (by decide)) (h.2.2.1), tag_ag (hC.sub (by decide) (by decide) (by decide)) (hM.sub (by decide) (by decide)) (h.2.2.2.1), row_ag (hC.sub (by decide) (by decide) (by decide)) (hM.sub (by decide) (by decide)) (h.2.2.2.2.1), proc_ag (hC.sub (by decide) (by decide) (by decide)) (hM.sub (by decide) (by decide)) (h.2.2.2.2.2.1), h_told, h_wait, thing_ag (hC.sub (by decide) (by decide) (by decide)) (hM.sub (by decide) (by decide)) (h.2.2.2.2.2.2.2.2.1), queue_ag (hC.sub (by decide) (by decide) (by decide)) (hM.sub (by decide) (by decide)) (h.2.2.2.2.2.2.2.2.2.1), set_ag (hC.sub (by decide) (by decide) (by decide)) (hM.sub (by decide) (by decide)) (h.2.2.2.2.2.2.2.2.2.2.1), h_fre⟩
def tuC (C : St) (p : Nat) : St := uI (uI C 26 p 0 (gI C 25 p 0)) 25 p 0 0
def Lc2 (p : Nat) : Nat → Nat → Nat → Prop := fun f a b => f = 110 ∧ (a = 21 ∨ a = 22 ∨ a = 23) ∧ 8 * p ≤ b ∧ b < 8 * p + 8
def Lcp (p : Nat) : Nat → Nat → Nat → Prop := fun f a b => f = 110 ∧ (((a = 21 ∨ a = 22 ∨ a = 23) ∧ 8 * p ≤ b ∧ b < 8 * p + 8) ∨ ((a = 16 ∨ a = 20) ∧ b = p))
def Ltu (p : Nat) : Nat → Nat → Nat → Prop := fun f a b => (f = 25 ∨ f = 26) ∧ a = p ∧ b = 0
theorem tuC_xi (C : St) (p : Nat) : XI (Ltu p) C (tuC C p) := (XI.rf.uI _ (by unfold Ltu; omega)).uI _ (by unfold Ltu; omega)
theorem tuC_25 (C : St) (p : Nat) : gI (tuC C p) 25 p 0 = 0 := by unfold tuC; rw [gI_uI, if_pos ⟨rfl, rfl, rfl⟩, n0]
theorem tuC_26 (C : St) (p : Nat) : gI (tuC C p) 26 p 0 = gI C 25 p 0 := by unfold tuC; rw [gI_uI, if_neg (by omega), gI_uI, if_pos ⟨rfl, rfl, rfl⟩, nm_gI]
theorem SimB.takeup {k n : Nat} {ls : List Nat} {e e2 : Option Nat} {C M M' : St} {p : Nat} (h : SimB k n ls e e2 C M) (hpn : p < n) (h0 : gI C 15 p 0 = 0) (y : XI (Lcp p) M M') (h16 : gI M' 110 16 p = 0) : SimB k n ls e e2 (tuC C p) M' := by
  have x := tuC_xi C p
  have hh := hre_xi x (by unfold Ltu; omega)
  refine h.upw (x.agC (fun f a b hf => by unfold Ltu at hf; simp; omega)) (y.agM (fun f a b hf => ⟨hf.1, by unfold Lcp at hf; simp; omega⟩)) (fun q hq => ?_) (fun q hq => ?_) (fun q h1 h2 => ?_)
  · obtain ⟨t1, t2, t3, t4⟩ := h.2.2.2.2.2.2.1 q hq
    by_cases z : q = p
    · subst z
      refine ⟨by rw [tuC_25]; exact Int.le_refl _, by rw [tuC_25]; decide, by rw [tuC_25, h16], fun i hi => ?_⟩
      rw [tuC_25] at hi; omega
    · have e25 : gI (tuC C p) 25 q 0 = gI C 25 q 0 := x.2.1 25 q 0 (by unfold Ltu; omega)
      refine ⟨by rw [e25]; exact t1, by rw [e25]; exact t2, by rw [e25, y.2.1 110 16 q (by unfold Lcp; omega)]; exact t3, fun i hi => ?_⟩
      rw [e25] at hi
      have := t4 i hi
      unfold stepOK at this ⊢
      rw [x.2.1 22 q i (by unfold Ltu; omega), x.2.1 23 q i (by unfold Ltu; omega), x.2.1 24 q i (by unfold Ltu; omega), y.2.1 110 17 _ (by unfold Lcp; omega), y.2.1 110 18 _ (by unfold Lcp; omega), y.2.1 110 19 _ (by unfold Lcp; omega)]
      exact this
  · have hw := h.2.2.2.2.2.2.2.1 q hq
    have c15 : gI (tuC C p) 15 q 0 = gI C 15 q 0 := x.2.1 15 q 0 (by unfold Ltu; omega)
    have c10 : gR (tuC C p) 10 q 0 = gR C 10 q 0 := x.2.2.2 10 q 0
    have m9 : gI M' 110 9 q = gI M 110 9 q := y.2.1 110 9 q (by unfold Lcp; omega)
    by_cases z : q = p
    · subst z
      rcases hw with w | w | w | w
      · exact Or.inl ⟨by rw [c15]; exact w.1, by rw [c10]; exact w.2⟩
      all_goals (have := w.1; omega)
    · unfold waitOK
      rw [c15, c10, m9]
      rcases hw with w | ⟨w, w1, w2⟩ | ⟨w, w1, w2⟩ | ⟨w, s, w1, w2, w3, w4, w5⟩
      · exact Or.inl w
      · refine Or.inr (Or.inl ⟨w, ?_, ?_⟩)
        · unfold sendOK at w1 ⊢
          simp only [x.2.1 17 (2 * q) 0 (by unfold Ltu; omega), x.2.2.1, y.2.2.1, y.2.1 110 11 q (by unfold Lcp; omega)]
          refine ⟨w1.1, w1.2.1, w1.2.2.1, w1.2.2.2.1, w1.2.2.2.2.1, fun j hj => ?_⟩
          rw [x.2.1 18 (2 * q) j (by unfold Ltu; omega), y.2.1 110 13 _ (by unfold Lcp; omega)]
          exact w1.2.2.2.2.2 j hj
        · simp only [hh]; exact w2
      · refine Or.inr (Or.inr (Or.inl ⟨w, ?_, ?_⟩))
        · unfold takeOK at w1 ⊢
          rw [x.2.1 19 q 0 (by unfold Ltu; omega), x.2.1 20 q 0 (by unfold Ltu; omega), x.2.1 21 q 0 (by unfold Ltu; omega), x.2.2.1, y.2.2.1, y.2.1 110 11 q (by unfold Lcp; omega), y.2.1 110 12 q (by unfold Lcp; omega)]
          exact w1
        · simp only [hh]; exact w2
      · refine Or.inr (Or.inr (Or.inr ⟨w, s, w1, w2, w3, (hh _).mpr w4, ?_⟩))
        obtain ⟨t1, t2, t3, t4, t5, t6, t7, t8⟩ := w5
        have e26 : gI (tuC C p) 26 q 0 = gI C 26 q 0 := x.2.1 26 q 0 (by unfold Ltu; omega)
        have e27 : gI (tuC C p) 27 q 0 = gI C 27 q 0 := x.2.1 27 q 0 (by unfold Ltu; omega)
        refine ⟨by rw [x.2.1 25 q 0 (by unfold Ltu; omega)]; exact t1, by rw [e26]; exact t2, by rw [e26]; exact t3, by rw [e26, y.2.1 110 20 q (by unfold Lcp; omega)]; exact t4, by rw [e27]; exact t5, by rw [e26, e27]; exact t6, by rw [e27, y.2.1 110 14 q (by unfold Lcp; omega)]; exact t7, fun i hi => ?_⟩
        rw [e26] at hi
        have := t8 i hi
        unfold stepOK at this ⊢
        rw [x.2.1 22 q i (by unfold Ltu; omega), x.2.1 23 q i (by unfold Ltu; omega), x.2.1 24 q i (by unfold Ltu; omega), x.2.1 45 _ _ (by unfold Ltu; omega), y.2.1 110 21 _ (by unfold Lcp; omega), y.2.1 110 22 _ (by unfold Lcp; omega), y.2.1 110 23 _ (by unfold Lcp; omega)]
        exact this
  · have hf := h.2.2.2.2.2.2.2.2.2.2.2 q h1 h2
    have : q ≠ p := by omega
    rw [y.2.1 110 4 q (by unfold Lcp; omega), y.2.1 110 7 q (by unfold Lcp; omega), y.2.1 110 16 q (by unfold Lcp; omega), y.2.2.1]
    refine ⟨hf.1, hf.2.1, hf.2.2.1, hf.2.2.2.1, fun j hj => ?_⟩
    rw [y.2.1 110 5 _ (by unfold Lcp; omega)]
    exact hf.2.2.2.2 j hj
theorem highest_loop {C : St} {p g : Nat} (hg : gI C 26 p 0 = g) (hg8 : g ≤ 8) (hc : ∀ j, j < g → 0 ≤ gI C 22 p j ∧ gI C 22 p j ≤ 7) : ∀ (m i : Nat) (x : Int), i + m = g → 0 ≤ x ∧ x ≤ 7 → ∃ r : Int, (0 ≤ r ∧ r ≤ 7) ∧ (∀ v : Int, r < v ↔ x < v ∧ ∀ j, i ≤ j → j < g → gI C 22 p j < v) ∧ ∀ po : Int → St → Prop, po r C → wp_X4_highestCounter_4 po (m + 1) p x (i : Int) C := by
  intro m
  induction m with
  | zero =>
    intro i x hi hx
    have e : i = g := by omega
    subst e
    refine ⟨x, hx, fun v => ⟨fun z => ⟨z, fun j h1 h2 => absurd h2 (by omega)⟩, fun z => z.1⟩, fun po hpo => ?_⟩
    unfold wp_X4_highestCounter_4
    rw [hg]
    exact ⟨fun _ => hpo, fun z => absurd z (by omega)⟩
  | succ m ih =>
    intro i x hi hx
    have ni : nm (i : Int) = i := nm_nat (n := 9) (by omega) (by omega)
    have ng : nm (g : Int) = g := nm_nat (n := 9) (by omega) (by omega)
    have hci := hc i (by omega)
    have ez : zmax x (gI C 22 p i) = if x < gI C 22 p i then gI C 22 p i else x := by unfold zmax; rw [nm_gI, nm_id (by omega)]
    obtain ⟨r, g1, g2, g3⟩ := ih (i + 1) (zmax x (gI C 22 p i)) (by omega) (by rw [ez]; split <;> omega)
    refine ⟨r, g1, fun v => ?_, fun po hpo => ?_⟩
    · rw [g2, ez]
      constructor
      · rintro ⟨a, b⟩
        refine ⟨by split at a <;> omega, fun j h1 h2 => ?_⟩
        by_cases z : j = i
        · subst z; split at a <;> omega
        · exact b j (by omega) h2
      · rintro ⟨a, b⟩
        have := b i (Nat.le_refl _) (by omega)
        exact ⟨by split <;> omega, fun j h1 h2 => b j (by omega) h2⟩
    · rw [wp_X4_highestCounter_4]
      rw [hg, ni, ng, Int.toNat_natCast, show nm 8 = 8 by decide, show ((i : Int) + 1) = ((i + 1 : Nat) : Int) by omega]
      exact ⟨fun z => absurd z (by omega), fun _ => ⟨fun z => absurd z (by omega), fun _ => ⟨by omega, g3 po hpo⟩⟩⟩
theorem change_loop {C : St} {p g : Nat} (hg : gI C 26 p 0 = g) (hg8 : g ≤ 8) : ∀ (m i : Nat), i + m = g → ∃ r : Int, (r = 0 ∨ r = 1) ∧ (r = 0 ↔ ∀ j, i ≤ j → j < g → gI C 23 p j = 0) ∧ ∀ po : Int → St → Prop, po r C → wp_X4_haveChange_2 po (m + 1) p (i : Int) C := by
  intro m
  induction m with
  | zero =>
    intro i hi
    have e : i = g := by omega
    subst e
    refine ⟨0, Or.inl rfl, ⟨fun _ j h1 h2 => absurd h2 (by omega), fun _ => rfl⟩, fun po hpo => ?_⟩
    unfold wp_X4_haveChange_2
    rw [hg]
    exact ⟨fun _ => hpo, fun z => absurd z (by omega)⟩
  | succ m ih =>
    intro i hi
    have ni : nm (i : Int) = i := nm_nat (n := 9) (by omega) (by omega)
    have ng : nm (g : Int) = g := nm_nat (n := 9) (by omega) (by omega)
    obtain ⟨r, g1, g2, g3⟩ := ih (i + 1) (by omega)
    have top : ∀ po : Int → St → Prop, (gI C 23 p i = 0 → wp_X4_haveChange_2 po (m + 1) p ((i + 1 : Nat) : Int) C) → (gI C 23 p i ≠ 0 → po 1 C) → wp_X4_haveChange_2 po (m + 1 + 1) p (i : Int) C := by
      intro po k0 k1
      rw [wp_X4_haveChange_2]
      rw [hg, ni, ng, Int.toNat_natCast, nm_gI, show nm 8 = 8 by decide, show ((i : Int) + 1) = ((i + 1 : Nat) : Int) by omega]
      exact ⟨fun z => absurd z (by omega), fun _ => ⟨fun z => absurd z (by omega), fun _ => ⟨by omega, k0, k1⟩⟩⟩
    by_cases hz : gI C 23 p i = 0
    · refine ⟨r, g1, ?_, fun po hpo => top po (fun _ => g3 po hpo) (fun z => absurd hz z)⟩
      rw [g2]
      constructor
      · intro b j h1 h2
        by_cases z : j = i
        · subst z; exact hz
        · exact b j (by omega) h2
      · exact fun b j h1 h2 => b j (by omega) h2
    · exact ⟨1, Or.inr rfl, ⟨fun z => absurd z (by decide), fun z => absurd (z i (Nat.le_refl _) (by omega)) hz⟩, fun po hpo => top po (fun z => absurd z hz) (fun _ => hpo)⟩
theorem cp_loop {N : St} {p g s : Nat} {x4 : Int} (hp : p < 16) (hg8 : g ≤ 8) : ∀ (m i : Nat) (σ : St) (x5 x6 : Int), i + m = g → XI (Lc2 p) N σ → (∀ j, j < i → gI σ 110 21 (8 * p + j) = gI N 110 17 (8 * p + j) ∧ gI σ 110 22 (8 * p + j) = gI N 110 18 (8 * p + j) ∧ gI σ 110 23 (8 * p + j) = gI N 110 19 (8 * p + j)) → (x5 = 0 ∨ x5 = 1) → (x5 = 1 → s < 12 ∧ x4 = ((12 + s : Nat) : Int)) → (x6 = 0 ∨ x6 = 2) →
    ∃ (N1 : St) (y5 y6 : Int), XI (Lc2 p) N N1 ∧ (∀ j, j < g → gI N1 110 21 (8 * p + j) = gI N 110 17 (8 * p + j) ∧ gI N1 110 22 (8 * p + j) = gI N 110 18 (8 * p + j) ∧ gI N1 110 23 (8 * p + j) = gI N 110 19 (8 * p + j)) ∧ (y5 = 0 ∨ y5 = 1) ∧ (y6 = 0 ∨ y6 = 2) ∧ (y5 = 1 ↔ x5 = 1 ∧ ∀ j, i ≤ j → j < g → gI N 110 17 (8 * p + j) < gI N 110 38 s) ∧ (y6 = 0 ↔ x6 = 0 ∧ ∀ j, i ≤ j → j < g → gI N 110 18 (8 * p + j) = 0) ∧
      ∀ po : Int → St → Prop, (y5 = 1 → (y6 = 2 → wp_X8_steps_217 po (p : Int) x4 2 x4 (p : Int) (uI N1 110 20 p (g : Int))) ∧ (y6 = 0 → wp_X8_steps_217 po (p : Int) x4 4 x4 (p : Int) (uI N1 110 20 p (g : Int)))) → (y5 = 0 → wp_X8_tells (p : Int) (-5) (uI N1 110 20 p (g : Int)) (fun r s => po r s)) → wp_X8_steps_68 po (m + 1) (p : Int) (g : Int) x4 x5 x6 (i : Int) σ := by
  have np : nm (p : Int) = p := nm_nat (n := 16) hp (by omega)
  have ng : nm (g : Int) = g := nm_nat (n := 9) (by omega) (by omega)
  intro m
  induction m with
  | zero =>
    intro i σ x5 x6 hi hx h1 h5 h5b h6
    have e : i = g := by omega
    subst e
    refine ⟨σ, x5, x6, hx, h1, h5, h6, ⟨fun z => ⟨z, fun j a b => absurd b (by omega)⟩, fun z => z.1⟩, ⟨fun z => ⟨z, fun j a b => absurd b (by omega)⟩, fun z => z.1⟩, fun po k1 k0 => ?_⟩
    unfold wp_X8_steps_68
    rw [np, Int.toNat_natCast]
    refine ⟨fun _ => ⟨by omega, ?_⟩, fun z => absurd z (by omega)⟩
    rintro _ rfl
    have n5 : nm x5 = x5 := by rcases h5 with rfl | rfl <;> decide
    have n6 : nm x6 = x6 := by rcases h6 with rfl | rfl <;> decide
    rw [n5, n6]
    exact ⟨fun z => ⟨fun y => (k1 (by omega)).1 (by omega), fun y => (k1 (by omega)).2 y⟩, k0⟩
  | succ m ih =>
    intro i σ x5 x6 hi hx h1 h5 h5b h6
    have ni : nm (i : Int) = i := nm_nat (n := 9) (by omega) (by omega)
    have n5 : nm x5 = x5 := by rcases h5 with rfl | rfl <;> decide
    have ek : nm (8 * (p : Int) + i) = ((8 * p + i : Nat) : Int) := by rw [nm_id (by omega)]; omega
    have k128 : (0 : Int) ≤ ((8 * p + i : Nat) : Int) ∧ ((8 * p + i : Nat) : Int) < 128 := by omega
    have e17 : gI σ 110 17 (8 * p + i) = gI N 110 17 (8 * p + i) := hx.2.1 110 17 _ (by unfold Lc2; omega)
    have e18 : gI σ 110 18 (8 * p + i) = gI N 110 18 (8 * p + i) := hx.2.1 110 18 _ (by unfold Lc2; omega)
    have e19 : gI σ 110 19 (8 * p + i) = gI N 110 19 (8 * p + i) := hx.2.1 110 19 _ (by unfold Lc2; omega)
    obtain ⟨σ3, eσ⟩ : ∃ σ3, σ3 = uI (uI (uI σ 110 21 (8 * p + i) (gI N 110 17 (8 * p + i))) 110 22 (8 * p + i) (gI N 110 18 (8 * p + i))) 110 23 (8 * p + i) (gI N 110 19 (8 * p + i)) := ⟨_, rfl⟩
    have x3 : XI (Lc2 p) N σ3 := by rw [eσ]; exact ((hx.uI _ (by unfold Lc2; omega)).uI _ (by unfold Lc2; omega)).uI _ (by unfold Lc2; omega)
    have f21 : gI σ3 110 21 (8 * p + i) = gI N 110 17 (8 * p + i) := by rw [eσ, gI_uI, if_neg (by omega), gI_uI, if_neg (by omega), gI_uI, if_pos ⟨rfl, rfl, rfl⟩, nm_gI]
    have f22 : gI σ3 110 22 (8 * p + i) = gI N 110 18 (8 * p + i) := by rw [eσ, gI_uI, if_neg (by omega), gI_uI, if_pos ⟨rfl, rfl, rfl⟩, nm_gI]
    have f23 : gI σ3 110 23 (8 * p + i) = gI N 110 19 (8 * p + i) := by rw [eσ, gI_uI, if_pos ⟨rfl, rfl, rfl⟩, nm_gI]
    have rows : ∀ j, j < i + 1 → gI σ3 110 21 (8 * p + j) = gI N 110 17 (8 * p + j) ∧ gI σ3 110 22 (8 * p + j) = gI N 110 18 (8 * p + j) ∧ gI σ3 110 23 (8 * p + j) = gI N 110 19 (8 * p + j) := by
      intro j hj
      by_cases z : j = i
      · subst z; exact ⟨f21, f22, f23⟩
      · obtain ⟨q1, q2, q3⟩ := h1 j (by omega)
        rw [eσ]
        refine ⟨?_, ?_, ?_⟩
        · rw [gI_uI, if_neg (by omega), gI_uI, if_neg (by omega), gI_uI, if_neg (by omega)]; exact q1
        · rw [gI_uI, if_neg (by omega), gI_uI, if_neg (by omega), gI_uI, if_neg (by omega)]; exact q2
        · rw [gI_uI, if_neg (by omega), gI_uI, if_neg (by omega), gI_uI, if_neg (by omega)]; exact q3
    have zo : ∀ y : Int, (y = 0 ∨ y = 2) → (zor x6 y = 0 ∨ zor x6 y = 2) ∧ (zor x6 y = 0 ↔ x6 = 0 ∧ y = 0) := by
      intro y hy
      rcases h6 with rfl | rfl <;> rcases hy with rfl | rfl <;> decide
    obtain ⟨y0, hy0, hy0i⟩ : ∃ y0 : Int, (y0 = 0 ∨ y0 = 1) ∧ (y0 = 1 ↔ x5 = 1 ∧ gI N 110 17 (8 * p + i) < gI N 110 38 s) := by
      by_cases w : x5 = 1 ∧ gI N 110 17 (8 * p + i) < gI N 110 38 s
      · exact ⟨1, Or.inr rfl, fun _ => w, fun _ => rfl⟩
      · exact ⟨0, Or.inl rfl, fun z => absurd z (by decide), fun z => absurd z w⟩
    obtain ⟨y6, hy6, hy6i⟩ : ∃ y6 : Int, (y6 = 0 ∨ y6 = 2) ∧ (y6 = 0 ↔ gI N 110 18 (8 * p + i) = 0) := by
      by_cases w : gI N 110 18 (8 * p + i) = 0
      · exact ⟨0, Or.inl rfl, fun _ => w, fun _ => rfl⟩
      · exact ⟨2, Or.inr rfl, fun z => absurd z (by decide), fun z => absurd z w⟩
    obtain ⟨zo1, zo2⟩ := zo y6 hy6
    obtain ⟨N1, w5, w6, g1, g2, g3, g4, g5, g6, g7⟩ := ih (i + 1) σ3 y0 (zor x6 y6) (by omega) x3 rows hy0 (fun z => h5b (hy0i.mp z).1) zo1
    refine ⟨N1, w5, w6, g1, g2, g3, g4, ?_, ?_, fun po k1 k0 => ?_⟩
    · rw [g5, hy0i]
      constructor
      · rintro ⟨⟨a, b⟩, c⟩
        refine ⟨a, fun j q1 q2 => ?_⟩
        by_cases z : j = i
        · subst z; exact b
        · exact c j (by omega) q2
      · rintro ⟨a, b⟩
        exact ⟨⟨a, b i (Nat.le_refl _) (by omega)⟩, fun j q1 q2 => b j (by omega) q2⟩
    · rw [g6, zo2, hy6i]
      constructor
      · rintro ⟨⟨a, b⟩, c⟩
        refine ⟨a, fun j q1 q2 => ?_⟩
        by_cases z : j = i
        · subst z; exact b
        · exact c j (by omega) q2
      · rintro ⟨a, b⟩
        exact ⟨⟨a, b i (Nat.le_refl _) (by omega)⟩, fun j q1 q2 => b j (by omega) q2⟩
    · have hgo := g7 po k1 k0
      have last : ∀ y : Int, y = y0 → wp_X8_steps_155 po (fun x1 x3 x4 x5 x6 x7 s9 => wp_X8_steps_68 po (m + 1) x1 x3 x4 x5 x6 x7 s9) (p : Int) (g : Int) x4 x6 (i : Int) (8 * (p : Int) + i) y σ3 := by
        intro y hy
        subst hy
        unfold wp_X8_steps_155
        rw [ek, Int.toNat_natCast, f22, nm_gI, show ((i : Int) + 1) = ((i + 1 : Nat) : Int) by omega]
        refine ⟨k128, fun z => ?_, fun z => ?_⟩
        · rw [hy6i.mpr z] at hgo; exact hgo
        · have : y6 = 2 := by
            rcases hy6 with q | q
            · exact absurd (hy6i.mp q) z
            · exact q
          rw [this] at hgo; exact hgo
      rw [wp_X8_steps_68]
      rw [ng, ni, n5, ek, Int.toNat_natCast, e17]
      refine ⟨fun z => absurd z (by omega), fun _ => ⟨k128, k128, ?_⟩⟩
      rintro _ rfl
      rw [gI_uI, if_neg (by omega), e18]
      refine ⟨k128, k128, ?_⟩
      rintro _ rfl
      rw [gI_uI, if_neg (by omega), gI_uI, if_neg (by omega), e19]
      refine ⟨k128, k128, ?_⟩
      intro σ4 e4
      rw [← eσ] at e4
      subst e4
      refine ⟨fun z => last 0 ?_, fun z => ?_⟩
      · rcases hy0 with q | q
        · exact q.symm
        · have := (hy0i.mp q).1; omega
      · have x51 : x5 = 1 := by omega
        obtain ⟨hs, e4⟩ := h5b x51
        have e5 : nm (x4 - 12) = (s : Int) := by rw [e4, nm_id (by omega)]; omega
        rw [e5, Int.toNat_natCast, f21, nm_gI, nm_gI, x3.2.1 110 38 s (by unfold Lc2; omega)]
        refine ⟨k128, by omega, fun y => last 0 ?_, fun y => last 1 ?_⟩
        · rcases hy0 with q | q
          · exact q.symm
          · have := (hy0i.mp q).2; omega
        · exact (hy0i.mpr ⟨x51, y⟩).symm
theorem mod_steps {k n : Nat} {ls : List Nat} {e e2 : Option Nat} {C M : St} {p g s : Nat} {x4 x5 : Int} (hM : SimB k n ls e e2 C M) (hpn : p < n) (h0 : gI C 15 p 0 = 0) (hg : gI C 25 p 0 = g) (hx5 : x5 = 0 ∨ x5 = 1) (hx : x5 = 1 → s < 12 ∧ x4 = ((12 + s : Nat) : Int)) :
    ∃ (M1 : St) (y5 y6 : Int), XI (Lcp p) M M1 ∧ SimB k n ls e e2 (tuC C p) M1 ∧ stM (tuC C p) M1 p g ∧ (y5 = 0 ∨ y5 = 1) ∧ (y6 = 0 ∨ y6 = 2) ∧ (y5 = 1 ↔ x5 = 1 ∧ ∀ j, j < g → gI C 22 p j < gI M 110 38 s) ∧ (y6 = 0 ↔ ∀ j, j < g → gI C 23 p j = 0) ∧
      ∀ po : Int → St → Prop, (y5 = 1 → (y6 = 2 → wp_X8_steps_217 po (p : Int) x4 2 x4 (p : Int) M1) ∧ (y6 = 0 → wp_X8_steps_217 po (p : Int) x4 4 x4 (p : Int) M1)) → (y5 = 0 → wp_X8_tells (p : Int) (-5) M1 (fun r s => po r s)) → ∃ n9, wp_X8_steps_68 po n9 (p : Int) (g : Int) x4 x5 0 0 (uI M 110 16 p 0) := by
  have hp : p < 16 := by have := hM.1.1; omega
  obtain ⟨t1, t2, t3, t4⟩ := hM.2.2.2.2.2.2.1 p hpn
  have hg8 : g ≤ 8 := by omega
  have ng : nm (g : Int) = g := nm_nat (n := 9) (by omega) (by omega)
  have x0 : XI (Lcp p) M (uI M 110 16 p 0) := XI.rf.uI _ (by unfold Lcp; omega)
  have e : ∀ f b, f ≠ 16 → gI (uI M 110 16 p 0) 110 f b = gI M 110 f b := fun f b hf => by rw [gI_uI, if_neg (by omega)]
  obtain ⟨N1, y5, y6, g1, g2, g3, g4, g5, g6, g7⟩ := cp_loop (N := uI M 110 16 p 0) (p := p) (g := g) (s := s) (x4 := x4) hp hg8 g 0 (uI M 110 16 p 0) x5 0 (by omega) XI.rf (fun j hj => absurd hj (by omega)) hx5 hx (Or.inl rfl)
  simp only [e 17 _ (by decide), e 18 _ (by decide), e 19 _ (by decide), e 38 _ (by decide)] at g2 g5 g6
  have xM : XI (Lcp p) M (uI N1 110 20 p (g : Int)) := (x0.tr (g1.mono (by unfold Lc2 Lcp; omega))).uI _ (by unfold Lcp; omega)
  have e16 : gI (uI N1 110 20 p (g : Int)) 110 16 p = 0 := by rw [gI_uI, if_neg (by omega), g1.2.1 110 16 p (by unfold Lc2; omega), gI_uI, if_pos ⟨rfl, rfl, rfl⟩, n0]
  refine ⟨uI N1 110 20 p (g : Int), y5, y6, xM, hM.takeup hpn h0 xM e16, ⟨by rw [gI_uI, if_pos ⟨rfl, rfl, rfl⟩, ng], fun i hi => ?_⟩, g3, g4, ?_, ?_, fun po k1 k0 => ⟨g + 1, g7 po k1 k0⟩⟩
  · obtain ⟨s1, s2, s3, -⟩ := t4 i (by omega)
    obtain ⟨q1, q2, q3⟩ := g2 i hi
    have x := tuC_xi C p
    rw [x.2.1 22 p i (by unfold Ltu; omega), x.2.1 23 p i (by unfold Ltu; omega), x.2.1 24 p i (by unfold Ltu; omega), gI_uI, if_neg (by omega), gI_uI, if_neg (by omega), gI_uI, if_neg (by omega), q1, q2, q3]
    exact ⟨s1, s2, s3⟩
  · rw [g5]
    constructor
    · rintro ⟨a, b⟩
      exact ⟨a, fun j hj => by rw [(t4 j (by omega)).1]; exact b j (by omega) hj⟩
    · rintro ⟨a, b⟩
      exact ⟨a, fun j _ hj => by rw [← (t4 j (by omega)).1]; exact b j hj⟩
  · rw [g6]
    constructor
    · rintro ⟨-, b⟩
      exact fun j hj => by rw [(t4 j (by omega)).2.1]; exact b j (by omega) hj
    · intro b
      exact ⟨trivial, fun j _ hj => by rw [← (t4 j (by omega)).2.1]; exact b j hj⟩
