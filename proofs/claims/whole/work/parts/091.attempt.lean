/-! LAYER 2: one that tries its steps, both -/
theorem SimB.stopw {k n : Nat} {ls : List Nat} {e e2 : Option Nat} {C C' M M' : St} (h : SimB k n ls e e2 C M) (hC : AgC [1, 2, 10, 11, 12, 13, 14, 15, 16, 17, 18, 19, 20, 21, 22, 23, 24, 25, 26, 30, 31, 32, 33, 34, 35, 36, 37, 38, 39, 40, 41, 42, 45, 46, 47, 48] [10, 11, 12] [1, 2, 3, 4, 10, 11] C C') (hM : AgM [1, 2, 3, 4, 5, 7, 8, 9, 11, 12, 13, 16, 17, 18, 19, 20, 21, 22, 23, 24, 25, 26, 27, 28, 29, 30, 31, 32, 33, 34, 35, 36, 37, 38, 39, 40, 41] [6, 10, 35] M M') (h_wait : ∀ p, p < n → waitOK C' M' p) : SimB k n ls e e2 C' M' :=
  ⟨root_ag (hC.sub (by decide) (by decide) (by decide)) (hM.sub (by decide) (by decide)) (h.1), line_ag (hC.sub (by decide) (by decide) (by decide)) (hM.sub (by decide) (by decide)) (h.2.1), turn_ag (hC.sub (by decide) (by decide) (by decide)) (hM.sub (by decide) (by decide)) (h.2.2.1), tag_ag (hC.sub (by decide) (by decide) (by decide)) (hM.sub (by decide) (by decide)) (h.2.2.2.1), row_ag (hC.sub (by decide) (by decide) (by decide)) (hM.sub (by decide) (by decide)) (h.2.2.2.2.1), proc_ag (hC.sub (by decide) (by decide) (by decide)) (hM.sub (by decide) (by decide)) (h.2.2.2.2.2.1), told_ag (hC.sub (by decide) (by decide) (by decide)) (hM.sub (by decide) (by decide)) (h.2.2.2.2.2.2.1), h_wait, thing_ag (hC.sub (by decide) (by decide) (by decide)) (hM.sub (by decide) (by decide)) (h.2.2.2.2.2.2.2.2.1), queue_ag (hC.sub (by decide) (by decide) (by decide)) (hM.sub (by decide) (by decide)) (h.2.2.2.2.2.2.2.2.2.1), set_ag (hC.sub (by decide) (by decide) (by decide)) (hM.sub (by decide) (by decide)) (h.2.2.2.2.2.2.2.2.2.2.1), fre_ag (hM.sub (by decide) (by decide)) h.2.2.2.2.2.2.2.2.2.2.2⟩
theorem SimB.stop {k n : Nat} {ls : List Nat} {e e2 : Option Nat} {C M : St} {p j : Nat} (h : SimB k n ls e e2 C M) (hj8 : j < 8) (hj : (j : Int) < gI C 26 p 0) : SimB k n ls e e2 (uI C 27 p 0 (j : Int)) (uI M 110 14 p (j : Int)) := by
  have hC : AgC [1, 2, 10, 11, 12, 13, 14, 15, 16, 17, 18, 19, 20, 21, 22, 23, 24, 25, 26, 30, 31, 32, 33, 34, 35, 36, 37, 38, 39, 40, 41, 42, 45, 46, 47, 48] [10, 11, 12] [1, 2, 3, 4, 10, 11] C (uI C 27 p 0 (j : Int)) := AgC.rf.uI _ _ _ (by decide)
  have hh := hre_ag (C := C) (C' := uI C 27 p 0 (j : Int)) (hC.2.2.2 2 (by decide)) (hC.2.2.2 3 (by decide)) (hC.2.1 32 (by decide))
  have nj : nm (j : Int) = j := nm_nat (n := 8) hj8 (by omega)
  refine h.stopw hC (AgM.rf.uI _ _ (by decide)) (fun q hq => ?_)
  have hw := h.2.2.2.2.2.2.2.1 q hq
  by_cases z : q = p
  · subst z
    rcases hw with w | w | w | ⟨w, s, w1, w2, w3, w4, w5⟩
    · left; simpa [gI_uI, gL_uI, gR_uI] using w
    · right; left
      unfold sendOK at w ⊢
      simp only [hh]
      simpa [gI_uI, gL_uI, gR_uI] using w
    · right; right; left
      unfold takeOK at w ⊢
      simp only [hh]
      simpa [gI_uI, gL_uI, gR_uI] using w
    · right; right; right
      refine ⟨by simpa [gI_uI] using w, s, w1, w2, by rw [gI_uI, if_neg (by omega)]; exact w3, (hh _).mpr w4, ?_⟩
      obtain ⟨t1, t2, t3, t4, t5, t6, t7, t8⟩ := w5
      have e26 : gI (uI C 27 q 0 (j : Int)) 26 q 0 = gI C 26 q 0 := by rw [gI_uI, if_neg (by omega)]
      have e27 : gI (uI C 27 q 0 (j : Int)) 27 q 0 = j := by rw [gI_uI, if_pos ⟨rfl, rfl, rfl⟩, nj]
      refine ⟨by rw [gI_uI, if_neg (by omega)]; exact t1, by rw [e26]; exact t2, by rw [e26]; exact t3, by rw [e26, gI_uI, if_neg (by omega)]; exact t4, by rw [e27]; omega, by rw [e26, e27]; exact hj, by rw [e27, gI_uI, if_pos ⟨rfl, rfl, rfl⟩, nj], fun i hi => ?_⟩
      rw [e26] at hi
      have := t8 i hi
      unfold stepOK at this ⊢
      simpa [gI_uI] using this
  · unfold waitOK sendOK takeOK tryOK stepOK at hw ⊢
    simp only [hh]
    simpa [gI_uI, gL_uI, gR_uI, z] using hw
def LT (p s : Nat) : Nat → Nat → Nat → Prop := fun f a b => (f = 27 ∧ a = p ∧ b = 0) ∨ ((46 ≤ f ∧ f ≤ 51) ∧ a = 12 + s)
def LTM (p s : Nat) : Nat → Nat → Nat → Prop := fun f a b => f = 110 ∧ ((a = 14 ∧ b = p) ∨ ((a = 39 ∨ a = 40) ∧ 8 * s ≤ b ∧ b < 8 * s + 8) ∨ (a = 41 ∧ 96 * p + 8 * s ≤ b ∧ b < 96 * p + 8 * s + 8) ∨ a = 42 ∨ a = 43)
def LV (s : Nat) : Nat → Nat → Nat → Prop := fun f a _ => (46 ≤ f ∧ f ≤ 51) ∧ a = 12 + s
def LVM (p s : Nat) : Nat → Nat → Nat → Prop := fun f a b => f = 110 ∧ (((a = 39 ∨ a = 40) ∧ 8 * s ≤ b ∧ b < 8 * s + 8) ∨ (a = 41 ∧ 96 * p + 8 * s ≤ b ∧ b < 96 * p + 8 * s + 8) ∨ a = 42 ∨ a = 43)
theorem SimB.kept {k n : Nat} {ls : List Nat} {e e2 : Option Nat} {C C' M M' : St} {p s cnt : Nat} (h : SimB k n ls e e2 C M) (hs : s < 12) (hp : p < 16) (h45 : gI C 45 (12 + s) 0 = cnt) (x : XI (LV s) C C') (y : XI (LVM p s) M M')
    (h48 : ∀ b, ¬ (8 * p ≤ b ∧ b < 8 * p + 8) → gI C' 48 (12 + s) b = gI C 48 (12 + s) b)
    (hv : hre C (12 + s) → ∀ c, c < cnt → gI C' 46 (12 + s) c = gI M' 110 39 (8 * s + c) ∧ (0 ≤ gI C' 46 (12 + s) c ∧ gI C' 46 (12 + s) c ≤ 32767) ∧ gI C' 47 (12 + s) c = gI M' 110 40 (8 * s + c) ∧ gI C' 48 (12 + s) (8 * p + c) = gI M' 110 41 (96 * p + (8 * s + c)) ∧ -32767 ≤ gI C' 48 (12 + s) (8 * p + c) ∧ gI C' 48 (12 + s) (8 * p + c) ≤ 32767) : SimB k n ls e e2 C' M' := by
  refine h.vals (x.agC (fun f a b hf => by unfold LV at hf; simp; omega)) (y.agM (fun f a b hf => ⟨hf.1, by unfold LVM at hf; simp; omega⟩)) (fun t ht hht => ?_)
  have hh : hre C (12 + t) := (hre_ag (fun a b => x.2.2.2 2 a b) (fun a b => x.2.2.2 3 a b) (fun a b => x.2.1 32 a b (by unfold LV; omega)) (12 + t)).mp hht
  obtain ⟨g1, g2, g3, g4⟩ := h.2.2.2.2.2.2.2.2.2.2.1 t ht hh
  have e45 : gI C' 45 (12 + t) 0 = gI C 45 (12 + t) 0 := x.2.1 45 _ 0 (by unfold LV; omega)
  refine ⟨by rw [e45, y.2.1 110 38 t (by unfold LVM; omega)]; exact g1, by rw [e45]; exact g2, by rw [e45]; exact g3, fun c hc => ?_⟩
  rw [e45] at hc
  obtain ⟨k1, k2, k3, k4, k5⟩ := g4 c hc
  by_cases z : t = s
  · subst z
    obtain ⟨v1, v2, v3, v4, v5⟩ := hv hh c (by omega)
    refine ⟨v1, v2.1, v2.2, v3, fun q hq => ?_⟩
    by_cases w : q = p
    · subst w; exact ⟨v4, v5⟩
    · rw [h48 _ (by omega), y.2.1 110 41 _ (by unfold LVM; omega)]; exact k5 q hq
  · rw [x.2.1 46 _ _ (by unfold LV; omega), x.2.1 47 _ _ (by unfold LV; omega), y.2.1 110 39 _ (by unfold LVM; omega), y.2.1 110 40 _ (by unfold LVM; omega)]
    refine ⟨k1, k2, k3, k4, fun q hq => ?_⟩
    rw [x.2.1 48 _ _ (by unfold LV; omega), y.2.1 110 41 _ (by unfold LVM; omega)]; exact k5 q hq
theorem attempt_lock {k n : Nat} {ls : List Nat} {e e2 : Option Nat} {C M0 : St} {p s q cnt : Nat} (h : SimB k n ls e e2 C M0) (hpn : p < n) (hs : s < 12) (hh : hre C (12 + s)) (h45 : gI C 45 (12 + s) 0 = cnt) (hst : stC C p q cnt) :
    ∃ (o : Int) (C' : St), (o = 0 ∨ o = 1 ∨ o = -15) ∧ (∀ po : Int → St → Prop, po o C' → wp_X0_attempt (12 + s) (some p) (p : Int) C po) ∧ XI (LT p s) C C' ∧ (o = 1 → ∃ j : Nat, j < q ∧ gI C' 27 p 0 = j) ∧ (o = 0 → gI C' 51 (12 + s) 0 = 0 ∨ gI C' 51 (12 + s) 0 = 1) ∧
      ∀ M, SimB k n ls e e2 C M → stM C M p q → ∃ (r : Int) (M' : St), (∀ po : Int → St → Prop, po r M' → wp_X8_tried (p : Int) (s : Int) M po) ∧ XI (LTM p s) M M' ∧ SimB k n ls e e2 C' M' ∧ (o = 0 → (r = 0 ∨ r = 1) ∧ (r = 1 ↔ gI C' 51 (12 + s) 0 = 1)) ∧ (o = 1 → r = 2 ∧ gI C' 27 p 0 = gI M' 110 14 p) ∧ (o = -15 → r = 3) := by
  have hp : p < 16 := by have := h.1.1; omega
  have h12 : 12 ≤ 12 + s := by omega
  obtain ⟨-, c1, c8, cv⟩ := h.2.2.2.2.2.2.2.2.2.2.1 s hs hh
  have hc8 : cnt ≤ 8 := by omega
  have hq8 := hst.2.1
  have lsub : ∀ f a b, LA (12 + s) f a b → LV s f a b := by unfold LA LV; omega
  obtain ⟨C0, x0, a1, a2, a3⟩ := att_copy (C := C) (a0 := 12 + s) (p := p) (o := some p) h12 h45 hc8 hp
  have f45 : gI C0 45 (12 + s) 0 = cnt := by rw [x0.2.1 45 _ 0 (by unfold LA; omega)]; exact h45
  have hst0 : stC C0 p q cnt := hst.xi x0 (by unfold LA; omega)
  have hrg : rgC C0 (12 + s) cnt := by
    intro c hc
    obtain ⟨k1, k2, k3, k4, k5⟩ := cv c (by omega)
    rw [a1 c (by omega), a2 c hc]
    exact ⟨⟨k2, k3⟩, (k5 p hp).2⟩
  obtain ⟨o, j, C1, ho, x1, r1, hj, run1, rel1⟩ := att_loop (a0 := 12 + s) (p := p) (s := s) (q := q) (cnt := cnt) h12 hp hc8 q 0 C0 (by omega) hst0 f45 hrg
  have x01 := x0.tr x1
  have g45 : gI C1 45 (12 + s) 0 = cnt := by rw [x01.2.1 45 _ 0 (by unfold LA; omega)]; exact h45
  have hst1 : stC C1 p q cnt := hst.xi x01 (by unfold LA; omega)
  -- the model to the end of its loop
  have mod : ∀ M, SimB k n ls e e2 C M → stM C M p q → ∃ M1, XI LB M M1 ∧ stM C1 M1 p q ∧ (o = 0 → rlT C1 M1 (12 + s) cnt ∧ ∀ c, cnt ≤ c → c < 8 → gI M1 110 42 c = gI M 110 39 (8 * s + c)) ∧
      ∀ po : Int → St → Prop, (o = 0 → ∃ n9, wp_X8_tried_241 po n9 (p : Int) (s : Int) 0 0 M1) → (o = 1 → po 2 (uI M1 110 14 p (j : Int))) → (o = -15 → po 3 M1) → wp_X8_tried (p : Int) (s : Int) M po := by
    intro M hM hsm
    obtain ⟨-, -, -, mv⟩ := hM.2.2.2.2.2.2.2.2.2.2.1 s hs hh
    obtain ⟨Ma, y0, b1, b2, b3⟩ := try_copy (M := M) hs hp
    have hsa : stM C0 Ma p q := hsm.xi x0 (by unfold LA; omega) y0 (by unfold LB; omega)
    obtain ⟨Mb, y1, y2, y3⟩ := rel1 Ma hsa (fun c hc => by
      obtain ⟨k1, k2, k3, k4, k5⟩ := mv c (by omega)
      rw [a1 c (by omega), a2 c hc, b1 c (by omega), b2 c (by omega)]
      exact ⟨k1, (k5 p hp).1⟩)
    refine ⟨Mb, y0.tr y1, hsa.xi x1 (by unfold LA; omega) y1 (by unfold LB; omega), fun z => ⟨(y2 z).1, fun c hc hc2 => by rw [(y2 z).2 c hc, b1 c hc2]⟩, fun po k0 k1 k2 => b3 po ⟨q + 1, y3 po k0 k1 k2⟩⟩
  have xc1 : XI (LV s) C C1 := x01.mono lsub
  have same48 : ∀ b, gI C1 48 (12 + s) b = gI C 48 (12 + s) b := fun b => x01.2.1 48 _ b (by unfold LA; omega)
  have plain : ∀ M M1, SimB k n ls e e2 C M → XI LB M M1 → SimB k n ls e e2 C1 M1 := by
    intro M M1 hM y
    obtain ⟨-, -, -, mv⟩ := hM.2.2.2.2.2.2.2.2.2.2.1 s hs hh
    refine hM.kept hs hp h45 xc1 (y.mono (by unfold LB LVM; omega)) (fun b _ => same48 b) (fun _ c hc => ?_)
    obtain ⟨k1, k2, k3, k4, k5⟩ := mv c (by omega)
    rw [same48, x01.2.1 46 _ _ (by unfold LA; omega), x01.2.1 47 _ _ (by unfold LA; omega), y.2.1 110 39 _ (by unfold LB; omega), y.2.1 110 40 _ (by unfold LB; omega), y.2.1 110 41 _ (by unfold LB; omega)]
    exact ⟨k1, ⟨k2, k3⟩, k4, (k5 p hp).1, (k5 p hp).2⟩
  rcases ho with rfl | rfl | rfl
  · obtain ⟨C2, x2, d1, d2, d3, d4, d5, d6⟩ := keep_C (C := C1) (a0 := 12 + s) h12 g45 hc8 hp hst1
    have xc2 : XI (LV s) C C2 := xc1.tr (x2.mono (by unfold LK LV; omega))
    refine ⟨0, C2, Or.inl rfl, fun po hpo => a3 po ⟨q + 1, run1 po (fun _ => d6 _ hpo) (fun z => absurd z (by decide)) (fun z => absurd z (by decide))⟩, xc2.mono (by unfold LV LT; omega), fun z => absurd z (by decide), fun _ => d2, fun M hM hsm => ?_⟩
    obtain ⟨M1, y1, hs1, y2, y3⟩ := mod M hM hsm
    obtain ⟨-, -, -, mv⟩ := hM.2.2.2.2.2.2.2.2.2.2.1 s hs hh
    obtain ⟨rl, rest⟩ := y2 rfl
    obtain ⟨M2, r, z1, z2, z3, z4, z5⟩ := keep241 (M := M1) (s := s) (p := p) hs hp 8 0 M1 0 (by omega) XI.rf (fun c hc => absurd hc (by omega)) (fun c _ _ => rfl) (Or.inl rfl) ⟨fun z => absurd z (by decide), fun ⟨c, hc, _⟩ => absurd hc (by omega)⟩
    have e20 : gI M2 110 20 p = q := by rw [z1.2.1 110 20 p (by unfold LM4; omega)]; exact hs1.1
    have e21 : ∀ i, gI M2 110 21 (8 * p + i) = gI M1 110 21 (8 * p + i) := fun i => z1.2.1 110 21 _ (by unfold LM4; omega)
    obtain ⟨M3, w1, w2, w3, w4⟩ := keep332 (M := M2) (s := s) (p := p) (q := q) (r := r) hs hp hq8 e20 (fun i hi => by
      obtain ⟨⟨c, ec, hcc⟩, -, -⟩ := hst1.2.2 i hi
      exact ⟨c, by rw [e21, ← (hs1.2 i hi).1]; exact ec, by omega⟩) z3 q 0 M2 (by omega) XI.rf (fun c _ ⟨j, hj, _⟩ => absurd hj (by omega)) (fun c _ _ => rfl)
    have named : ∀ c : Nat, (∃ j, j < q ∧ gI M2 110 21 (8 * p + j) = c) ↔ ∃ j, j < q ∧ gI C1 22 p j = c := by
      intro c
      constructor
      · rintro ⟨j, hj, ej⟩
        exact ⟨j, hj, by rw [(hs1.2 j hj).1, ← e21]; exact ej⟩
      · rintro ⟨j, hj, ej⟩
        exact ⟨j, hj, by rw [e21, ← (hs1.2 j hj).1]; exact ej⟩
    simp only [named] at w2 w3
    have y : XI (LVM p s) M M3 := ((y1.mono (by unfold LB LVM; omega)).tr (z1.mono (by unfold LM4 LVM; omega))).tr (w1.mono (by unfold L40 LVM; omega))
    refine ⟨r, M3, fun po hpo => y3 po (fun _ => ⟨9, z5 po ⟨q + 1, w4 po hpo⟩⟩) (fun z => absurd z (by decide)) (fun z => absurd z (by decide)), y.mono (by unfold LVM LTM; omega), ?_, fun _ => ⟨z3, ?_⟩, fun z => absurd z (by decide), fun z => absurd z (by decide)⟩
    · refine hM.kept hs hp h45 xc2 y (fun b hb => ?_) (fun _ c hc => ?_)
      · rw [x2.2.1 48 _ b (by unfold LK; omega), same48]
      · obtain ⟨k1, k2, k3, k4, k5⟩ := mv c (by omega)
        obtain ⟨p1, p2⟩ := d1 c hc
        obtain ⟨q1, q2⟩ := z2 c (by omega)
        obtain ⟨s1, s2⟩ := rl c hc
        obtain ⟨t1, t2⟩ := r1 rfl c hc
        refine ⟨?_, by rw [p1]; exact t1, ?_, ?_, by rw [p2]; exact t2⟩
        · rw [p1, s1, w1.2.1 110 39 _ (by unfold L40; omega), q1]
        · by_cases nmd : ∃ j, j < q ∧ gI C1 22 p j = c
          · rw [d4 c nmd, w2 c (by omega) nmd]
          · rw [d5 c nmd, w3 c (by omega) nmd, x01.2.1 47 _ _ (by unfold LA; omega), z1.2.1 110 40 _ (by unfold LM4; omega), y1.2.1 110 40 _ (by unfold LB; omega)]
            exact k4
        · rw [p2, s2, w1.2.1 110 41 _ (by unfold L40; omega), q2]
    · rw [z4, d3]
      constructor
      · rintro ⟨c, hc, hne⟩
        rw [y1.2.1 110 39 _ (by unfold LB; omega)] at hne
        have hcc : c < cnt := by
          rcases Nat.lt_or_ge c cnt with z | z
          · exact z
          · exact absurd (rest c z hc) hne
        refine ⟨c, hcc, ?_⟩
        rw [x01.2.1 46 _ _ (by unfold LA; omega), (rl c hcc).1, (mv c (by omega)).1]
        exact fun z => hne z.symm
      · rintro ⟨c, hc, hne⟩
        rw [x01.2.1 46 _ _ (by unfold LA; omega), (rl c hc).1, (mv c (by omega)).1] at hne
        refine ⟨c, by omega, ?_⟩
        rw [y1.2.1 110 39 _ (by unfold LB; omega)]
        exact fun z => hne z.symm
  · have hjq := hj rfl
    have nj : nm (j : Int) = j := nm_nat (n := 8) (by omega) (by omega)
    refine ⟨1, uI C1 27 p 0 (j : Int), Or.inr (Or.inl rfl), fun po hpo => a3 po ⟨q + 1, run1 po (fun z => absurd z (by decide)) (fun _ => hpo) (fun z => absurd z (by decide))⟩, (xc1.mono (by unfold LV LT; omega)).uI _ (by unfold LT; omega), fun _ => ⟨j, hjq, by rw [gI_uI, if_pos ⟨rfl, rfl, rfl⟩, nj]⟩, fun z => absurd z (by decide), fun M hM hsm => ?_⟩
    obtain ⟨M1, y1, hs1, y2, y3⟩ := mod M hM hsm
    refine ⟨2, uI M1 110 14 p (j : Int), fun po hpo => y3 po (fun z => absurd z (by decide)) (fun _ => hpo) (fun z => absurd z (by decide)), (y1.mono (by unfold LB LTM; omega)).uI _ (by unfold LTM; omega), (plain M M1 hM y1).stop (by omega) (by rw [hst1.1]; omega), fun z => absurd z (by decide), fun _ => ⟨rfl, by rw [gI_uI, if_pos ⟨rfl, rfl, rfl⟩, gI_uI, if_pos ⟨rfl, rfl, rfl⟩]⟩, fun z => absurd z (by decide)⟩
  · refine ⟨-15, C1, Or.inr (Or.inr rfl), fun po hpo => a3 po ⟨q + 1, run1 po (fun z => absurd z (by decide)) (fun z => absurd z (by decide)) (fun _ => hpo)⟩, xc1.mono (by unfold LV LT; omega), fun z => absurd z (by decide), fun z => absurd z (by decide), fun M hM hsm => ?_⟩
    obtain ⟨M1, y1, hs1, y2, y3⟩ := mod M hM hsm
    exact ⟨3, M1, fun po hpo => y3 po (fun z => absurd z (by decide)) (fun z => absurd z (by decide)) (fun _ => hpo), y1.mono (by unfold LB LTM; omega), plain M M1 hM y1, fun z => absurd z (by decide), fun z => absurd z (by decide), fun _ => rfl⟩
