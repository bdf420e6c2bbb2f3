/-! LAYER 2: all steps are tried, both -/
def stC (C : St) (p q cnt : Nat) : Prop := gI C 26 p 0 = q ∧ q ≤ 8 ∧ ∀ i : Nat, i < q → (∃ c : Nat, gI C 22 p i = c ∧ c < cnt) ∧ (-32767 ≤ gI C 23 p i ∧ gI C 23 p i ≤ 32767) ∧ 0 ≤ gI C 24 p i ∧ gI C 24 p i ≤ 3
def stM (C M : St) (p q : Nat) : Prop := gI M 110 20 p = q ∧ ∀ i : Nat, i < q → gI C 22 p i = gI M 110 21 (8 * p + i) ∧ gI C 23 p i = gI M 110 22 (8 * p + i) ∧ gI C 24 p i = gI M 110 23 (8 * p + i)
def rgC (C : St) (a0 cnt : Nat) : Prop := ∀ c : Nat, c < cnt → (0 ≤ gI C 49 a0 c ∧ gI C 49 a0 c ≤ 32767) ∧ -32767 ≤ gI C 50 a0 c ∧ gI C 50 a0 c ≤ 32767
def rlT (C M : St) (a0 cnt : Nat) : Prop := ∀ c : Nat, c < cnt → gI C 49 a0 c = gI M 110 42 c ∧ gI C 50 a0 c = gI M 110 43 c
theorem stC.xi {L : Nat → Nat → Nat → Prop} {C C' : St} {p q cnt : Nat} (h : stC C p q cnt) (x : XI L C C') (hl : ∀ f a b, L f a b → f ≠ 22 ∧ f ≠ 23 ∧ f ≠ 24 ∧ f ≠ 26) : stC C' p q cnt := by
  unfold stC at h ⊢
  simp only [x.2.1 22 _ _ (fun z => (hl _ _ _ z).1 rfl), x.2.1 23 _ _ (fun z => (hl _ _ _ z).2.1 rfl), x.2.1 24 _ _ (fun z => (hl _ _ _ z).2.2.1 rfl), x.2.1 26 _ _ (fun z => (hl _ _ _ z).2.2.2 rfl)]
  exact h
theorem stM.xi {L L' : Nat → Nat → Nat → Prop} {C C' M M' : St} {p q : Nat} (h : stM C M p q) (x : XI L C C') (hl : ∀ f a b, L f a b → f ≠ 22 ∧ f ≠ 23 ∧ f ≠ 24) (y : XI L' M M') (hl' : ∀ f a b, L' f a b → f = 110 → a ≠ 20 ∧ a ≠ 21 ∧ a ≠ 22 ∧ a ≠ 23) : stM C' M' p q := by
  unfold stM at h ⊢
  simp only [x.2.1 22 _ _ (fun z => (hl _ _ _ z).1 rfl), x.2.1 23 _ _ (fun z => (hl _ _ _ z).2.1 rfl), x.2.1 24 _ _ (fun z => (hl _ _ _ z).2.2 rfl), y.2.1 110 20 _ (fun z => (hl' _ _ _ z rfl).1 rfl), y.2.1 110 21 _ (fun z => (hl' _ _ _ z rfl).2.1 rfl), y.2.1 110 22 _ (fun z => (hl' _ _ _ z rfl).2.2.1 rfl), y.2.1 110 23 _ (fun z => (hl' _ _ _ z rfl).2.2.2 rfl)]
  exact h
theorem sp_isUndone {C : St} {p i : Nat} {po : Int → St → Prop} (hi : i < 8) (h : po (if zand (gI C 24 p i) 2 = 0 then 0 else 1) C) : wp_X4_isUndone p (i : Int) C po := by
  have ni : nm (i : Int) = i := nm_nat (n := 8) hi (by omega)
  unfold wp_X4_isUndone
  rw [sp_isWithin ni (show nm 7 = 7 by decide), ni, Int.toNat_natCast, nm_zand]
  refine ⟨fun z => absurd (by omega) ((ez_bI _).mp z), fun _ => ⟨by omega, fun z => ?_, fun z => ?_⟩⟩
  · rw [if_pos z] at h; exact h
  · rw [if_neg z] at h; exact h
theorem att_loop {a0 p s q cnt : Nat} (h12 : 12 ≤ a0) (hp : p < 16) (hc8 : cnt ≤ 8) : ∀ (m i : Nat) (C : St), i + m = q → stC C p q cnt → gI C 45 a0 0 = cnt → rgC C a0 cnt →
    ∃ (o : Int) (j : Nat) (C1 : St), (o = 0 ∨ o = 1 ∨ o = -15) ∧ XI (LA a0) C C1 ∧ (o = 0 → rgC C1 a0 cnt) ∧ (o = 1 → j < q) ∧
      (∀ po : Int → St → Prop, (o = 0 → wp_X0_keep a0 (some p) (p : Int) C1 (fun s => po 0 s)) → (o = 1 → po 1 (uI C1 27 p 0 (j : Int))) → (o = -15 → po (-15) C1) → wp_X0_attempt_40 po (m + 1) a0 (some p) (p : Int) (i : Int) C) ∧
      ∀ M, stM C M p q → rlT C M a0 cnt → ∃ M1, XI LB M M1 ∧ (o = 0 → rlT C1 M1 a0 cnt ∧ ∀ c, cnt ≤ c → gI M1 110 42 c = gI M 110 42 c) ∧
        ∀ po : Int → St → Prop, (o = 0 → ∃ n9, wp_X8_tried_241 po n9 (p : Int) (s : Int) 0 0 M1) → (o = 1 → po 2 (uI M1 110 14 p (j : Int))) → (o = -15 → po 3 M1) → wp_X8_tried_55 po (m + 1) (p : Int) (s : Int) (i : Int) M := by
  intro m
  induction m with
  | zero =>
    intro i C hi hs h45 hrg
    have e : i = q := by omega
    subst e
    have ni : nm (i : Int) = i := nm_nat (n := 9) (by have := hs.2.1; omega) (by omega)
    refine ⟨0, 0, C, Or.inl rfl, XI.rf, fun _ => hrg, fun z => absurd z (by decide), fun po k0 _ _ => ?_, fun M hM hrl => ⟨M, XI.rf, fun _ => ⟨hrl, fun _ _ => rfl⟩, fun po k0 _ _ => ?_⟩⟩
    · unfold wp_X0_attempt_40
      refine ⟨p, rfl, ?_⟩
      rw [hs.1, ni]
      exact ⟨fun _ => ⟨h12, k0 rfl⟩, fun z => absurd z (by omega)⟩
    · unfold wp_X8_tried_55
      rw [nm_nat (n := 16) hp (by omega), Int.toNat_natCast, hM.1, ni]
      exact ⟨by omega, fun _ => k0 rfl, fun z => absurd z (by omega)⟩
  | succ m ih =>
    intro i C hi hs h45 hrg
    have hq8 := hs.2.1
    have hiq : i < q := by omega
    have ni : nm (i : Int) = i := nm_nat (n := 9) (by omega) (by omega)
    have nq : nm (q : Int) = q := nm_nat (n := 9) (by omega) (by omega)
    obtain ⟨⟨c, ec, hcc⟩, hch, hw⟩ := hs.2.2 i hiq
    obtain ⟨hv, hu⟩ := hrg c hcc
    have hun : (if zand (gI C 24 p i) 2 = 0 then (0 : Int) else 1) = 0 ∨ (if zand (gI C 24 p i) 2 = 0 then (0 : Int) else 1) = 1 := by
      split
      · exact Or.inl rfl
      · exact Or.inr rfl
    obtain ⟨C1, x1, u1, r1⟩ := one_C (C := C) (a0 := a0) (c := c) (ch := gI C 23 p i) (un := if zand (gI C 24 p i) 2 = 0 then (0 : Int) else 1) h12 (by omega) (by omega) hch rfl rfl hv hu hun
    have h3 := oneN_3 (gI C 49 a0 c) (gI C 50 a0 c) (gI C 23 p i) (if zand (gI C 24 p i) 2 = 0 then (0 : Int) else 1)
    -- the class's step
    have cstep : ∀ (o : Int) (po : Int → St → Prop), oneN (gI C 49 a0 c) (gI C 50 a0 c) (gI C 23 p i) (if zand (gI C 24 p i) 2 = 0 then (0 : Int) else 1) = o → (o = 0 → wp_X0_attempt_40 po (m + 1) a0 (some p) (p : Int) ((i + 1 : Nat) : Int) C1) → (o = 1 → po 1 (uI C1 27 p 0 (i : Int))) → (o = -15 → po (-15) C1) → wp_X0_attempt_40 po (m + 1 + 1) a0 (some p) (p : Int) (i : Int) C := by
      intro o po ho k0 k1 k2
      rw [wp_X0_attempt_40]
      refine ⟨p, rfl, ?_⟩
      rw [hs.1, ni, nq, show nm 8 = 8 by decide, Int.toNat_natCast, ec, show ((i : Int) + 1) = ((i + 1 : Nat) : Int) by omega]
      refine ⟨fun z => absurd z (by omega), fun _ => ⟨fun z => absurd z (by omega), fun _ => ⟨by omega, by omega, sp_isUndone (by omega) ⟨h12, r1 _ ?_⟩⟩⟩⟩
      rw [ho, show nm 1 = 1 by decide]
      rcases h3 with w | w | w
      · have e : o = 0 := by omega
        subst e
        exact ⟨fun _ => ⟨fun _ => k0 rfl, fun z => absurd n0 z⟩, fun z => absurd z (by decide)⟩
      · have e : o = 1 := by omega
        subst e
        refine ⟨fun z => absurd (show nm 1 = 1 by decide) z, fun _ => ?_⟩
        rintro _ rfl
        exact ⟨fun z => absurd z (by decide), fun _ => k1 rfl⟩
      · have e : o = -15 := by omega
        subst e
        exact ⟨fun _ => ⟨fun z => absurd z (by decide), fun _ => k2 rfl⟩, fun z => absurd z (by decide)⟩
    -- the model's step
    have mstep : ∀ M, stM C M p q → rlT C M a0 cnt → ∃ M', XI LB M M' ∧ (oneN (gI C 49 a0 c) (gI C 50 a0 c) (gI C 23 p i) (if zand (gI C 24 p i) 2 = 0 then (0 : Int) else 1) = 0 → rlT C1 M' a0 cnt ∧ ∀ b, cnt ≤ b → gI M' 110 42 b = gI M 110 42 b) ∧ ∀ (po : Int → St → Prop) (n : Nat), (oneN (gI C 49 a0 c) (gI C 50 a0 c) (gI C 23 p i) (if zand (gI C 24 p i) 2 = 0 then (0 : Int) else 1) = 0 → wp_X8_tried_55 po n (p : Int) (s : Int) ((i + 1 : Nat) : Int) M') → (oneN (gI C 49 a0 c) (gI C 50 a0 c) (gI C 23 p i) (if zand (gI C 24 p i) 2 = 0 then (0 : Int) else 1) = 1 → po 2 (uI M' 110 14 p (i : Int))) → (oneN (gI C 49 a0 c) (gI C 50 a0 c) (gI C 23 p i) (if zand (gI C 24 p i) 2 = 0 then (0 : Int) else 1) = -15 → po 3 M') → wp_X8_tried_55 po (n + 1) (p : Int) (s : Int) (i : Int) M := by
      intro M hM hrl
      obtain ⟨s1, s2, s3⟩ := hM.2 i hiq
      obtain ⟨t1, t2⟩ := hrl c hcc
      obtain ⟨M', y1, y2, y3⟩ := one_M (M := M) (p := p) (s := s) (i := i) (q := q) (c := c) (ch := gI C 23 p i) (w := gI C 24 p i) (v := gI C 49 a0 c) (u := gI C 50 a0 c) hp hiq hq8 hM.1 (by rw [← s1]; exact ec) (by omega) s2.symm s3.symm hch t1.symm t2.symm hv hu
      refine ⟨M', y1, fun z => ⟨fun b hb => ?_, fun b hb => ?_⟩, y3⟩
      · obtain ⟨a1, a2⟩ := u1 z
        obtain ⟨b1, b2⟩ := y2 z
        rw [a1, a2, b1, b2, (hrl b hb).1, (hrl b hb).2]
        exact ⟨rfl, rfl⟩
      · obtain ⟨b1, b2⟩ := y2 z
        rw [b1, if_neg (by omega)]
    rcases h3 with w | w | w
    · have hrg1 : rgC C1 a0 cnt := by
        intro b hb
        obtain ⟨a1, a2⟩ := u1 w
        have := oneN_0 w
        rw [a1, a2]
        refine ⟨?_, ?_⟩
        · by_cases e : b = c
          · rw [if_pos e]; exact ⟨this.1, this.2.1⟩
          · rw [if_neg e]; exact (hrg b hb).1
        · by_cases e : b = c ∧ (if zand (gI C 24 p i) 2 = 0 then (0 : Int) else 1) ≠ 0
          · rw [if_pos e]; exact this.2.2 e.2
          · rw [if_neg e]; exact (hrg b hb).2
      obtain ⟨o, j, C2, g1, g2, g3, g4, g5, g6⟩ := ih (i + 1) C1 (by omega) (hs.xi x1 (by unfold LA; omega)) (by rw [x1.2.1 45 a0 0 (by unfold LA; omega)]; exact h45) hrg1
      refine ⟨o, j, C2, g1, x1.tr g2, g3, g4, fun po k0 k1 k2 => cstep 0 po w (fun _ => g5 po k0 k1 k2) (fun z => absurd z (by decide)) (fun z => absurd z (by decide)), fun M hM hrl => ?_⟩
      obtain ⟨M1, y1, y2, y3⟩ := mstep M hM hrl
      obtain ⟨y4, y5⟩ := y2 w
      obtain ⟨M2, z1, z2, z3⟩ := g6 M1 (hM.xi x1 (by unfold LA; omega) y1 (by unfold LB; omega)) y4
      exact ⟨M2, y1.tr z1, fun z => ⟨(z2 z).1, fun b hb => ((z2 z).2 b hb).trans (y5 b hb)⟩, fun po k0 k1 k2 => y3 po (m + 1) (fun _ => z3 po k0 k1 k2) (fun z => absurd z (by rw [w]; decide)) (fun z => absurd z (by rw [w]; decide))⟩
    · refine ⟨1, i, C1, Or.inr (Or.inl rfl), x1, fun z => absurd z (by decide), fun _ => hiq, fun po k0 k1 k2 => cstep 1 po w (fun z => absurd z (by decide)) (fun _ => k1 rfl) (fun z => absurd z (by decide)), fun M hM hrl => ?_⟩
      obtain ⟨M1, y1, y2, y3⟩ := mstep M hM hrl
      exact ⟨M1, y1, fun z => absurd z (by decide), fun po k0 k1 k2 => y3 po (m + 1) (fun z => absurd z (by rw [w]; decide)) (fun _ => k1 rfl) (fun z => absurd z (by rw [w]; decide))⟩
    · refine ⟨-15, 0, C1, Or.inr (Or.inr rfl), x1, fun z => absurd z (by decide), fun z => absurd z (by decide), fun po k0 k1 k2 => cstep (-15) po w (fun z => absurd z (by decide)) (fun z => absurd z (by decide)) (fun _ => k2 rfl), fun M hM hrl => ?_⟩
      obtain ⟨M1, y1, y2, y3⟩ := mstep M hM hrl
      exact ⟨M1, y1, fun z => absurd z (by decide), fun po k0 k1 k2 => y3 po (m + 1) (fun z => absurd z (by rw [w]; decide)) (fun z => absurd z (by rw [w]; decide)) (fun _ => k2 rfl)⟩
