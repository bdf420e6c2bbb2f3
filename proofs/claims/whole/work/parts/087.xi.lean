/-! LAYER 2: what is written, told by a predicate; leaf methods of counters -/
def XI (L : Nat → Nat → Nat → Prop) (σ τ : St) : Prop := τ.2.1 = σ.2.1 ∧ (∀ f a b, ¬ L f a b → gI τ f a b = gI σ f a b) ∧ (∀ f a b, gL τ f a b = gL σ f a b) ∧ ∀ f a b, gR τ f a b = gR σ f a b
theorem XI.rf {L : Nat → Nat → Nat → Prop} {σ : St} : XI L σ σ := ⟨rfl, fun _ _ _ _ => rfl, fun _ _ _ => rfl, fun _ _ _ => rfl⟩
theorem XI.tr {L : Nat → Nat → Nat → Prop} {a b c : St} (h : XI L a b) (g : XI L b c) : XI L a c := ⟨g.1.trans h.1, fun f x y hf => (g.2.1 f x y hf).trans (h.2.1 f x y hf), fun f x y => (g.2.2.1 f x y).trans (h.2.2.1 f x y), fun f x y => (g.2.2.2 f x y).trans (h.2.2.2 f x y)⟩
theorem XI.uI {L : Nat → Nat → Nat → Prop} {σ τ : St} (h : XI L σ τ) {f a b : Nat} (v : Int) (hf : L f a b) : XI L σ (uI τ f a b v) := by
  refine ⟨h.1, fun f' a' b' h' => ?_, h.2.2.1, h.2.2.2⟩
  rw [gI_uI, if_neg (by rintro ⟨rfl, rfl, rfl⟩; exact h' hf)]; exact h.2.1 f' a' b' h'
theorem XI.mono {L L' : Nat → Nat → Nat → Prop} {σ τ : St} (h : XI L σ τ) (hl : ∀ f a b, L f a b → L' f a b) : XI L' σ τ := ⟨h.1, fun f a b hf => h.2.1 f a b (fun z => hf (hl f a b z)), h.2.2.1, h.2.2.2⟩
theorem XI.meq {L : Nat → Nat → Nat → Prop} {σ τ : St} (h : XI L σ τ) (hl : ∀ f a b, L f a b → f < 100) : MEq σ τ := ⟨fun f a b hf => h.2.1 f a b (fun z => by have := hl f a b z; omega), fun f a b _ => h.2.2.1 f a b⟩
theorem XI.ceq {L : Nat → Nat → Nat → Prop} {σ τ : St} (h : XI L σ τ) (hl : ∀ f a b, L f a b → 100 ≤ f) : CEq σ τ := ⟨h.1, fun f a b hf => h.2.1 f a b (fun z => by have := hl f a b z; omega), fun f a b _ => h.2.2.1 f a b, h.2.2.2⟩
theorem XI.agC {L : Nat → Nat → Nat → Prop} {LI LL LR : List Nat} {σ τ : St} (h : XI L σ τ) (hl : ∀ f a b, L f a b → f ∉ LI) : AgC LI LL LR σ τ := ⟨h.1, fun f hf a b => h.2.1 f a b (fun z => hl f a b z hf), fun f _ a b => h.2.2.1 f a b, fun f _ a b => h.2.2.2 f a b⟩
theorem XI.agM {L : Nat → Nat → Nat → Prop} {LI LL : List Nat} {σ τ : St} (h : XI L σ τ) (hl : ∀ f a b, L f a b → f = 110 ∧ a ∉ LI) : AgM LI LL σ τ := ⟨fun f hf b => h.2.1 110 f b (fun z => (hl 110 f b z).2 hf), fun f _ b => h.2.2.1 110 f b, h.2.1 100 0 0 (fun z => by have := (hl 100 0 0 z).1; omega), h.2.1 101 0 0 (fun z => by have := (hl 101 0 0 z).1; omega)⟩
theorem sp_undoOf {C : St} {a0 p c : Nat} {po : Int → St → Prop} (h12 : 12 ≤ a0) (h45 : gI C 45 a0 0 ≤ 8) (hp : p < 16) (hc : c < 8) (h1 : (c : Int) < gI C 45 a0 0 → po (gI C 48 a0 (8 * p + c)) C) (h0 : ¬ ((c : Int) < gI C 45 a0 0) → po 0 C) : wp_X0_undoOf a0 (p : Int) (c : Int) C po := by
  have np : nm (p : Int) = p := nm_nat (n := 16) hp (by omega)
  have nc : nm (c : Int) = c := nm_nat (n := 8) hc (by omega)
  have e1 : nm ((p : Int) * 8 + c) = ((8 * p + c : Nat) : Int) := by rw [nm_id (by omega)]; omega
  unfold wp_X0_undoOf
  refine ⟨h12, sp_hasCounter h12 nc h45 (fun z => ⟨fun y => absurd y (by decide), fun _ => ?_⟩) (fun z => ⟨fun _ => h0 (fun y => z ⟨by omega, y⟩), fun y => absurd n0 y⟩)⟩
  rw [sp_isWithin np (show nm 15 = 15 by decide), e1]
  refine ⟨fun y => absurd (by omega) ((ez_bI _).mp y), fun _ => ⟨by omega, ?_⟩⟩
  rw [Int.toNat_natCast]
  exact h1 z.2
theorem sp_putUndo {C : St} {a0 p c : Nat} {x : Int} {po : St → Prop} (h12 : 12 ≤ a0) (hp : p < 16) (hc : c < 8) (h : po (uI C 48 a0 (8 * p + c) x)) : wp_X0_putUndo a0 (p : Int) (c : Int) x C po := by
  have np : nm (p : Int) = p := nm_nat (n := 16) hp (by omega)
  have nc : nm (c : Int) = c := nm_nat (n := 8) hc (by omega)
  have e1 : nm ((p : Int) * 8 + c) = ((8 * p + c : Nat) : Int) := by rw [nm_id (by omega)]; omega
  unfold wp_X0_putUndo
  rw [np, nc, e1, show nm 8 = 8 by decide, show nm 16 = 16 by decide, Int.toNat_natCast]
  refine ⟨fun z => absurd z (by omega), fun _ => ⟨fun z => absurd z (by omega), fun _ => ⟨fun z => absurd z (by omega), fun _ => ⟨fun z => absurd z (by omega), fun _ => ⟨h12, by omega, ?_⟩⟩⟩⟩⟩
  rintro _ rfl
  exact h
/-- copies are taken, of the class -/
def LA (a0 : Nat) : Nat → Nat → Nat → Prop := fun f a _ => (f = 49 ∨ f = 50) ∧ a = a0
theorem att_copy_loop {C : St} {a0 p cnt : Nat} {o : Option Nat} (h12 : 12 ≤ a0) (h45 : gI C 45 a0 0 = cnt) (hc8 : cnt ≤ 8) (hp : p < 16) : ∀ (m i : Nat) (σ : St), i + m = 8 → XI (LA a0) C σ → (∀ c, c < i → gI σ 49 a0 c = gI C 46 a0 c) → (∀ c, c < i → c < cnt → gI σ 50 a0 c = gI C 48 a0 (8 * p + c)) →
    ∃ C1, XI (LA a0) C C1 ∧ (∀ c, c < 8 → gI C1 49 a0 c = gI C 46 a0 c) ∧ (∀ c, c < cnt → gI C1 50 a0 c = gI C 48 a0 (8 * p + c)) ∧ ∀ po : Int → St → Prop, (∃ n9, wp_X0_attempt_40 po n9 a0 o (p : Int) 0 C1) → wp_X0_attempt_2 po (m + 1) a0 o (p : Int) (i : Int) σ := by
  intro m
  induction m with
  | zero =>
    intro i σ hi hx h1 h2
    have e : i = 8 := by omega
    subst e
    refine ⟨σ, hx, h1, fun c hc => h2 c (by omega) hc, fun po hpo => ?_⟩
    unfold wp_X0_attempt_2
    exact ⟨fun _ => hpo, fun z => absurd z (by decide)⟩
  | succ m ih =>
    intro i σ hi hx h1 h2
    have ni : nm (i : Int) = i := nm_nat (n := 9) (by omega) (by omega)
    have e46 : gI σ 46 a0 i = gI C 46 a0 i := hx.2.1 46 a0 i (by unfold LA; omega)
    have x1 : XI (LA a0) C (uI σ 49 a0 i (gI C 46 a0 i)) := hx.uI _ (by unfold LA; omega)
    have f45 : gI (uI σ 49 a0 i (gI C 46 a0 i)) 45 a0 0 = cnt := by rw [x1.2.1 45 a0 0 (by unfold LA; omega)]; exact h45
    have f48 : gI (uI σ 49 a0 i (gI C 46 a0 i)) 48 a0 (8 * p + i) = gI C 48 a0 (8 * p + i) := x1.2.1 48 a0 _ (by unfold LA; omega)
    have go : ∀ r : Int, (i < cnt → r = gI C 48 a0 (8 * p + i)) → ∃ C1, XI (LA a0) C C1 ∧ (∀ c, c < 8 → gI C1 49 a0 c = gI C 46 a0 c) ∧ (∀ c, c < cnt → gI C1 50 a0 c = gI C 48 a0 (8 * p + c)) ∧ ∀ po : Int → St → Prop, (∃ n9, wp_X0_attempt_40 po n9 a0 o (p : Int) 0 C1) → wp_X0_attempt_2 po (m + 1) a0 o (p : Int) ((i + 1 : Nat) : Int) (uI (uI σ 49 a0 i (gI C 46 a0 i)) 50 a0 i r) := by
      intro r hr
      refine ih (i + 1) _ (by omega) (x1.uI _ (by unfold LA; omega)) (fun c hc => ?_) (fun c hc hcc => ?_)
      · rw [gI_uI, if_neg (by omega), gI_uI]
        by_cases z : c = i
        · rw [if_pos ⟨rfl, rfl, z⟩, nm_gI, z]
        · rw [if_neg (by omega)]; exact h1 c (by omega)
      · rw [gI_uI]
        by_cases z : c = i
        · subst z; rw [if_pos ⟨rfl, rfl, rfl⟩, hr hcc, nm_gI]
        · rw [if_neg (by omega), gI_uI, if_neg (by omega)]; exact h2 c (by omega) hcc
    have key : ∀ C1 : St, ∀ r : Int, (i < cnt → r = gI C 48 a0 (8 * p + i)) → (¬ i < cnt → r = 0) → ∀ po : Int → St → Prop, wp_X0_attempt_2 po (m + 1) a0 o (p : Int) ((i + 1 : Nat) : Int) (uI (uI σ 49 a0 i (gI C 46 a0 i)) 50 a0 i r) → wp_X0_attempt_2 po (m + 1 + 1) a0 o (p : Int) (i : Int) σ := by
      intro C1 r hr1 hr0 po hpo
      rw [wp_X0_attempt_2]
      rw [ni, Int.toNat_natCast, e46, show nm 8 = 8 by decide, show ((i : Int) + 1) = ((i + 1 : Nat) : Int) by omega]
      refine ⟨fun z => absurd z (by omega), fun _ => ⟨h12, by omega, by omega, ?_⟩⟩
      rintro _ rfl
      refine sp_undoOf h12 (by rw [f45]; omega) hp (by omega) (fun z => ⟨by omega, ?_⟩) (fun z => ⟨by omega, ?_⟩)
      · rintro _ rfl
        rw [f45] at z
        rw [f48, ← hr1 (by omega)]; exact hpo
      · rintro _ rfl
        rw [f45] at z
        rw [← hr0 (by omega)]; exact hpo
    by_cases hic : i < cnt
    · obtain ⟨C1, g1, g2, g3, g4⟩ := go (gI C 48 a0 (8 * p + i)) (fun _ => rfl)
      exact ⟨C1, g1, g2, g3, fun po hpo => key C1 _ (fun _ => rfl) (fun z => absurd hic z) po (g4 po hpo)⟩
    · obtain ⟨C1, g1, g2, g3, g4⟩ := go 0 (fun z => absurd z hic)
      exact ⟨C1, g1, g2, g3, fun po hpo => key C1 0 (fun z => absurd z hic) (fun _ => rfl) po (g4 po hpo)⟩
theorem att_copy {C : St} {a0 p cnt : Nat} {o : Option Nat} (h12 : 12 ≤ a0) (h45 : gI C 45 a0 0 = cnt) (hc8 : cnt ≤ 8) (hp : p < 16) :
    ∃ C1, XI (LA a0) C C1 ∧ (∀ c, c < 8 → gI C1 49 a0 c = gI C 46 a0 c) ∧ (∀ c, c < cnt → gI C1 50 a0 c = gI C 48 a0 (8 * p + c)) ∧ ∀ po : Int → St → Prop, (∃ n9, wp_X0_attempt_40 po n9 a0 o (p : Int) 0 C1) → wp_X0_attempt a0 o (p : Int) C po := by
  obtain ⟨C1, g1, g2, g3, g4⟩ := att_copy_loop (o := o) h12 h45 hc8 hp 8 0 C (by omega) XI.rf (fun c hc => absurd hc (by omega)) (fun c hc => absurd hc (by omega))
  exact ⟨C1, g1, g2, g3, fun po hpo => ⟨9, g4 po hpo⟩⟩
/-- copies are taken, of the model -/
def LB : Nat → Nat → Nat → Prop := fun f a _ => f = 110 ∧ (a = 42 ∨ a = 43)
theorem try_copy_loop {M : St} {s p : Nat} (hs : s < 12) (hp : p < 16) : ∀ (m i : Nat) (σ : St), i + m = 8 → XI LB M σ → (∀ c, c < i → gI σ 110 42 c = gI M 110 39 (8 * s + c)) → (∀ c, c < i → gI σ 110 43 c = gI M 110 41 (96 * p + (8 * s + c))) →
    ∃ M1, XI LB M M1 ∧ (∀ c, c < 8 → gI M1 110 42 c = gI M 110 39 (8 * s + c)) ∧ (∀ c, c < 8 → gI M1 110 43 c = gI M 110 41 (96 * p + (8 * s + c))) ∧ ∀ po : Int → St → Prop, (∃ n9, wp_X8_tried_55 po n9 (p : Int) (s : Int) 0 M1) → wp_X8_tried_2 po (m + 1) (p : Int) (s : Int) (i : Int) σ := by
  intro m
  induction m with
  | zero =>
    intro i σ hi hx h1 h2
    have e : i = 8 := by omega
    subst e
    refine ⟨σ, hx, h1, h2, fun po hpo => ?_⟩
    unfold wp_X8_tried_2
    exact ⟨fun _ => hpo, fun z => absurd z (by decide)⟩
  | succ m ih =>
    intro i σ hi hx h1 h2
    have ni : nm (i : Int) = i := nm_nat (n := 9) (by omega) (by omega)
    have ea : nm (8 * (s : Int) + i) = ((8 * s + i : Nat) : Int) := by rw [nm_id (by omega)]; omega
    have eb : nm (96 * (p : Int) + 8 * (s : Int) + i) = ((96 * p + (8 * s + i) : Nat) : Int) := by rw [nm_id (by omega)]; omega
    have e39 : gI σ 110 39 (8 * s + i) = gI M 110 39 (8 * s + i) := hx.2.1 110 39 _ (by unfold LB; omega)
    have x1 : XI LB M (uI σ 110 42 i (gI M 110 39 (8 * s + i))) := hx.uI _ (by unfold LB; omega)
    have e41 : gI (uI σ 110 42 i (gI M 110 39 (8 * s + i))) 110 41 (96 * p + (8 * s + i)) = gI M 110 41 (96 * p + (8 * s + i)) := x1.2.1 110 41 _ (by unfold LB; omega)
    obtain ⟨M1, g1, g2, g3, g4⟩ := ih (i + 1) (uI (uI σ 110 42 i (gI M 110 39 (8 * s + i))) 110 43 i (gI M 110 41 (96 * p + (8 * s + i)))) (by omega) (x1.uI _ (by unfold LB; omega)) (fun c hc => by
      rw [gI_uI, if_neg (by omega), gI_uI]
      by_cases z : c = i
      · rw [if_pos ⟨rfl, rfl, z⟩, nm_gI, z]
      · rw [if_neg (by omega)]; exact h1 c (by omega)) (fun c hc => by
      rw [gI_uI]
      by_cases z : c = i
      · subst z; rw [if_pos ⟨rfl, rfl, rfl⟩, nm_gI]
      · rw [if_neg (by omega), gI_uI, if_neg (by omega)]; exact h2 c (by omega))
    refine ⟨M1, g1, g2, g3, fun po hpo => ?_⟩
    rw [wp_X8_tried_2]
    rw [ni, ea, eb, Int.toNat_natCast, Int.toNat_natCast, Int.toNat_natCast, e39, show nm 8 = 8 by decide, show ((i : Int) + 1) = ((i + 1 : Nat) : Int) by omega]
    refine ⟨fun z => absurd z (by omega), fun _ => ⟨by omega, by omega, ?_⟩⟩
    rintro _ rfl
    rw [e41]
    refine ⟨by omega, by omega, ?_⟩
    rintro _ rfl
    exact g4 po hpo
theorem try_copy {M : St} {s p : Nat} (hs : s < 12) (hp : p < 16) :
    ∃ M1, XI LB M M1 ∧ (∀ c, c < 8 → gI M1 110 42 c = gI M 110 39 (8 * s + c)) ∧ (∀ c, c < 8 → gI M1 110 43 c = gI M 110 41 (96 * p + (8 * s + c))) ∧ ∀ po : Int → St → Prop, (∃ n9, wp_X8_tried_55 po n9 (p : Int) (s : Int) 0 M1) → wp_X8_tried (p : Int) (s : Int) M po := by
  obtain ⟨M1, g1, g2, g3, g4⟩ := try_copy_loop hs hp 8 0 M (by omega) XI.rf (fun c hc => absurd hc (by omega)) (fun c hc => absurd hc (by omega))
  exact ⟨M1, g1, g2, g3, fun po hpo => ⟨9, g4 po hpo⟩⟩
