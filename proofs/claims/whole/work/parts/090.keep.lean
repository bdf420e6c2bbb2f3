/-! LAYER 2: what was tried is kept, both -/
def L7 (a0 p cnt : Nat) : Nat → Nat → Nat → Prop := fun f a b => ((f = 51 ∨ f = 46) ∧ a = a0) ∨ (f = 48 ∧ a = a0 ∧ 8 * p ≤ b ∧ b < 8 * p + cnt)
def L47 (a0 : Nat) : Nat → Nat → Nat → Prop := fun f a _ => f = 47 ∧ a = a0
theorem keep7_loop {C : St} {a0 p cnt : Nat} (h12 : 12 ≤ a0) (h45 : gI C 45 a0 0 = cnt) (hc8 : cnt ≤ 8) (hp : p < 16) : ∀ (m i : Nat) (σ : St), i + m = cnt → XI (L7 a0 p cnt) C σ → (∀ c, c < i → gI σ 46 a0 c = gI C 49 a0 c ∧ gI σ 48 a0 (8 * p + c) = gI C 50 a0 c) → (∀ c, i ≤ c → gI σ 46 a0 c = gI C 46 a0 c) → (gI σ 51 a0 0 = 0 ∨ gI σ 51 a0 0 = 1) → (gI σ 51 a0 0 = 1 ↔ ∃ c, c < i ∧ gI C 46 a0 c ≠ gI C 49 a0 c) →
    ∃ C2, XI (L7 a0 p cnt) C C2 ∧ (∀ c, c < cnt → gI C2 46 a0 c = gI C 49 a0 c ∧ gI C2 48 a0 (8 * p + c) = gI C 50 a0 c) ∧ (gI C2 51 a0 0 = 0 ∨ gI C2 51 a0 0 = 1) ∧ (gI C2 51 a0 0 = 1 ↔ ∃ c, c < cnt ∧ gI C 46 a0 c ≠ gI C 49 a0 c) ∧ ∀ po : St → Prop, (∃ n9, wp_X0_keep_84 po n9 a0 (some p) (p : Int) 0 C2) → wp_X0_keep_7 po (m + 1) a0 (some p) (p : Int) (i : Int) σ := by
  intro m
  induction m with
  | zero =>
    intro i σ hi hx h1 h2 h3 h4
    have e : i = cnt := by omega
    subst e
    refine ⟨σ, hx, h1, h3, h4, fun po hpo => ?_⟩
    unfold wp_X0_keep_7
    rw [hx.2.1 45 a0 0 (by unfold L7; omega), h45]
    exact ⟨h12, fun _ => hpo, fun z => absurd z (by omega)⟩
  | succ m ih =>
    intro i σ hi hx h1 h2 h3 h4
    have ni : nm (i : Int) = i := nm_nat (n := 9) (by omega) (by omega)
    have nk : nm (cnt : Int) = cnt := nm_nat (n := 9) (by omega) (by omega)
    have f45 : gI σ 45 a0 0 = cnt := by rw [hx.2.1 45 a0 0 (by unfold L7; omega)]; exact h45
    have f49 : gI σ 49 a0 i = gI C 49 a0 i := hx.2.1 49 a0 i (by unfold L7; omega)
    have f50 : gI σ 50 a0 i = gI C 50 a0 i := hx.2.1 50 a0 i (by unfold L7; omega)
    have f46 : gI σ 46 a0 i = gI C 46 a0 i := h2 i (Nat.le_refl _)
    have key : ∀ y : Int, (y = 0 ∨ y = 1) → (y = 1 ↔ gI σ 51 a0 0 = 1 ∨ gI C 46 a0 i ≠ gI C 49 a0 i) → ∃ C2, XI (L7 a0 p cnt) C C2 ∧ (∀ c, c < cnt → gI C2 46 a0 c = gI C 49 a0 c ∧ gI C2 48 a0 (8 * p + c) = gI C 50 a0 c) ∧ (gI C2 51 a0 0 = 0 ∨ gI C2 51 a0 0 = 1) ∧ (gI C2 51 a0 0 = 1 ↔ ∃ c, c < cnt ∧ gI C 46 a0 c ≠ gI C 49 a0 c) ∧ ∀ po : St → Prop, (∃ n9, wp_X0_keep_84 po n9 a0 (some p) (p : Int) 0 C2) → wp_X0_keep_49 po (fun a0 o1 x2 x3 s9 => wp_X0_keep_7 po (m + 1) a0 o1 x2 x3 s9) a0 (some p) (p : Int) (i : Int) y (some a0) σ := by
      intro y hy hyi
      have ny : nm y = y := by rcases hy with rfl | rfl <;> decide
      have e51 : ∀ v w : Int, gI (uI (uI (uI σ 51 a0 0 y) 46 a0 i v) 48 a0 (8 * p + i) w) 51 a0 0 = y := fun v w => by rw [gI_uI, if_neg (by omega), gI_uI, if_neg (by omega), gI_uI, if_pos ⟨rfl, rfl, rfl⟩, ny]
      obtain ⟨C2, g1, g2, g3, g4, g5⟩ := ih (i + 1) (uI (uI (uI σ 51 a0 0 y) 46 a0 i (gI C 49 a0 i)) 48 a0 (8 * p + i) (gI C 50 a0 i)) (by omega) (((hx.uI _ (by unfold L7; omega)).uI _ (by unfold L7; omega)).uI _ (by unfold L7; omega)) (fun c hc => by
        by_cases z : c = i
        · subst z
          refine ⟨?_, ?_⟩
          · rw [gI_uI, if_neg (by omega), gI_uI, if_pos ⟨rfl, rfl, rfl⟩, nm_gI]
          · rw [gI_uI, if_pos ⟨rfl, rfl, rfl⟩, nm_gI]
        · obtain ⟨q1, q2⟩ := h1 c (by omega)
          refine ⟨?_, ?_⟩
          · rw [gI_uI, if_neg (by omega), gI_uI, if_neg (by omega), gI_uI, if_neg (by omega)]; exact q1
          · rw [gI_uI, if_neg (by omega), gI_uI, if_neg (by omega), gI_uI, if_neg (by omega)]; exact q2) (fun c hc => by
        rw [gI_uI, if_neg (by omega), gI_uI, if_neg (by omega), gI_uI, if_neg (by omega)]; exact h2 c (by omega)) (by rw [e51]; exact hy) (by
        rw [e51, hyi, h4]
        constructor
        · rintro (⟨c, q1, q2⟩ | q)
          · exact ⟨c, by omega, q2⟩
          · exact ⟨i, by omega, q⟩
        · rintro ⟨c, q1, q2⟩
          by_cases z : c = i
          · subst z; exact Or.inr q2
          · exact Or.inl ⟨c, by omega, q2⟩)
      refine ⟨C2, g1, g2, g3, g4, fun po hpo => ?_⟩
      unfold wp_X0_keep_49
      rw [ni, Int.toNat_natCast]
      refine ⟨a0, rfl, h12, hy, ?_⟩
      rintro _ rfl
      rw [gI_uI, if_neg (by omega), f49]
      refine ⟨h12, by omega, by omega, ?_⟩
      rintro _ rfl
      rw [gI_uI, if_neg (by omega), gI_uI, if_neg (by omega), f50, show ((i : Int) + 1) = ((i + 1 : Nat) : Int) by omega]
      exact ⟨by omega, sp_putUndo h12 hp (by omega) (g5 po hpo)⟩
    have top : ∀ y : Int, (y = 0 ∨ y = 1) → (y = 1 ↔ gI σ 51 a0 0 = 1 ∨ gI C 46 a0 i ≠ gI C 49 a0 i) → ∀ po : St → Prop, wp_X0_keep_49 po (fun a0 o1 x2 x3 s9 => wp_X0_keep_7 po (m + 1) a0 o1 x2 x3 s9) a0 (some p) (p : Int) (i : Int) y (some a0) σ → wp_X0_keep_7 po (m + 1 + 1) a0 (some p) (p : Int) (i : Int) σ := by
      intro y hy hyi po hpo
      rw [wp_X0_keep_7]
      rw [f45, ni, nk, Int.toNat_natCast, nm_gI, nm_gI, nm_gI, f46, f49, show nm 8 = 8 by decide]
      refine ⟨h12, fun z => absurd z (by omega), fun _ => ⟨fun z => absurd z (by omega), fun _ => ⟨fun z => ?_, fun z => ⟨by omega, by omega, fun w => ?_, fun w => ?_⟩⟩⟩⟩
      · have : y = 1 := hyi.mpr (Or.inl (by omega))
        rw [this] at hpo; exact hpo
      · have : y = 0 := by
          rcases hy with q | q
          · exact q
          · rcases hyi.mp q with r | r
            · omega
            · exact absurd w r
        rw [this] at hpo; exact hpo
      · have : y = 1 := hyi.mpr (Or.inr w)
        rw [this] at hpo; exact hpo
    by_cases hy : gI σ 51 a0 0 = 1 ∨ gI C 46 a0 i ≠ gI C 49 a0 i
    · obtain ⟨C2, g1, g2, g3, g4, g5⟩ := key 1 (Or.inr rfl) ⟨fun _ => hy, fun _ => rfl⟩
      exact ⟨C2, g1, g2, g3, g4, fun po hpo => top 1 (Or.inr rfl) ⟨fun _ => hy, fun _ => rfl⟩ po (g5 po hpo)⟩
    · obtain ⟨C2, g1, g2, g3, g4, g5⟩ := key 0 (Or.inl rfl) ⟨fun z => absurd z (by decide), fun z => absurd z hy⟩
      exact ⟨C2, g1, g2, g3, g4, fun po hpo => top 0 (Or.inl rfl) ⟨fun z => absurd z (by decide), fun z => absurd z hy⟩ po (g5 po hpo)⟩
theorem keep84_loop {C : St} {a0 p q cnt : Nat} (h12 : 12 ≤ a0) (h45 : gI C 45 a0 0 = cnt) (hc8 : cnt ≤ 8) (hp : p < 16) (hs : stC C p q cnt) : ∀ (m i : Nat) (σ : St), i + m = q → XI (L47 a0) C σ → (∀ c : Nat, (∃ j, j < i ∧ gI C 22 p j = c) → gI σ 47 a0 c = p) → (∀ c : Nat, ¬ (∃ j, j < i ∧ gI C 22 p j = c) → gI σ 47 a0 c = gI C 47 a0 c) →
    ∃ C2, XI (L47 a0) C C2 ∧ (∀ c : Nat, (∃ j, j < q ∧ gI C 22 p j = c) → gI C2 47 a0 c = p) ∧ (∀ c : Nat, ¬ (∃ j, j < q ∧ gI C 22 p j = c) → gI C2 47 a0 c = gI C 47 a0 c) ∧ ∀ po : St → Prop, po C2 → wp_X0_keep_84 po (m + 1) a0 (some p) (p : Int) (i : Int) σ := by
  intro m
  induction m with
  | zero =>
    intro i σ hi hx h1 h2
    have e : i = q := by omega
    subst e
    refine ⟨σ, hx, h1, h2, fun po hpo => ?_⟩
    unfold wp_X0_keep_84
    refine ⟨p, rfl, ?_⟩
    rw [hx.2.1 26 p 0 (by unfold L47; omega), hs.1]
    exact ⟨fun _ => hpo, fun z => absurd z (by omega)⟩
  | succ m ih =>
    intro i σ hi hx h1 h2
    have hq8 := hs.2.1
    have ni : nm (i : Int) = i := nm_nat (n := 9) (by omega) (by omega)
    have nq : nm (q : Int) = q := nm_nat (n := 9) (by omega) (by omega)
    have f45 : gI σ 45 a0 0 = cnt := by rw [hx.2.1 45 a0 0 (by unfold L47; omega)]; exact h45
    obtain ⟨⟨c, ec, hcc⟩, -, -⟩ := hs.2.2 i (by omega)
    have nc : nm (c : Int) = c := nm_nat (n := 8) (by omega) (by omega)
    have np : nm (p : Int) = p := nm_nat (n := 16) hp (by omega)
    have f22 : gI σ 22 p i = c := by rw [hx.2.1 22 p i (by unfold L47; omega)]; exact ec
    obtain ⟨C2, g1, g2, g3, g4⟩ := ih (i + 1) (uI σ 47 a0 c (p : Int)) (by omega) (hx.uI _ ⟨rfl, rfl⟩) (fun b ⟨j, hj, ej⟩ => by
      rw [gI_uI]
      by_cases z : b = c
      · rw [if_pos ⟨rfl, rfl, z⟩, np]
      · rw [if_neg (by omega)]
        refine h1 b ⟨j, ?_, ej⟩
        rcases Nat.lt_or_ge j i with y | y
        · exact y
        · have : j = i := by omega
          subst this; omega) (fun b hb => by
      have : b ≠ c := fun z => hb ⟨i, by omega, by rw [z]; exact ec⟩
      rw [gI_uI, if_neg (by omega)]
      exact h2 b (fun ⟨j, hj, ej⟩ => hb ⟨j, by omega, ej⟩))
    refine ⟨C2, g1, g2, g3, fun po hpo => ?_⟩
    rw [wp_X0_keep_84]
    refine ⟨p, rfl, ?_⟩
    rw [hx.2.1 26 p 0 (by unfold L47; omega), hs.1, ni, nq, Int.toNat_natCast, f22, show nm 8 = 8 by decide, show ((i : Int) + 1) = ((i + 1 : Nat) : Int) by omega]
    refine ⟨fun z => absurd z (by omega), fun _ => ⟨fun z => absurd z (by omega), fun _ => ⟨by omega, h12, sp_hasCounter h12 nc (by rw [f45]; omega) (fun z => ⟨fun y => absurd y (by decide), fun _ => ?_⟩) (fun z => absurd ⟨by omega, by rw [f45]; omega⟩ z)⟩⟩⟩
    rw [nc, Int.toNat_natCast]
    refine ⟨by omega, ?_⟩
    rintro _ rfl
    exact g4 po hpo
def LK (a0 p cnt : Nat) : Nat → Nat → Nat → Prop := fun f a b => ((f = 51 ∨ f = 46 ∨ f = 47) ∧ a = a0) ∨ (f = 48 ∧ a = a0 ∧ 8 * p ≤ b ∧ b < 8 * p + cnt)
/-- the class keeps -/
theorem keep_C {C : St} {a0 p q cnt : Nat} (h12 : 12 ≤ a0) (h45 : gI C 45 a0 0 = cnt) (hc8 : cnt ≤ 8) (hp : p < 16) (hs : stC C p q cnt) :
    ∃ C2, XI (LK a0 p cnt) C C2 ∧ (∀ c, c < cnt → gI C2 46 a0 c = gI C 49 a0 c ∧ gI C2 48 a0 (8 * p + c) = gI C 50 a0 c) ∧ (gI C2 51 a0 0 = 0 ∨ gI C2 51 a0 0 = 1) ∧ (gI C2 51 a0 0 = 1 ↔ ∃ c, c < cnt ∧ gI C 46 a0 c ≠ gI C 49 a0 c) ∧ (∀ c : Nat, (∃ j, j < q ∧ gI C 22 p j = c) → gI C2 47 a0 c = p) ∧ (∀ c : Nat, ¬ (∃ j, j < q ∧ gI C 22 p j = c) → gI C2 47 a0 c = gI C 47 a0 c) ∧ ∀ po : St → Prop, po C2 → wp_X0_keep a0 (some p) (p : Int) C po := by
  have z51 : gI (uI C 51 a0 0 0) 51 a0 0 = 0 := by rw [gI_uI, if_pos ⟨rfl, rfl, rfl⟩, n0]
  have e : ∀ f b, f ≠ 51 → gI (uI C 51 a0 0 0) f a0 b = gI C f a0 b := fun f b hf => by rw [gI_uI, if_neg (by omega)]
  obtain ⟨C1, g1, g2, g3, g4, g5⟩ := keep7_loop (C := C) h12 h45 hc8 hp cnt 0 (uI C 51 a0 0 0) (by omega) (XI.rf.uI _ (by unfold L7; omega)) (fun c hc => absurd hc (by omega)) (fun c _ => e 46 c (by decide)) (Or.inl z51) (by rw [z51]; exact ⟨fun z => absurd z (by decide), fun ⟨c, hc, _⟩ => absurd hc (by omega)⟩)
  have hs1 : stC C1 p q cnt := hs.xi g1 (by unfold L7; omega)
  have f45 : gI C1 45 a0 0 = cnt := by rw [g1.2.1 45 a0 0 (by unfold L7; omega)]; exact h45
  obtain ⟨C2, k1, k2, k3, k4⟩ := keep84_loop h12 f45 hc8 hp hs1 q 0 C1 (by omega) XI.rf (fun c ⟨j, hj, _⟩ => absurd hj (by omega)) (fun c _ => rfl)
  have e22 : ∀ j, gI C1 22 p j = gI C 22 p j := fun j => g1.2.1 22 p j (by unfold L7; omega)
  simp only [e22] at k2 k3
  refine ⟨C2, (g1.mono (by unfold L7 LK; omega)).tr (k1.mono (by unfold L47 LK; omega)), fun c hc => ?_, ?_, ?_, k2, fun c hc => ?_, fun po hpo => ⟨h12, ?_⟩⟩
  · rw [k1.2.1 46 a0 c (by unfold L47; omega), k1.2.1 48 a0 _ (by unfold L47; omega)]; exact g2 c hc
  · rw [k1.2.1 51 a0 0 (by unfold L47; omega)]; exact g3
  · rw [k1.2.1 51 a0 0 (by unfold L47; omega)]; exact g4
  · rw [k3 c hc, g1.2.1 47 a0 c (by unfold L7; omega)]
  · rintro _ rfl
    exact ⟨cnt + 1, g5 po ⟨q + 1, k4 po hpo⟩⟩
def LM4 (p s : Nat) : Nat → Nat → Nat → Prop := fun f a b => f = 110 ∧ ((a = 39 ∧ 8 * s ≤ b ∧ b < 8 * s + 8) ∨ (a = 41 ∧ 96 * p + 8 * s ≤ b ∧ b < 96 * p + 8 * s + 8))
def L40 (s : Nat) : Nat → Nat → Nat → Prop := fun f a b => f = 110 ∧ a = 40 ∧ 8 * s ≤ b ∧ b < 8 * s + 8
theorem keep241 {M : St} {s p : Nat} (hs : s < 12) (hp : p < 16) : ∀ (m i : Nat) (σ : St) (x : Int), i + m = 8 → XI (LM4 p s) M σ → (∀ c, c < i → gI σ 110 39 (8 * s + c) = gI M 110 42 c ∧ gI σ 110 41 (96 * p + (8 * s + c)) = gI M 110 43 c) → (∀ c, i ≤ c → c < 8 → gI σ 110 39 (8 * s + c) = gI M 110 39 (8 * s + c)) → (x = 0 ∨ x = 1) → (x = 1 ↔ ∃ c, c < i ∧ gI M 110 42 c ≠ gI M 110 39 (8 * s + c)) →
    ∃ (M2 : St) (r : Int), XI (LM4 p s) M M2 ∧ (∀ c, c < 8 → gI M2 110 39 (8 * s + c) = gI M 110 42 c ∧ gI M2 110 41 (96 * p + (8 * s + c)) = gI M 110 43 c) ∧ (r = 0 ∨ r = 1) ∧ (r = 1 ↔ ∃ c, c < 8 ∧ gI M 110 42 c ≠ gI M 110 39 (8 * s + c)) ∧ ∀ po : Int → St → Prop, (∃ n9, wp_X8_tried_332 po n9 (p : Int) (s : Int) r 0 M2) → wp_X8_tried_241 po (m + 1) (p : Int) (s : Int) x (i : Int) σ := by
  intro m
  induction m with
  | zero =>
    intro i σ x hi hx h1 h2 h3 h4
    have e : i = 8 := by omega
    subst e
    refine ⟨σ, x, hx, h1, h3, h4, fun po hpo => ?_⟩
    unfold wp_X8_tried_241
    exact ⟨fun _ => hpo, fun z => absurd z (by decide)⟩
  | succ m ih =>
    intro i σ x hi hx h1 h2 h3 h4
    have ni : nm (i : Int) = i := nm_nat (n := 9) (by omega) (by omega)
    have nx : nm x = x := by rcases h3 with rfl | rfl <;> decide
    have ea : nm (8 * (s : Int) + i) = ((8 * s + i : Nat) : Int) := by rw [nm_id (by omega)]; omega
    have eb : nm (96 * (p : Int) + 8 * (s : Int) + i) = ((96 * p + (8 * s + i) : Nat) : Int) := by rw [nm_id (by omega)]; omega
    have f42 : gI σ 110 42 i = gI M 110 42 i := hx.2.1 110 42 i (by unfold LM4; omega)
    have f43 : gI σ 110 43 i = gI M 110 43 i := hx.2.1 110 43 i (by unfold LM4; omega)
    have f39 := h2 i (Nat.le_refl _) (by omega)
    have key : ∀ y : Int, (y = 0 ∨ y = 1) → (y = 1 ↔ x = 1 ∨ gI M 110 42 i ≠ gI M 110 39 (8 * s + i)) → ∃ (M2 : St) (r : Int), XI (LM4 p s) M M2 ∧ (∀ c, c < 8 → gI M2 110 39 (8 * s + c) = gI M 110 42 c ∧ gI M2 110 41 (96 * p + (8 * s + c)) = gI M 110 43 c) ∧ (r = 0 ∨ r = 1) ∧ (r = 1 ↔ ∃ c, c < 8 ∧ gI M 110 42 c ≠ gI M 110 39 (8 * s + c)) ∧ ∀ po : Int → St → Prop, (∃ n9, wp_X8_tried_332 po n9 (p : Int) (s : Int) r 0 M2) → wp_X8_tried_279 po (fun x1 x2 x3 x4 s9 => wp_X8_tried_241 po (m + 1) x1 x2 x3 x4 s9) (p : Int) (s : Int) (i : Int) y σ := by
      intro y hy hyi
      obtain ⟨M2, r, g1, g2, g3, g4, g5⟩ := ih (i + 1) (uI (uI σ 110 39 (8 * s + i) (gI M 110 42 i)) 110 41 (96 * p + (8 * s + i)) (gI M 110 43 i)) y (by omega) ((hx.uI _ (by unfold LM4; omega)).uI _ (by unfold LM4; omega)) (fun c hc => by
        by_cases z : c = i
        · subst z
          exact ⟨by rw [gI_uI, if_neg (by omega), gI_uI, if_pos ⟨rfl, rfl, rfl⟩, nm_gI], by rw [gI_uI, if_pos ⟨rfl, rfl, rfl⟩, nm_gI]⟩
        · obtain ⟨q1, q2⟩ := h1 c (by omega)
          exact ⟨by rw [gI_uI, if_neg (by omega), gI_uI, if_neg (by omega)]; exact q1, by rw [gI_uI, if_neg (by omega), gI_uI, if_neg (by omega)]; exact q2⟩) (fun c hc hc2 => by
        rw [gI_uI, if_neg (by omega), gI_uI, if_neg (by omega)]; exact h2 c (by omega) hc2) hy (by
        rw [hyi, h4]
        constructor
        · rintro (⟨c, q1, q2⟩ | q)
          · exact ⟨c, by omega, q2⟩
          · exact ⟨i, by omega, q⟩
        · rintro ⟨c, q1, q2⟩
          by_cases z : c = i
          · subst z; exact Or.inr q2
          · exact Or.inl ⟨c, by omega, q2⟩)
      refine ⟨M2, r, g1, g2, g3, g4, fun po hpo => ?_⟩
      unfold wp_X8_tried_279
      rw [ni, ea, eb, Int.toNat_natCast, Int.toNat_natCast, Int.toNat_natCast, f42]
      refine ⟨by omega, by omega, ?_⟩
      rintro _ rfl
      rw [gI_uI, if_neg (by omega), f43, show ((i : Int) + 1) = ((i + 1 : Nat) : Int) by omega]
      refine ⟨by omega, by omega, ?_⟩
      rintro _ rfl
      exact g5 po hpo
    have top : ∀ y : Int, (y = 0 ∨ y = 1) → (y = 1 ↔ x = 1 ∨ gI M 110 42 i ≠ gI M 110 39 (8 * s + i)) → ∀ po : Int → St → Prop, wp_X8_tried_279 po (fun x1 x2 x3 x4 s9 => wp_X8_tried_241 po (m + 1) x1 x2 x3 x4 s9) (p : Int) (s : Int) (i : Int) y σ → wp_X8_tried_241 po (m + 1 + 1) (p : Int) (s : Int) x (i : Int) σ := by
      intro y hy hyi po hpo
      rw [wp_X8_tried_241]
      rw [ni, nx, ea, Int.toNat_natCast, Int.toNat_natCast, nm_gI, nm_gI, f42, f39, show nm 8 = 8 by decide]
      refine ⟨fun z => absurd z (by omega), fun _ => ⟨fun z => ?_, fun z => ⟨by omega, by omega, fun w => ?_, fun w => ?_⟩⟩⟩
      · have : y = 1 := hyi.mpr (Or.inl (by omega))
        rw [this] at hpo; exact hpo
      · have : y = 0 := by
          rcases hy with q | q
          · exact q
          · rcases hyi.mp q with r | r
            · omega
            · exact absurd w r
        rw [this] at hpo; exact hpo
      · have : y = 1 := hyi.mpr (Or.inr w)
        rw [this] at hpo; exact hpo
    by_cases hy : x = 1 ∨ gI M 110 42 i ≠ gI M 110 39 (8 * s + i)
    · obtain ⟨M2, r, g1, g2, g3, g4, g5⟩ := key 1 (Or.inr rfl) ⟨fun _ => hy, fun _ => rfl⟩
      exact ⟨M2, r, g1, g2, g3, g4, fun po hpo => top 1 (Or.inr rfl) ⟨fun _ => hy, fun _ => rfl⟩ po (g5 po hpo)⟩
    · obtain ⟨M2, r, g1, g2, g3, g4, g5⟩ := key 0 (Or.inl rfl) ⟨fun z => absurd z (by decide), fun z => absurd z hy⟩
      exact ⟨M2, r, g1, g2, g3, g4, fun po hpo => top 0 (Or.inl rfl) ⟨fun z => absurd z (by decide), fun z => absurd z hy⟩ po (g5 po hpo)⟩
theorem keep332 {M : St} {s p q : Nat} {r : Int} (hs : s < 12) (hp : p < 16) (hq8 : q ≤ 8) (h20 : gI M 110 20 p = q) (h21 : ∀ i : Nat, i < q → ∃ c : Nat, gI M 110 21 (8 * p + i) = c ∧ c < 8) (hr : r = 0 ∨ r = 1) : ∀ (m i : Nat) (σ : St), i + m = q → XI (L40 s) M σ → (∀ c : Nat, c < 8 → (∃ j, j < i ∧ gI M 110 21 (8 * p + j) = c) → gI σ 110 40 (8 * s + c) = p) → (∀ c : Nat, c < 8 → ¬ (∃ j, j < i ∧ gI M 110 21 (8 * p + j) = c) → gI σ 110 40 (8 * s + c) = gI M 110 40 (8 * s + c)) →
    ∃ M2, XI (L40 s) M M2 ∧ (∀ c : Nat, c < 8 → (∃ j, j < q ∧ gI M 110 21 (8 * p + j) = c) → gI M2 110 40 (8 * s + c) = p) ∧ (∀ c : Nat, c < 8 → ¬ (∃ j, j < q ∧ gI M 110 21 (8 * p + j) = c) → gI M2 110 40 (8 * s + c) = gI M 110 40 (8 * s + c)) ∧ ∀ po : Int → St → Prop, po r M2 → wp_X8_tried_332 po (m + 1) (p : Int) (s : Int) r (i : Int) σ := by
  have np : nm (p : Int) = p := nm_nat (n := 16) hp (by omega)
  have i16 : (0 : Int) ≤ p ∧ (p : Int) < 16 := by omega
  intro m
  induction m with
  | zero =>
    intro i σ hi hx h1 h2
    have e : i = q := by omega
    subst e
    refine ⟨σ, hx, h1, h2, fun po hpo => ?_⟩
    unfold wp_X8_tried_332
    rw [np, Int.toNat_natCast, hx.2.1 110 20 p (by unfold L40; omega), h20]
    refine ⟨i16, fun _ => ⟨fun z => ?_, fun z => ?_⟩, fun z => absurd z (by omega)⟩
    · rcases hr with rfl | rfl
      · exact hpo
      · exact absurd z (by decide)
    · rcases hr with rfl | rfl
      · exact absurd n0 z
      · exact hpo
  | succ m ih =>
    intro i σ hi hx h1 h2
    have ni : nm (i : Int) = i := nm_nat (n := 9) (by omega) (by omega)
    have nq : nm (q : Int) = q := nm_nat (n := 9) (by omega) (by omega)
    obtain ⟨c, ec, hc⟩ := h21 i (by omega)
    have ek : nm (8 * (p : Int) + i) = ((8 * p + i : Nat) : Int) := by rw [nm_id (by omega)]; omega
    have el : nm (8 * (s : Int) + c) = ((8 * s + c : Nat) : Int) := by rw [nm_id (by omega)]; omega
    obtain ⟨M2, g1, g2, g3, g4⟩ := ih (i + 1) (uI σ 110 40 (8 * s + c) (p : Int)) (by omega) (hx.uI _ (by unfold L40; omega)) (fun b hb ⟨j, hj, ej⟩ => by
      rw [gI_uI]
      by_cases z : b = c
      · rw [if_pos ⟨rfl, rfl, by omega⟩, np]
      · rw [if_neg (by omega)]
        refine h1 b hb ⟨j, ?_, ej⟩
        rcases Nat.lt_or_ge j i with y | y
        · exact y
        · have : j = i := by omega
          subst this; omega) (fun b hb hn => by
      have : b ≠ c := fun z => hn ⟨i, by omega, by rw [z]; exact ec⟩
      rw [gI_uI, if_neg (by omega)]
      exact h2 b hb (fun ⟨j, hj, ej⟩ => hn ⟨j, by omega, ej⟩))
    refine ⟨M2, g1, g2, g3, fun po hpo => ?_⟩
    rw [wp_X8_tried_332]
    rw [np, Int.toNat_natCast, hx.2.1 110 20 p (by unfold L40; omega), h20, ni, nq, ek, Int.toNat_natCast, hx.2.1 110 21 (8 * p + i) (by unfold L40; omega), ec, el, Int.toNat_natCast, show ((i : Int) + 1) = ((i + 1 : Nat) : Int) by omega]
    refine ⟨i16, fun z => absurd z (by omega), fun _ => ⟨by omega, by omega, ?_⟩⟩
    rintro _ rfl
    exact g4 po hpo
