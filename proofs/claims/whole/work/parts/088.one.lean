/-! LAYER 2: one step is tried, both -/
def oneN (v u ch un : Int) : Int := if v + ch < 0 ∨ (ch = 0 ∧ v ≠ 0) then 1 else if 32767 < v + ch then -15 else if un ≠ 0 ∧ ¬ (-32767 ≤ u - ch ∧ u - ch ≤ 32767) then -15 else 0
theorem oneN_3 (v u ch un : Int) : oneN v u ch un = 0 ∨ oneN v u ch un = 1 ∨ oneN v u ch un = -15 := by
  unfold oneN
  split
  · exact Or.inr (Or.inl rfl)
  · split
    · exact Or.inr (Or.inr rfl)
    · split
      · exact Or.inr (Or.inr rfl)
      · exact Or.inl rfl
theorem oneN_0 {v u ch un : Int} (h : oneN v u ch un = 0) : 0 ≤ v + ch ∧ v + ch ≤ 32767 ∧ (un ≠ 0 → -32767 ≤ u - ch ∧ u - ch ≤ 32767) := by
  unfold oneN at h
  split at h
  · cases h
  · split at h
    · cases h
    · split at h
      · cases h
      · rename_i a b c
        refine ⟨by omega, by omega, fun z => ?_⟩
        rcases Classical.em (-32767 ≤ u - ch ∧ u - ch ≤ 32767) with w | w
        · exact w
        · exact absurd ⟨z, w⟩ c
theorem one_C {C : St} {a0 c : Nat} {ch un v u : Int} (h12 : 12 ≤ a0) (h45 : gI C 45 a0 0 ≤ 8) (hc : (c : Int) < gI C 45 a0 0) (hch : -32767 ≤ ch ∧ ch ≤ 32767) (ev : gI C 49 a0 c = v) (eu : gI C 50 a0 c = u) (hv : 0 ≤ v ∧ v ≤ 32767) (hu : -32767 ≤ u ∧ u ≤ 32767) (hun : un = 0 ∨ un = 1) :
    ∃ C', XI (LA a0) C C' ∧ (oneN v u ch un = 0 → (∀ b, gI C' 49 a0 b = if b = c then v + ch else gI C 49 a0 b) ∧ ∀ b, gI C' 50 a0 b = if b = c ∧ un ≠ 0 then u - ch else gI C 50 a0 b) ∧ ∀ po : Int → St → Prop, po (oneN v u ch un) C' → wp_X0_attemptOne a0 (c : Int) ch un C po := by
  have nc : nm (c : Int) = c := nm_nat (n := 8) (by omega) (by omega)
  have nv : nm (v + ch) = v + ch := nm_id (by omega)
  have nu : nm (u - ch) = u - ch := nm_id (by omega)
  have nch : nm ch = ch := nm_id (by omega)
  have nun : nm un = un := by rcases hun with rfl | rfl <;> decide
  have n1 : nm 32767 = 32767 := by decide
  have n2 : nm (-32767) = -32767 := by decide
  have base : ∀ po : Int → St → Prop, ((v + ch < 0 ∨ (ch = 0 ∧ v ≠ 0)) → po 1 C) → (¬ (v + ch < 0 ∨ (ch = 0 ∧ v ≠ 0)) → wp_X0_attemptOne_37 po a0 (c : Int) ch un (v + ch) C) → wp_X0_attemptOne a0 (c : Int) ch un C po := by
    intro po h1 h2
    unfold wp_X0_attemptOne
    refine ⟨h12, sp_hasCounter h12 nc h45 (fun z => ⟨fun _ => ?_, fun y => absurd y (by decide)⟩) (fun z => absurd ⟨by omega, hc⟩ z)⟩
    rw [nc, Int.toNat_natCast, ev, nv, nch]
    refine ⟨by omega, fun z => h1 (Or.inl z), fun z => ⟨fun y => h2 (by omega), fun y => ⟨fun w => h2 (by omega), fun w => h1 (Or.inr ⟨y, by omega⟩)⟩⟩⟩
  have mid : ∀ po : Int → St → Prop, (32767 < v + ch → po (-15) C) → (v + ch ≤ 32767 → un = 0 → po 0 (uI C 49 a0 c (v + ch))) → (v + ch ≤ 32767 → un ≠ 0 → ¬ (-32767 ≤ u - ch ∧ u - ch ≤ 32767) → po (-15) C) → (v + ch ≤ 32767 → un ≠ 0 → (-32767 ≤ u - ch ∧ u - ch ≤ 32767) → po 0 (uI (uI C 50 a0 c (u - ch)) 49 a0 c (v + ch))) → wp_X0_attemptOne_37 po a0 (c : Int) ch un (v + ch) C := by
    intro po h1 h2 h3 h4
    unfold wp_X0_attemptOne_37
    rw [nv, nun, nc, Int.toNat_natCast, eu, nu, n1, n2]
    refine ⟨fun z => ⟨fun y => ⟨h12, by omega, ?_⟩, fun y => ⟨h12, by omega, fun w => h3 z y (by omega), fun w => ⟨fun x => ⟨by omega, ?_⟩, fun x => h3 z y (by omega)⟩⟩⟩, h1⟩
    · rintro _ rfl; exact h2 z y
    · rintro _ rfl
      refine ⟨by omega, ?_⟩
      rintro _ rfl
      exact h4 z y ⟨w, x⟩
  unfold oneN
  by_cases a : v + ch < 0 ∨ (ch = 0 ∧ v ≠ 0)
  · rw [if_pos a]
    exact ⟨C, XI.rf, fun z => (by cases z), fun po hpo => base po (fun _ => hpo) (fun z => absurd a z)⟩
  · rw [if_neg a]
    by_cases b : 32767 < v + ch
    · rw [if_pos b]
      exact ⟨C, XI.rf, fun z => (by cases z), fun po hpo => base po (fun z => absurd z a) (fun _ => mid po (fun _ => hpo) (fun z => by omega) (fun z => by omega) (fun z => by omega))⟩
    · rw [if_neg b]
      by_cases d : un ≠ 0 ∧ ¬ (-32767 ≤ u - ch ∧ u - ch ≤ 32767)
      · rw [if_pos d]
        exact ⟨C, XI.rf, fun z => (by cases z), fun po hpo => base po (fun z => absurd z a) (fun _ => mid po (fun z => absurd z b) (fun _ z => absurd z d.1) (fun _ _ _ => hpo) (fun _ _ z => absurd z d.2))⟩
      · rw [if_neg d]
        by_cases w : un = 0
        · refine ⟨uI C 49 a0 c (v + ch), XI.rf.uI _ ⟨Or.inl rfl, rfl⟩, fun _ => ⟨fun x => ?_, fun x => ?_⟩, fun po hpo => base po (fun z => absurd z a) (fun _ => mid po (fun z => absurd z b) (fun _ _ => hpo) (fun _ z => absurd w z) (fun _ z => absurd w z))⟩
          · rw [gI_uI]
            by_cases e : x = c
            · rw [if_pos ⟨rfl, rfl, e⟩, if_pos e, nv]
            · rw [if_neg (by omega), if_neg e]
          · rw [gI_uI, if_neg (by omega), if_neg (by omega)]
        · have dd : -32767 ≤ u - ch ∧ u - ch ≤ 32767 := by
            rcases Classical.em (-32767 ≤ u - ch ∧ u - ch ≤ 32767) with y | y
            · exact y
            · exact absurd ⟨w, y⟩ d
          refine ⟨uI (uI C 50 a0 c (u - ch)) 49 a0 c (v + ch), (XI.rf.uI _ ⟨Or.inr rfl, rfl⟩).uI _ ⟨Or.inl rfl, rfl⟩, fun _ => ⟨fun x => ?_, fun x => ?_⟩, fun po hpo => base po (fun z => absurd z a) (fun _ => mid po (fun z => absurd z b) (fun _ z => absurd z w) (fun _ _ z => absurd dd z) (fun _ _ _ => hpo))⟩
          · rw [gI_uI]
            by_cases e : x = c
            · rw [if_pos ⟨rfl, rfl, e⟩, if_pos e, nv]
            · rw [if_neg (by omega), gI_uI, if_neg (by omega), if_neg e]
          · rw [gI_uI, if_neg (by omega), gI_uI]
            by_cases e : x = c
            · rw [if_pos ⟨rfl, rfl, e⟩, if_pos ⟨e, w⟩, nu]
            · rw [if_neg (by omega), if_neg (by omega)]
theorem one_M {M : St} {p s i q c : Nat} {ch w v u : Int} (hp : p < 16) (hiq : i < q) (hq8 : q ≤ 8) (h20 : gI M 110 20 p = q) (h21 : gI M 110 21 (8 * p + i) = c) (hc : c < 8) (h22 : gI M 110 22 (8 * p + i) = ch) (h23 : gI M 110 23 (8 * p + i) = w) (hch : -32767 ≤ ch ∧ ch ≤ 32767) (ev : gI M 110 42 c = v) (eu : gI M 110 43 c = u) (hv : 0 ≤ v ∧ v ≤ 32767) (hu : -32767 ≤ u ∧ u ≤ 32767) :
    ∃ M', XI LB M M' ∧ (oneN v u ch (if zand w 2 = 0 then 0 else 1) = 0 → (∀ b, gI M' 110 42 b = if b = c then v + ch else gI M 110 42 b) ∧ ∀ b, gI M' 110 43 b = if b = c ∧ (if zand w 2 = 0 then (0 : Int) else 1) ≠ 0 then u - ch else gI M 110 43 b) ∧ ∀ (po : Int → St → Prop) (n : Nat), (oneN v u ch (if zand w 2 = 0 then 0 else 1) = 0 → wp_X8_tried_55 po n (p : Int) (s : Int) ((i + 1 : Nat) : Int) M') → (oneN v u ch (if zand w 2 = 0 then 0 else 1) = 1 → po 2 (uI M' 110 14 p (i : Int))) → (oneN v u ch (if zand w 2 = 0 then 0 else 1) = -15 → po 3 M') → wp_X8_tried_55 po (n + 1) (p : Int) (s : Int) (i : Int) M := by
  have np : nm (p : Int) = p := nm_nat (n := 16) hp (by omega)
  have ni : nm (i : Int) = i := nm_nat (n := 8) (by omega) (by omega)
  have nq : nm (q : Int) = q := nm_nat (n := 9) (by omega) (by omega)
  have nc : nm (c : Int) = c := nm_nat (n := 8) hc (by omega)
  have ek : nm (8 * (p : Int) + i) = ((8 * p + i : Nat) : Int) := by rw [nm_id (by omega)]; omega
  have nv : nm (v + ch) = v + ch := nm_id (by omega)
  have nu : nm (u - ch) = u - ch := nm_id (by omega)
  have nch : nm ch = ch := nm_id (by omega)
  have n1 : nm 32767 = 32767 := by decide
  have i16 : (0 : Int) ≤ p ∧ (p : Int) < 16 := by omega
  have c8 : (0 : Int) ≤ c ∧ (c : Int) < 8 := by omega
  have k128 : (0 : Int) ≤ ((8 * p + i : Nat) : Int) ∧ ((8 * p + i : Nat) : Int) < 128 := by omega
  have base : ∀ (po : Int → St → Prop) (n : Nat), ((v + ch < 0 ∨ (ch = 0 ∧ v ≠ 0)) → wp_X8_tried_137 po (fun x1 x2 x3 s9 => wp_X8_tried_55 po n x1 x2 x3 s9) (p : Int) (s : Int) (i : Int) (c : Int) ch 1 M) → (¬ (v + ch < 0 ∨ (ch = 0 ∧ v ≠ 0)) → wp_X8_tried_137 po (fun x1 x2 x3 s9 => wp_X8_tried_55 po n x1 x2 x3 s9) (p : Int) (s : Int) (i : Int) (c : Int) ch 0 M) → wp_X8_tried_55 po (n + 1) (p : Int) (s : Int) (i : Int) M := by
    intro po n h1 h0
    rw [wp_X8_tried_55]
    rw [np, ni, Int.toNat_natCast, h20, nq, ek, Int.toNat_natCast, h21, h22, nc, Int.toNat_natCast, ev, nv, nch]
    refine ⟨i16, fun z => absurd z (by omega), fun _ => ⟨k128, k128, fun z => ⟨fun y => h0 (by omega), fun y => ⟨c8, fun x => h0 (by omega), fun x => h1 (Or.inl x)⟩⟩, fun z => ⟨c8, fun y => h0 ?_, fun y => h1 (Or.inr ⟨z, ?_⟩)⟩⟩⟩
    · rw [← ev, nm_gI, ev] at y; omega
    · rw [← ev, nm_gI, ev] at y; exact y
  have mid1 : ∀ (po : Int → St → Prop) (X : Int → Int → Int → St → Prop), po 2 (uI M 110 14 p (i : Int)) → wp_X8_tried_137 po X (p : Int) (s : Int) (i : Int) (c : Int) ch 1 M := by
    intro po X h
    unfold wp_X8_tried_137
    rw [np, Int.toNat_natCast]
    refine ⟨fun z => absurd z (by decide), fun _ => ⟨i16, ?_⟩⟩
    rintro _ rfl
    exact h
  have f42 : gI (uI M 110 42 c (v + ch)) 110 42 c = v + ch := by rw [gI_uI, if_pos ⟨rfl, rfl, rfl⟩, nv]
  have f23 : gI (uI M 110 42 c (v + ch)) 110 23 (8 * p + i) = w := by rw [gI_uI, if_neg (by omega), h23]
  have f43 : gI (uI M 110 42 c (v + ch)) 110 43 c = u := by rw [gI_uI, if_neg (by omega), eu]
  have g43 : gI (uI (uI M 110 42 c (v + ch)) 110 43 c (u - ch)) 110 43 c = u - ch := by rw [gI_uI, if_pos ⟨rfl, rfl, rfl⟩, nu]
  have mid0 : ∀ (po : Int → St → Prop) (X : Int → Int → Int → St → Prop), (32767 < v + ch → po 3 (uI M 110 42 c (v + ch))) → (v + ch ≤ 32767 → zand w 2 = 0 → X (p : Int) (s : Int) ((i + 1 : Nat) : Int) (uI M 110 42 c (v + ch))) → (v + ch ≤ 32767 → zand w 2 ≠ 0 → ¬ (-32767 ≤ u - ch ∧ u - ch ≤ 32767) → po 3 (uI (uI M 110 42 c (v + ch)) 110 43 c (u - ch))) → (v + ch ≤ 32767 → zand w 2 ≠ 0 → (-32767 ≤ u - ch ∧ u - ch ≤ 32767) → X (p : Int) (s : Int) ((i + 1 : Nat) : Int) (uI (uI M 110 42 c (v + ch)) 110 43 c (u - ch))) → wp_X8_tried_137 po X (p : Int) (s : Int) (i : Int) (c : Int) ch 0 M := by
    intro po X h1 h2 h3 h4
    unfold wp_X8_tried_137
    rw [nc, Int.toNat_natCast, ev, ek, Int.toNat_natCast, show ((i : Int) + 1) = ((i + 1 : Nat) : Int) by omega]
    refine ⟨fun _ => ⟨c8, c8, ?_⟩, fun z => absurd n0 z⟩
    rintro _ rfl
    rw [f42, nv, n1, f23, nm_zand, f43]
    refine ⟨c8, fun z => ⟨k128, fun y => h2 z y, fun y => ⟨c8, c8, ?_⟩⟩, h1⟩
    rintro _ rfl
    rw [g43, nu, sp_in (nmL_of nu) (by decide) (by decide)]
    refine ⟨c8, fun x => h4 z y ((nz_bI _).mp x), fun x => h3 z y ((ez_bI _).mp x)⟩
  have x1 : XI LB M (uI M 110 42 c (v + ch)) := XI.rf.uI _ ⟨rfl, Or.inl rfl⟩
  have x2 : XI LB M (uI (uI M 110 42 c (v + ch)) 110 43 c (u - ch)) := x1.uI _ ⟨rfl, Or.inr rfl⟩
  unfold oneN
  by_cases a : v + ch < 0 ∨ (ch = 0 ∧ v ≠ 0)
  · rw [if_pos a]
    exact ⟨M, XI.rf, fun z => (by cases z), fun po n k0 k1 k2 => base po n (fun _ => mid1 _ _ (k1 rfl)) (fun z => absurd a z)⟩
  · rw [if_neg a]
    by_cases b : 32767 < v + ch
    · rw [if_pos b]
      exact ⟨_, x1, fun z => (by cases z), fun po n k0 k1 k2 => base po n (fun z => absurd z a) (fun _ => mid0 _ _ (fun _ => k2 rfl) (fun z => by omega) (fun z => by omega) (fun z => by omega))⟩
    · rw [if_neg b]
      by_cases y : zand w 2 = 0
      · rw [if_pos y, if_neg (fun z => z.1 rfl)]
        refine ⟨_, x1, fun _ => ⟨fun x => ?_, fun x => ?_⟩, fun po n k0 k1 k2 => base po n (fun z => absurd z a) (fun _ => mid0 _ _ (fun z => absurd z b) (fun _ _ => k0 rfl) (fun _ z => absurd y z) (fun _ z => absurd y z))⟩
        · rw [gI_uI]
          by_cases e : x = c
          · rw [if_pos ⟨rfl, rfl, e⟩, if_pos e, nv]
          · rw [if_neg (by omega), if_neg e]
        · rw [gI_uI, if_neg (by omega), if_neg (fun z => z.2 rfl)]
      · rw [if_neg y]
        by_cases d : (1 : Int) ≠ 0 ∧ ¬ (-32767 ≤ u - ch ∧ u - ch ≤ 32767)
        · rw [if_pos d]
          exact ⟨_, x2, fun z => (by cases z), fun po n k0 k1 k2 => base po n (fun z => absurd z a) (fun _ => mid0 _ _ (fun z => absurd z b) (fun _ z => absurd z y) (fun _ _ _ => k2 rfl) (fun _ _ z => absurd z d.2))⟩
        · rw [if_neg d]
          have dd : -32767 ≤ u - ch ∧ u - ch ≤ 32767 := by
            rcases Classical.em (-32767 ≤ u - ch ∧ u - ch ≤ 32767) with z | z
            · exact z
            · exact absurd ⟨by decide, z⟩ d
          refine ⟨_, x2, fun _ => ⟨fun x => ?_, fun x => ?_⟩, fun po n k0 k1 k2 => base po n (fun z => absurd z a) (fun _ => mid0 _ _ (fun z => absurd z b) (fun _ z => absurd z y) (fun _ _ z => absurd dd z) (fun _ _ _ => k0 rfl))⟩
          · rw [gI_uI, if_neg (by omega), gI_uI]
            by_cases e : x = c
            · rw [if_pos ⟨rfl, rfl, e⟩, if_pos e, nv]
            · rw [if_neg (by omega), if_neg e]
          · rw [gI_uI]
            by_cases e : x = c
            · rw [if_pos ⟨rfl, rfl, e⟩, if_pos ⟨e, by decide⟩, nu]
            · rw [if_neg (by omega), gI_uI, if_neg (by omega), if_neg (by omega)]
