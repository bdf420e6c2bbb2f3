/-! LAYER 2: things are found by keys, and made -/
def Least (P : Nat → Prop) (s : Nat) : Prop := s < 12 ∧ P s ∧ ∀ s', s' < s → ¬ P s'
theorem least_or (P : Nat → Prop) : (∃ s, Least P s) ∨ ∀ s, s < 12 → ¬ P s := by
  have key : ∀ m, m ≤ 12 → (∃ s, Least P s) ∨ ∀ s, s < m → ¬ P s := by
    intro m
    induction m with
    | zero => exact fun _ => Or.inr (fun s hs => absurd hs (by omega))
    | succ m ih =>
      intro hm
      rcases ih (by omega) with h | h
      · exact Or.inl h
      · by_cases hp : P m
        · exact Or.inl ⟨m, by omega, hp, h⟩
        · refine Or.inr (fun s hs => ?_)
          by_cases e : s = m
          · rw [e]; exact hp
          · exact h s (by omega)
  exact key 12 (Nat.le_refl _)
theorem least_uniq {P Q : Nat → Prop} {s s' : Nat} (h : Least P s) (h' : Least Q s') (e : ∀ x, x < 12 → (P x ↔ Q x)) : s = s' := by
  obtain ⟨a1, a2, a3⟩ := h
  obtain ⟨b1, b2, b3⟩ := h'
  rcases Nat.lt_trichotomy s s' with z | z | z
  · exact absurd ((e s a1).mp a2) (b3 s z)
  · exact z
  · exact absurd ((e s' b1).mpr b2) (a3 s' z)
def PK (C : St) (b : Nat) (key : Int) (s : Nat) : Prop := key ≠ 0 ∧ hre C (b + s) ∧ gI C 34 (b + s) 0 = key
def PKM (M : St) (b : Nat) (key : Int) (s : Nat) : Prop := key ≠ 0 ∧ gI M 110 24 (b + s) ≠ 0 ∧ gI M 110 26 (b + s) = key
theorem pk_M {k n : Nat} {ls : List Nat} {e e2 : Option Nat} {C M : St} {b : Nat} {key : Int} (h : SimB k n ls e e2 C M) (hb : b = 0 ∨ b = 12) : ∀ s, s < 12 → (PK C b key s ↔ PKM M b key s) := by
  intro s hs
  have ht : b + s < 24 := by omega
  constructor
  · rintro ⟨h1, h2, h3⟩
    refine ⟨h1, by rw [h.is_of ht h2]; decide, ?_⟩
    rw [← ((h.thing _ ht).2.2.2.2.2.2 h2).2.2.2.1]; exact h3
  · rintro ⟨h1, h2, h3⟩
    have hh := h.hre_of ht h2
    exact ⟨h1, hh, by rw [((h.thing _ ht).2.2.2.2.2.2 hh).2.2.2.1]; exact h3⟩
theorem fr_M {k n : Nat} {ls : List Nat} {e e2 : Option Nat} {C M : St} {b : Nat} (h : SimB k n ls e e2 C M) (hb : b = 0 ∨ b = 12) : ∀ s, s < 12 → (¬ hre C (b + s) ↔ gI M 110 24 (b + s) = 0) := by
  intro s hs
  have ht : b + s < 24 := by omega
  constructor
  · intro h1
    rcases Classical.em (gI M 110 24 (b + s) = 0) with z | z
    · exact z
    · exact absurd (h.hre_of ht z) h1
  · intro h1 h2
    have := h.is_of ht h2
    omega
theorem byKey_loop {C : St} {k b : Nat} {key : Int} {po : Option Nat → St → Prop} (hk : kb k b) (hr : rootT C) (hkey : nm key = key) (h1 : ∀ s, Least (PK C b key) s → po (some (b + s)) C) (h0 : (∀ s, s < 12 → ¬ PK C b key s) → po none C) : ∀ m i : Nat, i + m = 12 → (∀ s, s < i → ¬ PK C b key s) → wp_X7_thingByKey_2 po (m + 1) k (some 0) key (i : Int) C := by
  intro m
  induction m with
  | zero =>
    intro i hi hn
    have e : i = 12 := by omega
    subst e
    unfold wp_X7_thingByKey_2
    exact ⟨fun _ => h0 hn, fun z => absurd z (by decide)⟩
  | succ m ih =>
    intro i hi hn
    have ni : nm (i : Int) = i := nm_nat (n := 13) (by omega) (by omega)
    have nxt : ¬ PK C b key i → wp_X7_thingByKey_2 po (m + 1) k (some 0) key ((i + 1 : Nat) : Int) C := fun z => ih (i + 1) (by omega) (fun s hs => by
      by_cases e : s = i
      · rw [e]; exact z
      · exact hn s (by omega))
    rw [wp_X7_thingByKey_2]
    rw [ni, hkey, show nm 12 = 12 by decide, show ((i : Int) + 1) = ((i + 1 : Nat) : Int) by omega]
    refine ⟨fun z => absurd z (by omega), fun _ => ⟨fun z => h0 (fun s _ w => w.1 z), fun z => ?_⟩⟩
    by_cases hh : hre C (b + i)
    · refine sp_thingIn_some hk (by omega) hh ⟨fun w => (by cases w), ?_⟩
      rintro _ ⟨rfl⟩
      rw [nm_gI]
      exact ⟨fun w => nxt (fun y => w y.2.2), fun w => h1 i ⟨by omega, ⟨z, hh, w⟩, hn⟩⟩
    · refine sp_thingIn_none hk ni hr (fun s hs e => ?_) ⟨fun _ => nxt (fun y => hh y.2.1), fun a w => (by cases w)⟩
      have : s = i := by omega
      rw [this]; exact hh
theorem sp_byKey {C : St} {k b : Nat} {key : Int} {po : Option Nat → St → Prop} (hk : kb k b) (hr : rootT C) (hkey : nm key = key) (h1 : ∀ s, Least (PK C b key) s → po (some (b + s)) C) (h0 : (∀ s, s < 12 → ¬ PK C b key s) → po none C) : wp_X7_thingByKey k (some 0) key C po := ⟨13, byKey_loop hk hr hkey h1 h0 12 0 (by omega) (fun s hs => absurd hs (by omega))⟩
theorem free_loop {C : St} {k b : Nat} {po : Int → St → Prop} (hk : kb k b) (hr : rootT C) (h1 : ∀ s, Least (fun x => ¬ hre C (b + x)) s → po (s : Int) C) (h0 : (∀ s, s < 12 → hre C (b + s)) → po (-1) C) : ∀ m i : Nat, i + m = 12 → (∀ s, s < i → hre C (b + s)) → wp_X7_freeSlot_2 po (m + 1) k (some 0) (i : Int) C := by
  intro m
  induction m with
  | zero =>
    intro i hi hn
    have e : i = 12 := by omega
    subst e
    unfold wp_X7_freeSlot_2
    exact ⟨fun _ => h0 hn, fun z => absurd z (by decide)⟩
  | succ m ih =>
    intro i hi hn
    have ni : nm (i : Int) = i := nm_nat (n := 13) (by omega) (by omega)
    rw [wp_X7_freeSlot_2]
    rw [ni, show nm 12 = 12 by decide, show ((i : Int) + 1) = ((i + 1 : Nat) : Int) by omega]
    refine ⟨fun z => absurd z (by omega), fun _ => ?_⟩
    by_cases hh : hre C (b + i)
    · refine sp_thingIn_some hk (by omega) hh ⟨fun w => (by cases w), fun a _ => ih (i + 1) (by omega) (fun s hs => ?_)⟩
      by_cases e : s = i
      · rw [e]; exact hh
      · exact hn s (by omega)
    · refine sp_thingIn_none hk ni hr (fun s hs e => ?_) ⟨fun _ => h1 i ⟨by omega, hh, fun s hs w => w (hn s hs)⟩, fun a w => (by cases w)⟩
      have : s = i := by omega
      rw [this]; exact hh
theorem sp_free {C : St} {k b : Nat} {po : Int → St → Prop} (hk : kb k b) (hr : rootT C) (h1 : ∀ s, Least (fun x => ¬ hre C (b + x)) s → po (s : Int) C) (h0 : (∀ s, s < 12 → hre C (b + s)) → po (-1) C) : wp_X7_freeSlot k (some 0) C po := ⟨13, free_loop hk hr h1 h0 12 0 (by omega) (fun s hs => absurd hs (by omega))⟩
theorem withKey_loop {M : St} {b : Nat} {key : Int} {po : Int → St → Prop} (hb : b = 0 ∨ b = 12) (hkey : nm key = key) (h1 : ∀ s, Least (PKM M b key) s → po ((b + s : Nat) : Int) M) (h0 : (∀ s, s < 12 → ¬ PKM M b key s) → po (-1) M) : ∀ (i : Nat) (x : Int), i ≤ 12 → ((x = -1 ∧ ∀ s, i ≤ s → s < 12 → ¬ PKM M b key s) ∨ ∃ s, i ≤ s ∧ s < 12 ∧ x = ((b + s : Nat) : Int) ∧ PKM M b key s ∧ ∀ s', i ≤ s' → s' < s → ¬ PKM M b key s') → wp_X8_withKey_8 po (i + 1) key (b : Int) x ((b : Int) + i - 1) M := by
  have nb : nm (b : Int) = b := nm_nat (n := 13) (by omega) (by omega)
  intro i
  induction i with
  | zero =>
    intro x hi hx
    unfold wp_X8_withKey_8
    rw [nb, nm_id (by omega)]
    refine ⟨fun _ => ?_, fun z => absurd z (by omega)⟩
    rcases hx with ⟨rfl, h⟩ | ⟨s, -, s2, rfl, s3, s4⟩
    · exact h0 (fun s hs => h s (Nat.zero_le _) hs)
    · exact h1 s ⟨s2, s3, fun s' hs' => s4 s' (Nat.zero_le _) hs'⟩
  | succ i ih =>
    intro x hi hx
    have ex : ((b : Int) + ((i + 1 : Nat) : Int) - 1) = ((b + i : Nat) : Int) := by omega
    have nx : nm ((b + i : Nat) : Int) = ((b + i : Nat) : Int) := nm_nat (n := 24) (by omega) (by omega)
    have no : ¬ PKM M b key i → wp_X8_withKey_8 po (i + 1) key (b : Int) x (((b + i : Nat) : Int) + (-1)) M := by
      intro hn
      rw [show (((b + i : Nat) : Int) + (-1)) = (b : Int) + i - 1 by omega]
      refine ih x (by omega) ?_
      rcases hx with ⟨e, h⟩ | ⟨s, s1, s2, s3, s4, s5⟩
      · refine Or.inl ⟨e, fun s a1 a2 => ?_⟩
        by_cases z : s = i
        · rw [z]; exact hn
        · exact h s (by omega) a2
      · refine Or.inr ⟨s, by omega, s2, s3, s4, fun s' a1 a2 => ?_⟩
        by_cases z : s' = i
        · rw [z]; exact hn
        · exact s5 s' (by omega) a2
    have yes : PKM M b key i → wp_X8_withKey_8 po (i + 1) key (b : Int) ((b + i : Nat) : Int) (((b + i : Nat) : Int) + (-1)) M := by
      intro hy
      rw [show (((b + i : Nat) : Int) + (-1)) = (b : Int) + i - 1 by omega]
      exact ih _ (by omega) (Or.inr ⟨i, Nat.le_refl _, by omega, rfl, hy, fun s' a1 a2 => by omega⟩)
    have i24 : (0 : Int) ≤ ((b + i : Nat) : Int) ∧ ((b + i : Nat) : Int) < 24 := by clear hx; omega
    rw [wp_X8_withKey_8]
    rw [nb, ex, nx, Int.toNat_natCast, hkey, nm_gI, nm_gI]
    refine ⟨fun z => absurd z (by omega), fun _ => ⟨fun z => no (fun w => w.1 z), fun z => ⟨i24, fun w => no (fun y => y.2.1 w), fun w => ⟨i24, fun v => no (fun y => v y.2.2), fun v => yes ⟨z, w, v⟩⟩⟩⟩⟩
theorem sp_withKey {M : St} {b : Nat} {key : Int} {po : Int → St → Prop} (hb : b = 0 ∨ b = 12) (hkey : nm key = key) (h1 : ∀ s, Least (PKM M b key) s → po ((b + s : Nat) : Int) M) (h0 : (∀ s, s < 12 → ¬ PKM M b key s) → po (-1) M) : wp_X8_withKey key (b : Int) M po := by
  refine ⟨13, ?_⟩
  have := withKey_loop hb hkey h1 h0 12 (-1) (Nat.le_refl _) (Or.inl ⟨rfl, fun s a b => by omega⟩)
  rw [show ((b : Int) + ((12 : Nat) : Int) - 1) = (b : Int) + 11 by omega] at this
  exact this
theorem freeM_loop {M : St} {b : Nat} {po : Int → St → Prop} (hb : b = 0 ∨ b = 12) (h1 : ∀ s, Least (fun x => gI M 110 24 (b + x) = 0) s → po ((b + s : Nat) : Int) M) (h0 : (∀ s, s < 12 → gI M 110 24 (b + s) ≠ 0) → po (-1) M) : ∀ (i : Nat) (x : Int), i ≤ 12 → ((x = -1 ∧ ∀ s, i ≤ s → s < 12 → gI M 110 24 (b + s) ≠ 0) ∨ ∃ s, i ≤ s ∧ s < 12 ∧ x = ((b + s : Nat) : Int) ∧ gI M 110 24 (b + s) = 0 ∧ ∀ s', i ≤ s' → s' < s → gI M 110 24 (b + s') ≠ 0) → wp_X8_freeSlot_7 po (i + 1) (b : Int) x ((b : Int) + i - 1) M := by
  have nb : nm (b : Int) = b := nm_nat (n := 13) (by omega) (by omega)
  intro i
  induction i with
  | zero =>
    intro x hi hx
    unfold wp_X8_freeSlot_7
    rw [nb, nm_id (by omega)]
    refine ⟨fun _ => ?_, fun z => absurd z (by omega)⟩
    rcases hx with ⟨rfl, h⟩ | ⟨s, -, s2, rfl, s3, s4⟩
    · exact h0 (fun s hs => h s (Nat.zero_le _) hs)
    · exact h1 s ⟨s2, s3, fun s' hs' => s4 s' (Nat.zero_le _) hs'⟩
  | succ i ih =>
    intro x hi hx
    have ex : ((b : Int) + ((i + 1 : Nat) : Int) - 1) = ((b + i : Nat) : Int) := by omega
    have nx : nm ((b + i : Nat) : Int) = ((b + i : Nat) : Int) := nm_nat (n := 24) (by omega) (by omega)
    rw [wp_X8_freeSlot_7]
    rw [nb, ex, nx, Int.toNat_natCast, nm_gI, show (((b + i : Nat) : Int) + (-1)) = (b : Int) + i - 1 by omega]
    have i24 : (0 : Int) ≤ ((b + i : Nat) : Int) ∧ ((b + i : Nat) : Int) < 24 := by clear hx; omega
    refine ⟨fun z => absurd z (by omega), fun _ => ⟨i24, fun z => ?_, fun z => ?_⟩⟩
    · exact ih _ (by omega) (Or.inr ⟨i, Nat.le_refl _, by omega, rfl, z, fun s' a1 a2 => by omega⟩)
    · refine ih x (by omega) ?_
      rcases hx with ⟨e, h⟩ | ⟨s, s1, s2, s3, s4, s5⟩
      · refine Or.inl ⟨e, fun s a1 a2 => ?_⟩
        by_cases w : s = i
        · rw [w]; exact z
        · exact h s (by omega) a2
      · refine Or.inr ⟨s, by omega, s2, s3, s4, fun s' a1 a2 => ?_⟩
        by_cases w : s' = i
        · rw [w]; exact z
        · exact s5 s' (by omega) a2
theorem sp_freeM {M : St} {b : Nat} {po : Int → St → Prop} (hb : b = 0 ∨ b = 12) (h1 : ∀ s, Least (fun x => gI M 110 24 (b + x) = 0) s → po ((b + s : Nat) : Int) M) (h0 : (∀ s, s < 12 → gI M 110 24 (b + s) ≠ 0) → po (-1) M) : wp_X8_freeSlot (b : Int) M po := by
  refine ⟨13, ?_⟩
  have := freeM_loop hb h1 h0 12 (-1) (Nat.le_refl _) (Or.inl ⟨rfl, fun s a b => by omega⟩)
  rw [show ((b : Int) + ((12 : Nat) : Int) - 1) = (b : Int) + 11 by omega] at this
  exact this
theorem bits_w2 : ∀ w : Nat, w < 2048 → (zand (w : Int) 1536 = 1536 ↔ zand (w : Int) 512 ≠ 0 ∧ zand (w : Int) 1024 ≠ 0) := by decide +kernel
theorem bits_w3 : ∀ w : Nat, w < 2048 → (0 ≤ zand (zor (zor (zshr (w : Int) 6) (zshr (w : Int) 3)) (w : Int)) 7 ∧ zand (zor (zor (zshr (w : Int) 6) (zshr (w : Int) 3)) (w : Int)) 7 ≤ 7) ∧ 0 ≤ zand (w : Int) 511 ∧ zand (w : Int) 511 ≤ 511 := by decide +kernel
theorem sp_idOf {M : St} {t : Nat} {po : Int → St → Prop} (ht : t < 24) (h : po (((t % 12 : Nat) : Int) + 12 * gI M 110 25 t) M) : wp_X8_idOf (t : Int) M po := by
  have nt : nm (t : Int) = t := nm_nat (n := 24) ht (by omega)
  unfold wp_X8_idOf
  rw [nt, Int.toNat_natCast, zrem12 (by omega) nt, show ((t : Int) % 12) = ((t % 12 : Nat) : Int) by omega]
  exact ⟨by omega, h⟩
def Lbg (t : Nat) : Nat → Nat → Nat → Prop := fun f a _ => (31 ≤ f ∧ f ≤ 39) ∧ a = t
theorem sp_begin {D : St} {t p : Nat} {key md : Int} (hkey : nm key = key) (hmd : nm md = md) (hid : nm (gI D 30 t 0 + 12 * gI D 31 t 0) = gI D 30 t 0 + 12 * gI D 31 t 0) (hmade : nm (gI D 31 t 0 + 1) = gI D 31 t 0 + 1) :
    ∃ C1, XI (Lbg t) D C1 ∧ gI C1 33 t 0 = gI D 30 t 0 + 12 * gI D 31 t 0 ∧ gI C1 31 t 0 = gI D 31 t 0 + 1 ∧ gI C1 32 t 0 = 1 ∧ gI C1 34 t 0 = key ∧ gI C1 35 t 0 = gI D 11 p 0 ∧ gI C1 36 t 0 = gI D 12 p 0 ∧ gI C1 37 t 0 = gI D 11 p 0 ∧ gI C1 38 t 0 = gI D 12 p 0 ∧ gI C1 39 t 0 = md ∧ ∀ po : St → Prop, po C1 → wp_X5_begin t (some p) key md D po := by
  have n1 : nm 1 = 1 := by decide
  refine ⟨uI (uI (uI (uI (uI (uI (uI (uI (uI D 33 t 0 (gI D 30 t 0 + 12 * gI D 31 t 0)) 31 t 0 (gI D 31 t 0 + 1)) 32 t 0 1) 34 t 0 key) 35 t 0 (gI D 11 p 0)) 36 t 0 (gI D 12 p 0)) 37 t 0 (gI D 11 p 0)) 38 t 0 (gI D 12 p 0)) 39 t 0 md, ?_, ?_, ?_, ?_, ?_, ?_, ?_, ?_, ?_, ?_, fun po hpo => ?_⟩
  · exact ((((((((XI.rf.uI _ (by unfold Lbg; omega)).uI _ (by unfold Lbg; omega)).uI _ (by unfold Lbg; omega)).uI _ (by unfold Lbg; omega)).uI _ (by unfold Lbg; omega)).uI _ (by unfold Lbg; omega)).uI _ (by unfold Lbg; omega)).uI _ (by unfold Lbg; omega)).uI _ (by unfold Lbg; omega)
  · simp [gI_uI, hid]
  · simp [gI_uI, hmade]
  · simp [gI_uI, n1]
  · simp [gI_uI, hkey]
  · simp [gI_uI, nm_gI]
  · simp [gI_uI, nm_gI]
  · simp [gI_uI, nm_gI]
  · simp [gI_uI, nm_gI]
  · simp [gI_uI, hmd]
  · unfold wp_X5_begin
    rintro _ rfl
    rw [gI_uI, if_neg (by omega)]
    rintro _ rfl _ rfl _ rfl
    refine ⟨p, rfl, ?_⟩
    have e11 : ∀ X : St, XI (Lbg t) D X → gI X 11 p 0 = gI D 11 p 0 := fun X x => x.2.1 11 p 0 (by unfold Lbg; omega)
    have e12 : ∀ X : St, XI (Lbg t) D X → gI X 12 p 0 = gI D 12 p 0 := fun X x => x.2.1 12 p 0 (by unfold Lbg; omega)
    have x4 : XI (Lbg t) D (uI (uI (uI (uI D 33 t 0 (gI D 30 t 0 + 12 * gI D 31 t 0)) 31 t 0 (gI D 31 t 0 + 1)) 32 t 0 1) 34 t 0 key) := (((XI.rf.uI _ (by unfold Lbg; omega)).uI _ (by unfold Lbg; omega)).uI _ (by unfold Lbg; omega)).uI _ (by unfold Lbg; omega)
    rintro _ rfl
    rw [e11 _ x4]
    have x5 := x4.uI (f := 35) (a := t) (b := 0) (gI D 11 p 0) (by unfold Lbg; omega)
    rintro _ rfl
    rw [e12 _ x5]
    have x6 := x5.uI (f := 36) (a := t) (b := 0) (gI D 12 p 0) (by unfold Lbg; omega)
    rintro _ rfl
    rw [e11 _ x6]
    have x7 := x6.uI (f := 37) (a := t) (b := 0) (gI D 11 p 0) (by unfold Lbg; omega)
    rintro _ rfl
    rw [e12 _ x7]
    rintro _ rfl
    exact hpo
def LmkM (t : Nat) : Nat → Nat → Nat → Prop := fun f a b => f = 110 ∧ (a = 24 ∨ (26 ≤ a ∧ a ≤ 31)) ∧ b = t
theorem sp_make {M : St} {t p : Nat} {key way : Int} (hp : p < 16) (ht : t < 24) (hkey : nm key = key) :
    ∃ M1, XI (LmkM t) M M1 ∧ gI M1 110 24 t = 1 ∧ gI M1 110 26 t = key ∧ gI M1 110 27 t = gI M 110 1 p ∧ gI M1 110 28 t = gI M 110 2 p ∧ gI M1 110 29 t = gI M 110 1 p ∧ gI M1 110 30 t = gI M 110 2 p ∧ gI M1 110 31 t = zand way 511 ∧ ∀ po : St → Prop, po M1 → wp_X8_make (p : Int) (t : Int) key way M po := by
  have n1 : nm 1 = 1 := by decide
  have np : nm (p : Int) = p := nm_nat (n := 16) hp (by omega)
  have nt : nm (t : Int) = t := nm_nat (n := 24) ht (by omega)
  have i16 : (0 : Int) ≤ p ∧ (p : Int) < 16 := by omega
  have i24 : (0 : Int) ≤ t ∧ (t : Int) < 24 := by omega
  refine ⟨uI (uI (uI (uI (uI (uI (uI M 110 24 t 1) 110 26 t key) 110 27 t (gI M 110 1 p)) 110 28 t (gI M 110 2 p)) 110 29 t (gI M 110 1 p)) 110 30 t (gI M 110 2 p)) 110 31 t (zand way 511), ?_, ?_, ?_, ?_, ?_, ?_, ?_, ?_, fun po hpo => ?_⟩
  · exact ((((((XI.rf.uI _ (by unfold LmkM; omega)).uI _ (by unfold LmkM; omega)).uI _ (by unfold LmkM; omega)).uI _ (by unfold LmkM; omega)).uI _ (by unfold LmkM; omega)).uI _ (by unfold LmkM; omega)).uI _ (by unfold LmkM; omega)
  · simp [gI_uI, n1]
  · simp [gI_uI, hkey]
  · simp [gI_uI, nm_gI]
  · simp [gI_uI, nm_gI]
  · simp [gI_uI, nm_gI]
  · simp [gI_uI, nm_gI]
  · simp [gI_uI, nm_zand]
  · have e1 : ∀ X : St, XI (LmkM t) M X → gI X 110 1 p = gI M 110 1 p := fun X x => x.2.1 110 1 p (by unfold LmkM; omega)
    have e2 : ∀ X : St, XI (LmkM t) M X → gI X 110 2 p = gI M 110 2 p := fun X x => x.2.1 110 2 p (by unfold LmkM; omega)
    unfold wp_X8_make
    rw [np, nt, Int.toNat_natCast, Int.toNat_natCast]
    refine ⟨i24, ?_⟩
    rintro _ rfl
    refine ⟨i24, ?_⟩
    rintro _ rfl
    have x2 : XI (LmkM t) M (uI (uI M 110 24 t 1) 110 26 t key) := (XI.rf.uI _ (by unfold LmkM; omega)).uI _ (by unfold LmkM; omega)
    rw [e1 _ x2]
    refine ⟨i16, i24, ?_⟩
    rintro _ rfl
    have x3 := x2.uI (f := 110) (a := 27) (b := t) (gI M 110 1 p) (by unfold LmkM; omega)
    rw [e2 _ x3]
    refine ⟨i16, i24, ?_⟩
    rintro _ rfl
    have x4 := x3.uI (f := 110) (a := 28) (b := t) (gI M 110 2 p) (by unfold LmkM; omega)
    rw [e1 _ x4]
    refine ⟨i16, i24, ?_⟩
    rintro _ rfl
    have x5 := x4.uI (f := 110) (a := 29) (b := t) (gI M 110 1 p) (by unfold LmkM; omega)
    rw [e2 _ x5]
    refine ⟨i16, i24, ?_⟩
    rintro _ rfl
    refine ⟨i24, ?_⟩
    rintro _ rfl
    exact hpo
/-- what a making of thing t may write, of the class and of the model -/
def Lop (t : Nat) : Nat → Nat → Nat → Prop := fun f a b => f = 110 ∧ (((a = 24 ∨ (26 ≤ a ∧ a ≤ 31)) ∧ b = t) ∨ (t < 12 ∧ 32 ≤ a ∧ a ≤ 34 ∧ b = t) ∨ (12 ≤ t ∧ ((a = 38 ∧ b = t - 12) ∨ ((a = 39 ∨ a = 40) ∧ 8 * (t - 12) ≤ b ∧ b < 8 * (t - 12) + 8) ∨ (a = 41 ∧ 8 * (t - 12) ≤ b % 96 ∧ b % 96 < 8 * (t - 12) + 8))))
theorem SimB.opened {k n : Nat} {ls : List Nat} {e e2 : Option Nat} {C C' M M' : St} {t : Nat} {tg : List (Nat × Nat)} (h : SimB k n ls e e2 C M) (ht : t < 24) (hno : ¬ hre C t)
    (hT : C'.2.1 = C.2.1 ++ tg) (htg : ∀ kk a, (kk, a) ∈ tg → 20 ≤ kk ∧ kk ≤ 26 ∧ a = t) (hI : ∀ f a b, ¬ ((30 ≤ f ∧ f ≤ 51) ∧ a = t) → gI C' f a b = gI C f a b) (hL : ∀ f a b, gL C' f a b = gL C f a b)
    (hR : ∀ f a b, f = 1 ∨ f = 4 ∨ f = 10 → gR C' f a b = gR C f a b) (hR11 : ∀ s i, gR C' 11 s i = gR C 11 s i ∨ (s = t ∧ gR C' 11 s i = none)) (hrt : ∀ a, rt C' a = if a = t then some t else rt C a)
    (hM : XI (Lop t) M M') (hth : thingOK k C' M' t) (hq : t < 12 → queueOK C' M' t) (hs : 12 ≤ t → setOK C' M' (t - 12)) : SimB k n ls e e2 C' M' := by
  obtain ⟨h1, h2, h3, h4, h5, h6, h7, h8, h9, h10, h11, h12⟩ := h
  have hh : ∀ a, a ≠ t → (hre C' a ↔ hre C a) := fun a ha => by unfold hre; rw [hrt, if_neg ha, hI 32 a 0 (by omega)]
  have iI : ∀ f, (f < 30 ∨ 51 < f) → ∀ a b, gI C' f a b = gI C f a b := fun f hf a b => hI f a b (by omega)
  have mI : ∀ a, a < 24 → ∀ b, gI M' 110 a b = gI M 110 a b := fun a ha b => hM.2.1 110 a b (by unfold Lop; omega)
  have m25 : ∀ b, gI M' 110 25 b = gI M 110 25 b := fun b => hM.2.1 110 25 b (by unfold Lop; omega)
  have mL : ∀ a b, gL M' 110 a b = gL M 110 a b := fun a b => hM.2.2.1 110 a b
  have m100 : gI M' 100 0 0 = gI M 100 0 0 := hM.2.1 100 0 0 (by unfold Lop; omega)
  have m101 : gI M' 101 0 0 = gI M 101 0 0 := hM.2.1 101 0 0 (by unfold Lop; omega)
  have r1 := fun a b => hR 1 a b (by decide)
  have r4 := fun a b => hR 4 a b (by decide)
  have r10 := fun a b => hR 10 a b (by decide)
  refine ⟨?_, ?_, ?_, fun kk a ha => ?_, ⟨fun s i v hv => ?_, fun s i s' i' v hv hv' => ?_⟩, ?_, ?_, fun q hq => ?_, fun a ha => ?_, fun s hs2 => ?_, fun s hs2 => ?_, ?_⟩
  · unfold rootOK at h1 ⊢
    simp only [iI 1 (by decide), m100, r1]; exact h1
  · unfold lineOK at h2 ⊢
    simp only [iI 2 (by decide), iI 15 (by decide), r4]; exact h2
  · unfold turnOK at h3 ⊢
    simp only [m101, mI 8 (by decide)]; exact h3
  · rw [hT, List.mem_append] at ha
    rcases ha with ha | ha
    · obtain ⟨t1, t2, t3⟩ := h4 kk a ha
      refine ⟨t1, t2, fun z => ⟨(t3 z).1, ?_⟩⟩
      rw [hrt]
      by_cases w : a = t
      · rw [if_pos w, w]
      · rw [if_neg w]; exact (t3 z).2
    · obtain ⟨t1, t2, t3⟩ := htg kk a ha
      refine ⟨fun z => by omega, fun z => by omega, fun _ => ⟨by omega, ?_⟩⟩
      rw [hrt, if_pos t3, t3]
  · rcases hR11 s i with z | ⟨-, z⟩
    · rw [z] at hv
      obtain ⟨q1, q2⟩ := h5.1 s i v hv
      exact ⟨q1, by rw [hT]; exact List.mem_append_left _ q2⟩
    · rw [z] at hv; cases hv
  · rcases hR11 s i with z | ⟨-, z⟩
    · rcases hR11 s' i' with z' | ⟨-, z'⟩
      · rw [z] at hv; rw [z'] at hv'
        exact h5.2 s i s' i' v hv hv'
      · rw [z'] at hv'; cases hv'
    · rw [z] at hv; cases hv
  · unfold procOK at h6 ⊢
    simp only [iI 10 (by decide), iI 11 (by decide), iI 12 (by decide), iI 13 (by decide), iI 14 (by decide), iI 15 (by decide), iI 16 (by decide), hL, mL, mI 1 (by decide), mI 2 (by decide), mI 3 (by decide), mI 4 (by decide), mI 5 (by decide), mI 7 (by decide)]
    exact h6
  · unfold toldOK stepOK at h7 ⊢
    simp only [iI 25 (by decide), iI 22 (by decide), iI 23 (by decide), iI 24 (by decide), mI 16 (by decide), mI 17 (by decide), mI 18 (by decide), mI 19 (by decide)]
    exact h7
  · have hw := h8 q hq
    unfold waitOK
    simp only [iI 15 (by decide), r10, mI 9 (by decide)]
    rcases hw with w | ⟨w, w1, s, w2, w3, w4, w5⟩ | ⟨w, w1, s, w2, w3, w4, w5⟩ | ⟨w, s, w2, w3, w4, w5, w6⟩
    · exact Or.inl w
    · refine Or.inr (Or.inl ⟨w, ?_, s, w2, w3, w4, (hh s (fun z => hno (z ▸ w5))).mpr w5⟩)
      unfold sendOK at w1 ⊢
      simp only [hL, mL, iI 17 (by decide), iI 18 (by decide), mI 11 (by decide), mI 13 (by decide)]
      exact w1
    · refine Or.inr (Or.inr (Or.inl ⟨w, ?_, s, w2, w3, w4, (hh s (fun z => hno (z ▸ w5))).mpr w5⟩))
      unfold takeOK at w1 ⊢
      simp only [hL, mL, iI 19 (by decide), iI 20 (by decide), iI 21 (by decide), mI 11 (by decide), mI 12 (by decide)]
      exact w1
    · have hst : 12 + s ≠ t := fun z => hno (z ▸ w5)
      refine Or.inr (Or.inr (Or.inr ⟨w, s, w2, w3, w4, (hh _ hst).mpr w5, ?_⟩))
      unfold tryOK stepOK at w6 ⊢
      simp only [iI 25 (by decide), iI 26 (by decide), iI 27 (by decide), iI 22 (by decide), iI 23 (by decide), iI 24 (by decide), hI 45 (12 + s) 0 (fun z => hst z.2), mI 20 (by decide), mI 14 (by decide), mI 21 (by decide), mI 22 (by decide), mI 23 (by decide)]
      exact w6
  · by_cases z : a = t
    · rw [z]; exact hth
    · have m : ∀ f, 24 ≤ f → f ≤ 31 → gI M' 110 f a = gI M 110 f a := fun f q1 q2 => hM.2.1 110 f a (by unfold Lop; omega)
      have c : ∀ f, gI C' f a 0 = gI C f a 0 := fun f => hI f a 0 (fun w => z w.2)
      have := h9 a ha
      unfold thingOK at this ⊢
      rw [hh a z, hrt, if_neg z]
      simp only [c, m 24 (by decide) (by decide), m 25 (by decide) (by decide), m 26 (by decide) (by decide), m 27 (by decide) (by decide), m 28 (by decide) (by decide), m 29 (by decide) (by decide), m 30 (by decide) (by decide), m 31 (by decide) (by decide)]
      exact this
  · by_cases z : s = t
    · rw [z]; exact hq (by omega)
    · intro hhs
      obtain ⟨q1, q2, q3, q4, q5, q6, q7, q8⟩ := h10 s hs2 ((hh s z).mp hhs)
      have c : ∀ f, gI C' f s 0 = gI C f s 0 := fun f => hI f s 0 (fun w => z w.2)
      rw [c 40, c 41, c 42, hM.2.1 110 34 s (by unfold Lop; omega), hM.2.1 110 32 s (by unfold Lop; omega), hM.2.1 110 33 s (by unfold Lop; omega)]
      refine ⟨q1, q2, q3, q4, q5, q6, q7, fun i hi => ?_⟩
      obtain ⟨v, hv, hm⟩ := q8 i hi
      refine ⟨v, ?_, ?_⟩
      · rcases hR11 s i with w | ⟨w, -⟩
        · rw [w]; exact hv
        · exact absurd w z
      · unfold msgOK at hm ⊢
        rw [hL, mL, iI 17 (by decide), hM.2.1 110 36 _ (by unfold Lop; omega)]
        refine ⟨hm.1, hm.2.1, hm.2.2.1, hm.2.2.2.1, hm.2.2.2.2.1, fun b hb => ?_⟩
        rw [iI 18 (by decide), hM.2.1 110 37 _ (by unfold Lop; omega)]
        exact hm.2.2.2.2.2 b hb
  · by_cases z : 12 + s = t
    · have := hs (by omega)
      rw [show t - 12 = s by omega] at this
      exact this
    · intro hhs
      obtain ⟨q1, q2, q3, q4⟩ := h11 s hs2 ((hh _ z).mp hhs)
      have c : ∀ f b, gI C' f (12 + s) b = gI C f (12 + s) b := fun f b => hI f (12 + s) b (fun w => z w.2)
      rw [c 45, hM.2.1 110 38 s (by unfold Lop; omega)]
      refine ⟨q1, q2, q3, fun b hb => ?_⟩
      obtain ⟨k1, k2, k3, k4, k5⟩ := q4 b hb
      rw [c 46, c 47, hM.2.1 110 39 _ (by unfold Lop; omega), hM.2.1 110 40 _ (by unfold Lop; omega)]
      refine ⟨k1, k2, k3, k4, fun p hp => ?_⟩
      rw [c 48, hM.2.1 110 41 _ (by unfold Lop; omega)]
      exact k5 p hp
  · intro q q1 q2
    obtain ⟨f1, f2, f3, f4, f5⟩ := h12 q q1 q2
    rw [mI 4 (by decide), mI 7 (by decide), mI 16 (by decide), mL]
    exact ⟨f1, f2, f3, f4, fun j hj => by rw [mI 5 (by decide)]; exact f5 j hj⟩
