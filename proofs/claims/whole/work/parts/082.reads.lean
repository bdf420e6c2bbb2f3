/-! LAYER 2: queueOf, setOf -/
theorem th_or (C : St) (b : Nat) (x : Int) : (∃ s : Nat, s < 12 ∧ x = s ∧ hre C (b + s)) ∨ (∀ s : Nat, s < 12 → x = s → ¬ hre C (b + s)) := by
  rcases Classical.em (∃ s : Nat, s < 12 ∧ x = s ∧ hre C (b + s)) with h | h
  · exact Or.inl h
  · exact Or.inr (fun s hs hx hh => h ⟨s, hs, hx, hh⟩)
theorem f7 {f : Int} (h : 0 ≤ f ∧ f ≤ 6) : f = 0 ∨ f = 1 ∨ f = 2 ∨ f = 3 ∨ f = 4 ∨ f = 5 ∨ f = 6 := by omega
theorem sp_fact {C : St} {t : Nat} {f : Int} {po : Int → St → Prop} (hf : 0 ≤ f ∧ f ≤ 6) (h : po (gI C (33 + f.toNat) t 0) C) : wp_X5_fact t f C po := by
  unfold wp_X5_fact
  rcases f7 hf with rfl | rfl | rfl | rfl | rfl | rfl | rfl
  all_goals
    refine ⟨fun z => ?_, fun z => ?_, fun z => ?_, fun z => ?_, fun z => ?_, fun z => ?_, fun z => ?_, fun z => ?_⟩
    all_goals first | exact h | exact absurd z (by decide)
theorem sp_thing {k n : Nat} {ls : List Nat} {e e2 : Option Nat} {C M : St} {t : Nat} {f : Int} {po : Int → St → Prop} (hS : SimB k n ls e e2 C M) (ht : t < 24) (hh : hre C t) (hf : 0 ≤ f ∧ f ≤ 6) (h : po (gI C (33 + f.toNat) t 0) M) : wp_X8_thing (t : Int) f M po := by
  obtain ⟨c1, c2, c3, c4, c5, c6, c7, c8, c9, c10, c11⟩ := (hS.thing t ht).2.2.2.2.2.2 hh
  have nt : nm (t : Int) = t := nm_nat (n := 24) ht (by omega)
  have et : ((t : Int)).toNat = t := by omega
  have i24 : (0 : Int) ≤ t ∧ (t : Int) < 24 := by omega
  unfold wp_X8_thing wp_X8_idOf
  rw [nt, et, zrem12 (by omega) nt]
  rcases f7 hf with rfl | rfl | rfl | rfl | rfl | rfl | rfl
  all_goals
    refine ⟨fun z => ?_, fun z => ?_, fun z => ?_, fun z => ?_, fun z => ?_, fun z => ?_, fun z => ?_⟩
    all_goals first
      | exact absurd z (by decide)
      | (refine ⟨i24, ?_⟩
         first
           | (have h : po (gI C 33 t 0) M := h
              rw [c3] at h
              rw [show (t : Int) % 12 = ((t % 12 : Nat) : Int) by omega]
              exact h)
           | (have h : po (gI C 34 t 0) M := h
              rw [c4] at h
              exact h)
           | (have h : po (gI C 35 t 0) M := h
              rw [c5] at h
              exact h)
           | (have h : po (gI C 36 t 0) M := h
              rw [c6] at h
              exact h)
           | (have h : po (gI C 37 t 0) M := h
              rw [c7] at h
              exact h)
           | (have h : po (gI C 38 t 0) M := h
              rw [c8] at h
              exact h)
           | (have h : po (gI C 39 t 0) M := h
              rw [c9] at h
              exact h))
theorem op_queueOf {k n : Nat} {ls : List Nat} {C M0 : St} {x f : Int} (hx : nm x = x) (hf : nm f = f) (h : SimB k n ls none none C M0) : LockB k k n ls (wp_X7_queueOf x f C) C (fun M => wp_X8_queueOf x f M) := by
  have n11 : nm 11 = 11 := by decide
  have l0 : nmL 0 = 0 := by decide
  have l11 : nmL 11 = 11 := by decide
  by_cases hok : 0 ≤ f ∧ f ≤ 11
  · rcases th_or C 0 x with ⟨s, hs, rfl, hh⟩ | hn
    · rw [Nat.zero_add] at hh
      have es : ((s : Int)).toNat = s := by omega
      have i12 : (0 : Int) ≤ s ∧ (s : Int) < 12 := by omega
      have i24 : (0 : Int) ≤ s ∧ (s : Int) < 24 := by omega
      have i11 : (0 : Int) ≤ s ∧ (s : Int) ≤ 11 := by omega
      have cls : ∀ po : Int → St → Prop, (f = 7 → po (gI C 41 s 0) C) → (f = 8 → po (gI C 42 s 0) C) → (f = 9 → po (gI C 40 s 0) C) → (f = 10 → po (((ls.filter (wOn C 1 s)).length : Nat) : Int) C) → (f = 11 → po (((ls.filter (wOn C 2 s)).length : Nat) : Int) C) → (f ≤ 6 → po (gI C (33 + f.toNat) s 0) C) → wp_X7_queueOf (s : Int) f C po := by
        intro po h7 h8 h9 h10 h11 h6
        unfold wp_X7_queueOf wp_X7_queueIn
        rw [sp_isWithin hf n11]
        refine ⟨fun _ => sp_thingIn_some (b := 0) (Or.inl ⟨rfl, rfl⟩) hs (by rw [Nat.zero_add]; exact hh) ⟨fun z => (by cases z), ?_⟩, fun z => absurd hok ((ez_bI _).mp z)⟩
        rintro _ ⟨rfl⟩
        rw [Nat.zero_add]
        refine ⟨hs, fun z => (by cases z), ?_⟩
        rintro _ ⟨rfl⟩
        rw [hf]
        refine ⟨fun z => ⟨hs, h7 z⟩, fun z => ⟨hs, h8 z⟩, fun z => ⟨hs, h9 z⟩, fun z => ⟨ls.length + 1, ?_⟩, fun z => ⟨ls.length + 1, ?_⟩, fun z => ⟨hs, sp_fact ⟨hok.1, by omega⟩ (h6 (by omega))⟩⟩
        · exact sp_waitersOn h.2.1 (by decide) (h10 z) ls.length 0 (by omega)
        · exact sp_waitersOn h.2.1 (by decide) (h11 z) ls.length 0 (by omega)
      have mod : ∀ M, SimB k n ls none none C M → ∀ po : Int → St → Prop, (f = 7 → po (gI C 41 s 0) M) → (f = 8 → po (gI C 42 s 0) M) → (f = 9 → po (gI C 40 s 0) M) → (f = 10 → po (((ls.filter (wOn C 1 s)).length : Nat) : Int) M) → (f = 11 → po (((ls.filter (wOn C 2 s)).length : Nat) : Int) M) → (f ≤ 6 → po (gI C (33 + f.toNat) s 0) M) → wp_X8_queueOf (s : Int) f M po := by
        intro M hM po h7 h8 h9 h10 h11 h6
        obtain ⟨q1, -, -, q4, q5, -⟩ := hM.2.2.2.2.2.2.2.2.2.1 s hs hh
        unfold wp_X8_queueOf
        rw [hf, hx, es, sp_in (nmL_of hf) l0 l11]
        refine ⟨fun _ => ?_, fun z => absurd hok ((ez_bI _).mp z)⟩
        rw [sp_in (nmL_of hx) l0 l11]
        refine ⟨fun z => absurd i11 ((ez_bI _).mp z), fun _ => ⟨i24, fun _ => ?_, fun z => ?_⟩⟩
        · refine ⟨fun z => ⟨i12, by rw [← q4]; exact h7 z⟩, fun z => ⟨i12, by rw [← q5]; exact h8 z⟩, fun z => ⟨i12, by rw [← q1]; exact h9 z⟩, fun z => ⟨n + 1, ?_⟩, fun z => ⟨n + 1, ?_⟩, fun z => sp_thing hM (by omega) hh ⟨hok.1, by omega⟩ (h6 (by omega))⟩
          · have h10 := h10 z
            rw [waiters_CM hM hs (Or.inl ⟨Or.inl rfl, rfl⟩)] at h10
            exact sp_waiting hM.1.2.2.1 hM.1.1 (by decide) hx h10 n 0 (by omega)
          · have h11 := h11 z
            rw [waiters_CM hM hs (Or.inl ⟨Or.inr rfl, rfl⟩)] at h11
            exact sp_waiting hM.1.2.2.1 hM.1.1 (by decide) hx h11 n 0 (by omega)
        · rw [nm_gI, hM.is_of (by omega) hh] at z; exact absurd z (by decide)
      have cas : f ≤ 6 ∨ f = 7 ∨ f = 8 ∨ f = 9 ∨ f = 10 ∨ f = 11 := by omega
      rcases cas with z | z | z | z | z | z
      · refine LockB.read (gI C (33 + f.toNat) s 0) (fun po hpo => cls po ?_ ?_ ?_ ?_ ?_ (fun _ => hpo)) (fun M hM po hpo => mod M hM po ?_ ?_ ?_ ?_ ?_ (fun _ => hpo)) <;> (intro y; omega)
      · refine LockB.read (gI C 41 s 0) (fun po hpo => cls po (fun _ => hpo) ?_ ?_ ?_ ?_ ?_) (fun M hM po hpo => mod M hM po (fun _ => hpo) ?_ ?_ ?_ ?_ ?_) <;> (intro y; omega)
      · refine LockB.read (gI C 42 s 0) (fun po hpo => cls po ?_ (fun _ => hpo) ?_ ?_ ?_ ?_) (fun M hM po hpo => mod M hM po ?_ (fun _ => hpo) ?_ ?_ ?_ ?_) <;> (intro y; omega)
      · refine LockB.read (gI C 40 s 0) (fun po hpo => cls po ?_ ?_ (fun _ => hpo) ?_ ?_ ?_) (fun M hM po hpo => mod M hM po ?_ ?_ (fun _ => hpo) ?_ ?_ ?_) <;> (intro y; omega)
      · refine LockB.read (((ls.filter (wOn C 1 s)).length : Nat) : Int) (fun po hpo => cls po ?_ ?_ ?_ (fun _ => hpo) ?_ ?_) (fun M hM po hpo => mod M hM po ?_ ?_ ?_ (fun _ => hpo) ?_ ?_) <;> (intro y; omega)
      · refine LockB.read (((ls.filter (wOn C 2 s)).length : Nat) : Int) (fun po hpo => cls po ?_ ?_ ?_ ?_ (fun _ => hpo) ?_) (fun M hM po hpo => mod M hM po ?_ ?_ ?_ ?_ (fun _ => hpo) ?_) <;> (intro y; omega)
    · refine LockB.read (-1) (fun po hpo => ?_) (fun M hM po hpo => ?_)
      · unfold wp_X7_queueOf wp_X7_queueIn
        rw [sp_isWithin hf n11]
        exact ⟨fun _ => sp_thingIn_none (b := 0) (Or.inl ⟨rfl, rfl⟩) hx h.rootT hn ⟨fun _ => ⟨fun _ => hpo, fun a z => (by cases z)⟩, fun a z => (by cases z)⟩, fun z => absurd hok ((ez_bI _).mp z)⟩
      · unfold wp_X8_queueOf
        rw [hf, hx, sp_in (nmL_of hf) l0 l11]
        refine ⟨fun _ => ?_, fun z => absurd hok ((ez_bI _).mp z)⟩
        rw [sp_in (nmL_of hx) l0 l11]
        refine ⟨fun _ => hpo, fun z => ?_⟩
        have z := (nz_bI _).mp z
        refine ⟨by omega, fun z2 => ?_, fun _ => hpo⟩
        rw [nm_gI] at z2
        exact absurd (hM.hre_of (by omega) z2) (by have := hn x.toNat (by omega) (by omega); rw [Nat.zero_add] at this; exact this)
  · refine LockB.read (-4) (fun po hpo => ?_) (fun M hM po hpo => ?_)
    · unfold wp_X7_queueOf
      rw [sp_isWithin hf n11]
      exact ⟨fun z => absurd ((nz_bI _).mp z) hok, fun _ => hpo⟩
    · unfold wp_X8_queueOf
      rw [hf, sp_in (nmL_of hf) l0 l11]
      exact ⟨fun z => absurd ((nz_bI _).mp z) hok, fun _ => hpo⟩
