/-! LAYER 2: own -/
theorem n0 : nm 0 = 0 := by decide
theorem nz_bI (P : Prop) [Decidable P] : nm (bI P) ≠ 0 ↔ P := by rw [nm_bI]; unfold bI; split <;> simp_all
theorem ez_bI (P : Prop) [Decidable P] : nm (bI P) = 0 ↔ ¬ P := by rw [nm_bI, bI_0]
theorem SimB.rootT {k n : Nat} {ls : List Nat} {e e2 : Option Nat} {C M : St} (h : SimB k n ls e e2 C M) : rootT C := fun t ht => (h.2.2.2.2.2.2.2.2.1 t ht).1
theorem SimB.thing {k n : Nat} {ls : List Nat} {e e2 : Option Nat} {C M : St} (h : SimB k n ls e e2 C M) : ∀ t, t < 24 → thingOK k C M t := h.2.2.2.2.2.2.2.2.1
theorem SimB.hre_of {k n : Nat} {ls : List Nat} {e e2 : Option Nat} {C M : St} (h : SimB k n ls e e2 C M) {t : Nat} (ht : t < 24) (hi : gI M 110 24 t ≠ 0) : hre C t := by
  obtain ⟨a1, a2, a3, a4, a5, a6, a7⟩ := h.thing t ht
  rcases a1 with a1 | a1
  · exact absurd (a4 a1).1 hi
  · refine ⟨a1, fun z => hi (a6 a1 z).1⟩
theorem SimB.is_of {k n : Nat} {ls : List Nat} {e e2 : Option Nat} {C M : St} (h : SimB k n ls e e2 C M) {t : Nat} (ht : t < 24) (hi : hre C t) : gI M 110 24 t = 1 := ((h.thing t ht).2.2.2.2.2.2 hi).1
/-- an id's thing in both, or in neither -/
theorem SimB.id_facts {k n : Nat} {ls : List Nat} {e e2 : Option Nat} {C M : St} (h : SimB k n ls e e2 C M) {b t : Nat} {x : Int} (hb : b = 0 ∨ b = 12) (ht : idC C b t x) : t < 24 ∧ (0 ≤ x ∧ x % 12 = (t - b : Nat)) ∧ gI M 110 24 t ≠ 0 ∧ gI M 110 25 t = x / 12 := by
  obtain ⟨h1, h2, h3, h4⟩ := ht
  have ht : t < 24 := by omega
  obtain ⟨a1, a2, a3, a4, a5, a6, a7⟩ := h.thing t ht
  obtain ⟨b1, b2, b3, -⟩ := a7 h3
  rw [b3] at h4
  have e : (t % 12 : Nat) = t - b := by omega
  refine ⟨ht, ?_, by omega, by omega⟩
  omega
theorem SimB.id_none {k n : Nat} {ls : List Nat} {e e2 : Option Nat} {C M : St} (h : SimB k n ls e e2 C M) {b : Nat} {x : Int} (hb : b = 0 ∨ b = 12) (hn : ∀ t, ¬ idC C b t x) : ∀ t, b ≤ t → t < b + 12 → gI M 110 24 t ≠ 0 → 0 ≤ x → x % 12 = (t - b : Nat) → gI M 110 25 t = x / 12 → False := by
  intro t h1 h2 h3 h4 h5 h6
  have hh := h.hre_of (by omega) h3
  obtain ⟨b1, b2, b3, -⟩ := (h.thing t (by omega)).2.2.2.2.2.2 hh
  refine hn t ⟨h1, h2, hh, ?_⟩
  rw [b3]
  omega
theorem id_or (C : St) (b : Nat) (x : Int) : (∃ t, idC C b t x) ∨ ∀ t, ¬ idC C b t x := by
  rcases Classical.em (∃ t, idC C b t x) with h | h
  · exact Or.inl h
  · exact Or.inr (fun t z => h ⟨t, z⟩)
theorem mayCM {k n : Nat} {ls : List Nat} {e e2 : Option Nat} {C M : St} (h : SimB k n ls e e2 C M) {t p : Nat} (ht : t < 24) (hp : p < n) (hh : hre C t) : mayC C t p = mayN (gI M 110 1 p) (gI M 110 2 p) (gI M 110 27 t) (gI M 110 28 t) (gI M 110 29 t) (gI M 110 30 t) (gI M 110 31 t) := by
  obtain ⟨-, b2, b3, -⟩ := h.2.2.2.2.2.1 p hp
  obtain ⟨-, -, -, -, c5, c6, c7, c8, c9, -⟩ := (h.thing t ht).2.2.2.2.2.2 hh
  unfold mayC
  rw [b2, b3, c5, c6, c7, c8, c9]
theorem op_own {k n : Nat} {ls : List Nat} {C M0 : St} {x o d u g m : Int} (hx : nm x = x) (ho : nm o = o) (hd : nm d = d) (hu : nm u = u) (hg : nm g = g) (hm : nm m = m) (h : SimB k n ls none none C M0) : LockB k k n ls (wp_X7_own x o d u g m C) C (fun M => wp_X8_own x o d u g m M) := by
  delta wp_X7_own wp_X8_own
  refine caller_lock (ic := fun a s po => wp_X7_giveThing (some a) o d u g m s po) (Nat.le_refl _) hx h (fun p hp ex hf hw hnl => ?_)
  subst ex
  have hr := h.1
  have n99 : nm 99 = 99 := by decide
  have n511 : nm 511 = 511 := by decide
  have n1 : nm 1 = 1 := by decide
  have l0 : nmL 0 = 0 := by decide
  have l1 : nmL 1 = 1 := by decide
  have l99 : nmL 99 = 99 := by decide
  have l511 : nmL 511 = 511 := by decide
  have hp16 : p < 16 := by have := hr.1; omega
  by_cases hok : ((0 ≤ o ∧ o ≤ 1) ∧ (0 ≤ u ∧ u ≤ 99) ∧ (0 ≤ g ∧ g ≤ 99) ∧ 0 ≤ m ∧ m ≤ 511)
  · obtain ⟨k1, k2, k3, k4⟩ := hok
    obtain ⟨b, hb, eb, kk⟩ : ∃ b : Nat, (b = 0 ∨ b = 12) ∧ 12 * o = (b : Int) ∧ ((o = 0 ∧ b = 0) ∨ (o = 1 ∧ b = 12)) := by
      rcases (show o = 0 ∨ o = 1 by omega) with rfl | rfl
      · exact ⟨0, Or.inl rfl, by omega, Or.inl ⟨rfl, rfl⟩⟩
      · exact ⟨12, Or.inr rfl, by omega, Or.inr ⟨rfl, rfl⟩⟩
    -- the class, down to the thing
    have cls : ∀ (q : Option Nat) (po : Int → St → Prop), (∀ (cont : Option Nat → St → Prop), cont q C → wp_X7_thingOf o d C cont) → ((q = none → po (-5) C) ∧ (∀ a101, q = some a101 → wp_X5_isRuledBy a101 (some p) C (fun r103 s104 => (nm r103 ≠ 0 → ∀ s105, s105 = uI s104 35 a101 0 u → ∀ s106, s106 = uI s105 36 a101 0 g → ∀ s107, s107 = uI s106 39 a101 0 m → po 0 s107) ∧ (nm r103 = 0 → po (-6) s104)))) → wp_X7_giveThing (some p) o d u g m C po := by
      intro q po hq hpo
      unfold wp_X7_giveThing wp_X7_giveThing_25
      rw [sp_isWithin hu n99]
      refine ⟨fun z => absurd k2 ((ez_bI _).mp z), fun _ => ?_⟩
      rw [sp_isWithin hg n99]
      refine ⟨fun z => absurd k3 ((ez_bI _).mp z), fun _ => ?_⟩
      rw [sp_isWithin ho n1]
      refine ⟨fun z => absurd k1 ((ez_bI _).mp z), fun _ => ⟨fun z => absurd z (by decide), fun _ => ?_⟩⟩
      rw [sp_isWithin hm n511]
      refine ⟨fun _ => hq _ hpo, fun z => absurd k4 ((ez_bI _).mp z)⟩
    have hkb : ∀ (q : Option Nat), (∀ kk, kb kk b → ∀ (cont : Option Nat → St → Prop), cont q C → wp_X7_thingById kk (some 0) d C cont) → ∀ (cont : Option Nat → St → Prop), cont q C → wp_X7_thingOf o d C cont := by
      intro q hq cont hc
      unfold wp_X7_thingOf
      rw [ho]
      rcases kk with ⟨rfl, rfl⟩ | ⟨rfl, rfl⟩
      · exact ⟨fun z => absurd rfl z, fun _ => hq 2 (Or.inl ⟨rfl, rfl⟩) _ hc⟩
      · exact ⟨fun _ => hq 3 (Or.inr ⟨rfl, rfl⟩) _ hc, fun z => absurd z (by decide)⟩
    rcases id_or C b d with ⟨t, ht⟩ | hn
    · obtain ⟨ht24, hid, -, -⟩ := h.id_facts hb ht
      have q1 := hkb (some t) (fun kk hkk cont hc => sp_thingById_some hkk hd ht hid hc)
      have et : ((t : Int)).toNat = t := by omega
      have ntt : nm (t : Int) = t := nm_nat (n := 24) ht24 (by omega)
      have nm1 : nm (-1) = -1 := by decide
      by_cases hru : rulC C t p
      · refine ⟨0, uI (uI (uI C 35 t 0 u) 36 t 0 g) 39 t 0 m, fun po hpo => cls _ po q1 ⟨fun z => (by cases z), ?_⟩, ((MEq.rf.uI _ _ _ _ (by decide)).uI _ _ _ _ (by decide)).uI _ _ _ _ (by decide), fun M hM => ?_⟩
        · rintro _ ⟨rfl⟩
          refine sp_isRuledBy (fun _ => ⟨fun _ => ?_, fun z => absurd z (by decide)⟩) (fun z => absurd hru z)
          rintro _ rfl _ rfl _ rfl
          exact hpo
        · obtain ⟨-, hid2, g1, g2⟩ := hM.id_facts hb ht
          have hth := hM.thing t ht24
          obtain ⟨-, -, -, -, c5, c6, c7, -⟩ := hth.2.2.2.2.2.2 ht.2.2.1
          have hus := (hM.2.2.2.2.2.1 p hp).2.1
          refine ⟨uI (uI (uI (uI M 110 27 t u) 110 28 t g) 110 31 t m) 110 4 p 0, fun po hpo => ?_, (((CEq.rf.uI _ _ _ _ (by decide)).uI _ _ _ _ (by decide)).uI _ _ _ _ (by decide)).uI _ _ _ _ (by decide), n, ls, ?_⟩
          · dsimp only
            rw [ho, hu, hg, hm, sp_in (nmL_of ho) l0 l1]
            refine ⟨fun z => absurd k1 ((ez_bI _).mp z), fun _ => ?_⟩
            rw [sp_in (nmL_of hu) l0 l99]
            refine ⟨fun z => absurd k2 ((ez_bI _).mp z), fun _ => ?_⟩
            rw [sp_in (nmL_of hg) l0 l99]
            refine ⟨fun z => absurd k3 ((ez_bI _).mp z), fun _ => ?_⟩
            rw [sp_in (nmL_of hm) l0 l511]
            refine ⟨fun _ => ?_, fun z => absurd k4 ((ez_bI _).mp z)⟩
            rw [eb]
            refine sp_slotOf_some hb hd ht.1 ht.2.1 g1 hid2.1 hid2.2 g2 ⟨fun _ => ?_, fun z => absurd z (by rw [ntt, nm1]; omega)⟩
            refine sp_rules hp16 ht24 hus c5 c7 (fun _ => ⟨fun _ => ?_, fun z => absurd z (by decide)⟩) (fun z => absurd hru z)
            rw [ntt, et]
            refine ⟨⟨by omega, by omega⟩, ?_⟩
            rintro _ rfl
            refine ⟨⟨by omega, by omega⟩, ?_⟩
            rintro _ rfl
            refine ⟨⟨by omega, by omega⟩, ?_⟩
            rintro _ rfl
            exact sp_tells hp16 hpo
          · refine SimB.tell (SimB.own hM (((AgC.rf.uI _ _ _ (by decide)).uI _ _ _ (by decide)).uI _ _ _ (by decide)) (((AgM.rf.uI _ _ (by decide)).uI _ _ (by decide)).uI _ _ (by decide)) (fun s hs => ?_)) (Or.inl rfl)
            obtain ⟨a1, a2, a3, a4, a5, a6, a7⟩ := hM.thing s hs
            refine ⟨a1, ?_, ?_, ?_, ?_, ?_, ?_⟩
            · simpa [gI_uI] using a2
            · simpa [gI_uI] using a3
            · simpa [gI_uI, rt, gR_uI] using a4
            · simpa [gI_uI, rt, gR_uI] using a5
            · simpa [gI_uI, rt, gR_uI] using a6
            · intro hh
              have hh' : hre C s := by simpa [hre, rt, gI_uI, gR_uI] using hh
              obtain ⟨b1, b2, b3, b4, b5, b6, b7, b8, b9, b10, b11⟩ := a7 hh'
              by_cases hst : s = t
              · subst hst
                simp [gI_uI, hu, hg, hm, k4]
                exact ⟨b1, b2, b3, b4, b7, b8⟩
              · simp [gI_uI, hst]
                exact ⟨b1, b2, b3, b4, b5, b6, b7, b8, b9, b10, b11⟩
      · refine MainL.refuse (-6) (fun po hpo => cls _ po q1 ⟨fun z => (by cases z), ?_⟩) (fun M hM po hpo => ?_)
        · rintro _ ⟨rfl⟩
          exact sp_isRuledBy (fun z => absurd z hru) (fun _ => ⟨fun z => absurd n0 z, fun _ => hpo⟩)
        · obtain ⟨-, hid2, g1, g2⟩ := hM.id_facts hb ht
          obtain ⟨-, -, -, -, c5, c6, c7, -⟩ := (hM.thing t ht24).2.2.2.2.2.2 ht.2.2.1
          have hus := (hM.2.2.2.2.2.1 p hp).2.1
          rw [ho, hu, hg, hm, sp_in (nmL_of ho) l0 l1]
          refine ⟨fun z => absurd k1 ((ez_bI _).mp z), fun _ => ?_⟩
          rw [sp_in (nmL_of hu) l0 l99]
          refine ⟨fun z => absurd k2 ((ez_bI _).mp z), fun _ => ?_⟩
          rw [sp_in (nmL_of hg) l0 l99]
          refine ⟨fun z => absurd k3 ((ez_bI _).mp z), fun _ => ?_⟩
          rw [sp_in (nmL_of hm) l0 l511]
          refine ⟨fun _ => ?_, fun z => absurd k4 ((ez_bI _).mp z)⟩
          rw [eb]
          refine sp_slotOf_some hb hd ht.1 ht.2.1 g1 hid2.1 hid2.2 g2 ⟨fun _ => ?_, fun z => absurd z (by rw [ntt, nm1]; omega)⟩
          exact sp_rules hp16 ht24 hus c5 c7 (fun z => absurd z hru) (fun _ => ⟨fun z => absurd n0 z, fun _ => sp_tells hp16 hpo⟩)
    · refine MainL.refuse (-5) (fun po hpo => cls none po (hkb none (fun kk hkk cont hc => sp_thingById_none hkk hd h.rootT hn hc)) ⟨fun _ => hpo, fun a z => (by cases z)⟩) (fun M hM po hpo => ?_)
      rw [ho, hu, hg, hm, sp_in (nmL_of ho) l0 l1]
      refine ⟨fun z => absurd k1 ((ez_bI _).mp z), fun _ => ?_⟩
      rw [sp_in (nmL_of hu) l0 l99]
      refine ⟨fun z => absurd k2 ((ez_bI _).mp z), fun _ => ?_⟩
      rw [sp_in (nmL_of hg) l0 l99]
      refine ⟨fun z => absurd k3 ((ez_bI _).mp z), fun _ => ?_⟩
      rw [sp_in (nmL_of hm) l0 l511]
      refine ⟨fun _ => ?_, fun z => absurd k4 ((ez_bI _).mp z)⟩
      rw [eb]
      exact sp_slotOf_none hb hd (hM.id_none hb hn) ⟨fun z => absurd rfl z, fun _ => sp_tells hp16 hpo⟩
  · refine MainL.refuse (-4) (fun po hpo => ?_) (fun M hM po hpo => ?_)
    · unfold wp_X7_giveThing wp_X7_giveThing_25
      have fin : ∀ y : Int, (nm y ≠ 0 → (0 ≤ u ∧ u ≤ 99) ∧ (0 ≤ g ∧ g ≤ 99)) → wp_X7_giveThing_25 po (some p) o d u g m y C := by
        intro y hy
        unfold wp_X7_giveThing_25
        rw [sp_isWithin ho n1]
        refine ⟨fun _ => hpo, fun z => ⟨fun _ => hpo, fun z2 => ?_⟩⟩
        rw [sp_isWithin hm n511]
        refine ⟨fun z3 => ?_, fun _ => hpo⟩
        exact absurd ⟨(nz_bI _).mp z, (hy z2).1, (hy z2).2, (nz_bI _).mp z3⟩ hok
      rw [sp_isWithin hu n99]
      refine ⟨fun _ => fin 0 (fun z => absurd n0 z), fun z => ?_⟩
      rw [sp_isWithin hg n99]
      exact ⟨fun _ => fin 0 (fun z => absurd n0 z), fun z2 => fin 1 (fun _ => ⟨(nz_bI _).mp z, (nz_bI _).mp z2⟩)⟩
    · rw [ho, hu, hg, hm, sp_in (nmL_of ho) l0 l1]
      refine ⟨fun _ => sp_tells hp16 hpo, fun z1 => ?_⟩
      rw [sp_in (nmL_of hu) l0 l99]
      refine ⟨fun _ => sp_tells hp16 hpo, fun z2 => ?_⟩
      rw [sp_in (nmL_of hg) l0 l99]
      refine ⟨fun _ => sp_tells hp16 hpo, fun z3 => ?_⟩
      rw [sp_in (nmL_of hm) l0 l511]
      refine ⟨fun z4 => ?_, fun _ => sp_tells hp16 hpo⟩
      exact absurd ⟨(nz_bI _).mp z1, (nz_bI _).mp z2, (nz_bI _).mp z3, (nz_bI _).mp z4⟩ hok
