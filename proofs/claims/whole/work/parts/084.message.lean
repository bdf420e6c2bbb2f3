/-! LAYER 2: message -/
theorem op_message {k n : Nat} {ls : List Nat} {C M0 : St} {x y f : Int} (hx : nm x = x) (hy : nm y = y) (hf : nm f = f) (h : SimB k n ls none none C M0) : LockB k k n ls (wp_X7_message x y f C) C (fun M => wp_X8_message x y f M) := by
  have l0 : nmL 0 = 0 := by decide
  have l2 : nmL 2 = 2 := by decide
  have l11 : nmL 11 = 11 := by decide
  have n1 : nm 1 = 1 := by decide
  rcases th_or C 0 x with ⟨s, hs, rfl, hh⟩ | hn
  · rw [Nat.zero_add] at hh
    have es : ((s : Int)).toNat = s := by omega
    have i12 : (0 : Int) ≤ s ∧ (s : Int) < 12 := by omega
    have i11 : (0 : Int) ≤ s ∧ (s : Int) ≤ 11 := by omega
    obtain ⟨-, q2, q3, -, -, -, -, q8⟩ := h.2.2.2.2.2.2.2.2.2.1 s hs hh
    have toRow : ∀ po : Int → St → Prop, wp_X3_messageAt s y C (fun o102 s103 => wp_X7_message_22 po f o102 s103) → wp_X7_message (s : Int) y f C po := by
      intro po hpo
      unfold wp_X7_message wp_X7_queueIn
      refine sp_thingIn_some (b := 0) (Or.inl ⟨rfl, rfl⟩) hs (by rw [Nat.zero_add]; exact hh) ⟨fun z => (by cases z), ?_⟩
      rintro _ ⟨rfl⟩
      rw [Nat.zero_add]
      refine ⟨hs, fun z => (by cases z), ?_⟩
      rintro _ ⟨rfl⟩
      exact ⟨hs, hpo⟩
    have toSlot : ∀ M, SimB k n ls none none C M → ∀ (po : Int → St → Prop), ((0 ≤ y ∧ y < gI C 40 s 0) → (f ≠ 0 → (f ≠ 1 → (0 ≤ nm ((40 * (s : Int)) + y) ∧ nm ((40 * (s : Int)) + y) < 480) ∧ wp_X8_in f 2 (nm ((gI M 110 36 (nm ((40 * (s : Int)) + y)).toNat) + 1)) M (fun r103 s103 => (nm r103 = 0 → po (-1) s103) ∧
 (nm r103 ≠ 0 → (0 ≤ nm (((64 * ((40 * (s : Int)) + y)) + f) - 2) ∧ nm (((64 * ((40 * (s : Int)) + y)) + f) - 2) < 30720) ∧ po (nm (gI s103 110 37 (nm (((64 * ((40 * (s : Int)) + y)) + f) - 2)).toNat)) s103))) ∧
 (f = 1 → (0 ≤ nm ((40 * (s : Int)) + y) ∧ nm ((40 * (s : Int)) + y) < 480) ∧ po (nm (gI M 110 36 (nm ((40 * (s : Int)) + y)).toNat)) M)) ∧
 (f = 0 → (0 ≤ nm ((40 * (s : Int)) + y) ∧ nm ((40 * (s : Int)) + y) < 480) ∧ po (gL M 110 35 (nm ((40 * (s : Int)) + y)).toNat) M)) → (¬ (0 ≤ y ∧ y < gI C 40 s 0) → po (-1) M) → wp_X8_message (s : Int) y f M po := by
      intro M hM po h1 h0
      obtain ⟨q1, -⟩ := hM.2.2.2.2.2.2.2.2.2.1 s hs hh
      unfold wp_X8_message
      rw [hx, es, hy, hf, n1, sp_in (nmL_of hx) l0 l11]
      refine ⟨fun z => absurd i11 ((ez_bI _).mp z), fun _ => ⟨by omega, fun z => ?_, fun _ => ⟨i12, ?_⟩⟩⟩
      · rw [nm_gI, hM.is_of (by omega) hh] at z; exact absurd z (by decide)
      · rw [← q1, show nm (gI C 40 s 0 - 1) = gI C 40 s 0 - 1 from nm_id (by omega), sp_in (nmL_of hy) l0 (nmL_id (by omega))]
        refine ⟨fun z => h1 (by have := (nz_bI _).mp z; omega), fun z => h0 (by have := (ez_bI _).mp z; omega)⟩
    by_cases hin : 0 ≤ y ∧ y < gI C 40 s 0
    · obtain ⟨j, rfl⟩ : ∃ j : Nat, y = j := ⟨y.toNat, by omega⟩
      obtain ⟨u, hu, -, -, -, m4, m5, -⟩ := q8 j hin.2
      have ej : ((j : Int)).toNat = j := by omega
      have nx : nm (40 * (s : Int) + j) = ((40 * s + j : Nat) : Int) := by rw [nm_id (by omega)]; omega
      have tx : (((40 * s + j : Nat) : Int)).toNat = 40 * s + j := by omega
      have msg : ∀ M, SimB k n ls none none C M → msgOK C M u (40 * s + j) := fun M hM => by
        obtain ⟨v, hv, hm⟩ := (hM.2.2.2.2.2.2.2.2.2.1 s hs hh).2.2.2.2.2.2.2 j hin.2
        rw [hu] at hv; cases hv; exact hm
      have cls : ∀ po : Int → St → Prop, wp_X7_message_22 po f (some u) C → wp_X7_message (s : Int) (j : Int) f C po := by
        intro po hpo
        refine toRow po ?_
        unfold wp_X3_messageAt
        rw [hy, nm_gI, ej, show nm 40 = 40 by decide]
        refine ⟨fun z => absurd z (by omega), fun _ => ⟨hs, fun z => absurd z (by omega), fun _ => ⟨fun z => absurd z (by omega), fun _ => ⟨by omega, ?_⟩⟩⟩⟩
        rintro _ rfl
        rw [hu]
        exact hpo
      have toMod : ∀ M, SimB k n ls none none C M → ∀ (po : Int → St → Prop), (f = 0 → po (gL C 11 u 0) M) → (f = 1 → po (gI C 17 u 0) M) → ((2 ≤ f ∧ f < gI C 17 u 0 + 2) → po (gI C 18 u (f - 2).toNat) M) → ((f < 0 ∨ gI C 17 u 0 + 2 ≤ f) → po (-1) M) → wp_X8_message (s : Int) (j : Int) f M po := by
        intro M hM po g0 g1 g2 g3
        have hm := msg M hM
        refine toSlot M hM po (fun _ => ?_) (fun z => absurd hin z)
        rw [nx, tx, ← hm.1, ← hm.2.2.1, nm_gI, show nm (gI C 17 u 0 + 1) = gI C 17 u 0 + 1 from nm_id (by omega), sp_in (nmL_of hf) l2 (nmL_id (by omega))]
        refine ⟨fun z0 => ⟨fun z1 => ⟨by omega, fun z => g3 (by have := (ez_bI _).mp z; omega), fun z => ?_⟩, fun z => ⟨by omega, g1 z⟩⟩, fun z => ⟨by omega, g0 z⟩⟩
        have z := (nz_bI _).mp z
        have e1 : nm (64 * (40 * (s : Int) + j) + f - 2) = ((64 * (40 * s + j) + (f - 2).toNat : Nat) : Int) := by rw [nm_id (by omega)]; omega
        rw [e1, show (((64 * (40 * s + j) + (f - 2).toNat : Nat) : Int)).toNat = 64 * (40 * s + j) + (f - 2).toNat by omega, nm_gI, ← hm.2.2.2.2.2 (f - 2).toNat (by omega)]
        exact ⟨by omega, g2 ⟨z.1, by omega⟩⟩
      have toCls : ∀ (po : Int → St → Prop), (f = 0 → po (gL C 11 u 0) C) → (f = 1 → po (gI C 17 u 0) C) → ((2 ≤ f ∧ f < gI C 17 u 0 + 2) → po (gI C 18 u (f - 2).toNat) C) → ((f < 0 ∨ gI C 17 u 0 + 2 ≤ f) → po (-1) C) → wp_X7_message (s : Int) (j : Int) f C po := by
        intro po g0 g1 g2 g3
        refine cls po ?_
        unfold wp_X7_message_22
        refine ⟨fun z => (by cases z), ?_⟩
        rintro _ ⟨rfl⟩
        rw [hf, n1, nm_gI]
        refine ⟨fun z => ⟨fun z0 => ⟨fun z1 => ?_, g1⟩, g0⟩, fun z => g3 (Or.inl z)⟩
        unfold wp_X1_byteAt
        rw [show nm (f - 2) = f - 2 from nm_id (by have := nm_rng f; rw [hf] at this; omega), nm_gI, show nm 64 = 64 by decide]
        refine ⟨fun z => by omega, fun _ => ⟨fun z => ?_, fun z => ⟨fun z => by omega, fun _ => ⟨by omega, ?_⟩⟩⟩⟩
        · dsimp only; rw [nm_m1]; exact g3 (Or.inr (by omega))
        · dsimp only; rw [nm_gI]; exact g2 (by omega)
      have cas : f = 0 ∨ f = 1 ∨ (2 ≤ f ∧ f < gI C 17 u 0 + 2) ∨ (f < 0 ∨ gI C 17 u 0 + 2 ≤ f) := by omega
      rcases cas with z | z | z | z
      · refine LockB.read (gL C 11 u 0) (fun po hpo => toCls po (fun _ => hpo) ?_ ?_ ?_) (fun M hM po hpo => toMod M hM po (fun _ => hpo) ?_ ?_ ?_) <;> (intro y; omega)
      · refine LockB.read (gI C 17 u 0) (fun po hpo => toCls po ?_ (fun _ => hpo) ?_ ?_) (fun M hM po hpo => toMod M hM po ?_ (fun _ => hpo) ?_ ?_) <;> (intro y; omega)
      · refine LockB.read (gI C 18 u (f - 2).toNat) (fun po hpo => toCls po ?_ ?_ (fun _ => hpo) ?_) (fun M hM po hpo => toMod M hM po ?_ ?_ (fun _ => hpo) ?_) <;> (intro y; omega)
      · refine LockB.read (-1) (fun po hpo => toCls po ?_ ?_ ?_ (fun _ => hpo)) (fun M hM po hpo => toMod M hM po ?_ ?_ ?_ (fun _ => hpo)) <;> (intro y; omega)
    · refine LockB.read (-1) (fun po hpo => toRow po ?_) (fun M hM po hpo => toSlot M hM po (fun z => absurd z hin) (fun _ => hpo))
      have fin : wp_X7_message_22 po f none C := by
        unfold wp_X7_message_22
        exact ⟨fun _ => hpo, fun a z => (by cases z)⟩
      unfold wp_X3_messageAt
      rw [hy, nm_gI]
      exact ⟨fun _ => fin, fun z => ⟨hs, fun _ => fin, fun z2 => absurd ⟨z, z2⟩ hin⟩⟩
  · refine LockB.read (-1) (fun po hpo => ?_) (fun M hM po hpo => ?_)
    · unfold wp_X7_message wp_X7_queueIn
      refine sp_thingIn_none (b := 0) (Or.inl ⟨rfl, rfl⟩) hx h.rootT hn ⟨fun _ => ⟨fun _ => ?_, fun a z => (by cases z)⟩, fun a z => (by cases z)⟩
      unfold wp_X7_message_22
      exact ⟨fun _ => hpo, fun a z => (by cases z)⟩
    · unfold wp_X8_message
      rw [hx, sp_in (nmL_of hx) l0 l11]
      refine ⟨fun _ => hpo, fun z => ?_⟩
      have z := (nz_bI _).mp z
      refine ⟨by omega, fun _ => hpo, fun z2 => ?_⟩
      rw [nm_gI] at z2
      exact absurd (hM.hre_of (by omega) z2) (by have := hn x.toNat (by omega) (by omega); rw [Nat.zero_add] at this; exact this)
