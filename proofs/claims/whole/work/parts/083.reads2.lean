/-! LAYER 2: setOf, undo, message -/
theorem sp_setIn_some {C : St} {s : Nat} {po : Option Nat → St → Prop} (hs : s < 12) (hh : hre C (12 + s)) (h : po (some (12 + s)) C) : wp_X7_setIn (s : Int) C po := by
  unfold wp_X7_setIn
  refine sp_thingIn_some (b := 12) (Or.inr ⟨rfl, rfl⟩) hs hh ⟨fun z => (by cases z), ?_⟩
  rintro _ ⟨rfl⟩
  exact ⟨by omega, h⟩
theorem sp_setIn_none {C : St} {x : Int} {po : Option Nat → St → Prop} (hx : nm x = x) (hr : rootT C) (hn : ∀ s : Nat, s < 12 → x = s → ¬ hre C (12 + s)) (h : po none C) : wp_X7_setIn x C po := by
  unfold wp_X7_setIn
  exact sp_thingIn_none (b := 12) (Or.inr ⟨rfl, rfl⟩) hx hr hn ⟨fun _ => h, fun a z => (by cases z)⟩
theorem op_setOf {k n : Nat} {ls : List Nat} {C M0 : St} {x f : Int} (hx : nm x = x) (hf : nm f = f) (h : SimB k n ls none none C M0) : LockB k k n ls (wp_X7_setOf x f C) C (fun M => wp_X8_setOf x f M) := by
  have n8 : nm 8 = 8 := by decide
  have n7 : nm 7 = 7 := by decide
  have l0 : nmL 0 = 0 := by decide
  have l8 : nmL 8 = 8 := by decide
  have l11 : nmL 11 = 11 := by decide
  by_cases hok : 0 ≤ f ∧ f ≤ 8
  · rcases th_or C 12 x with ⟨s, hs, rfl, hh⟩ | hn
    · have es : ((s : Int)).toNat = s := by omega
      have i12 : (0 : Int) ≤ s ∧ (s : Int) < 12 := by omega
      have i11 : (0 : Int) ≤ s ∧ (s : Int) ≤ 11 := by omega
      have e12 : 12 + (s : Int) = ((12 + s : Nat) : Int) := by omega
      have n12 : nm ((12 + s : Nat) : Int) = ((12 + s : Nat) : Int) := nm_nat (n := 24) (by omega) (by omega)
      have t12 : (((12 + s : Nat) : Int)).toNat = 12 + s := by omega
      have cls : ∀ po : Int → St → Prop, (f = 7 → po (gI C 45 (12 + s) 0) C) → (f = 8 → po (((ls.filter (wOn C 3 (12 + s))).length : Nat) : Int) C) → (f ≤ 6 → po (gI C (33 + f.toNat) (12 + s) 0) C) → wp_X7_setOf (s : Int) f C po := by
        intro po h7 h8 h6
        unfold wp_X7_setOf
        rw [sp_isWithin hf n8]
        refine ⟨fun _ => sp_setIn_some hs hh ⟨fun z => (by cases z), ?_⟩, fun z => absurd hok ((ez_bI _).mp z)⟩
        rintro _ ⟨rfl⟩
        rw [hf, n7, n8]
        refine ⟨fun z => ⟨fun z2 => ⟨by omega, sp_fact ⟨hok.1, by omega⟩ (h6 (by omega))⟩, fun z2 => ⟨ls.length + 1, ?_⟩⟩, fun z => ⟨by omega, h7 z⟩⟩
        exact sp_waitersOn h.2.1 (by decide) (h8 z2) ls.length 0 (by omega)
      have mod : ∀ M, SimB k n ls none none C M → ∀ po : Int → St → Prop, (f = 7 → po (gI C 45 (12 + s) 0) M) → (f = 8 → po (((ls.filter (wOn C 3 (12 + s))).length : Nat) : Int) M) → (f ≤ 6 → po (gI C (33 + f.toNat) (12 + s) 0) M) → wp_X8_setOf (s : Int) f M po := by
        intro M hM po h7 h8 h6
        obtain ⟨q1, -⟩ := hM.2.2.2.2.2.2.2.2.2.2.1 s hs hh
        unfold wp_X8_setOf
        rw [hf, hx, es, e12, n12, t12, n7, n8, sp_in (nmL_of hf) l0 l8]
        refine ⟨fun _ => ?_, fun z => absurd hok ((ez_bI _).mp z)⟩
        rw [sp_in (nmL_of hx) l0 l11]
        refine ⟨fun z => absurd i11 ((ez_bI _).mp z), fun _ => ⟨by omega, fun _ => ?_, fun z => ?_⟩⟩
        · refine ⟨fun z => ⟨fun z2 => sp_thing hM (by omega) hh ⟨hok.1, by omega⟩ (h6 (by omega)), fun z2 => ⟨n + 1, ?_⟩⟩, fun z => ⟨i12, by rw [← q1]; exact h7 z⟩⟩
          have h8 := h8 z2
          rw [waiters_CM hM hs (Or.inr ⟨rfl, rfl⟩)] at h8
          exact sp_waiting hM.1.2.2.1 hM.1.1 (by decide) hx h8 n 0 (by omega)
        · rw [nm_gI, hM.is_of (by omega) hh] at z; exact absurd z (by decide)
      have cas : f ≤ 6 ∨ f = 7 ∨ f = 8 := by omega
      rcases cas with z | z | z
      · refine LockB.read (gI C (33 + f.toNat) (12 + s) 0) (fun po hpo => cls po ?_ ?_ (fun _ => hpo)) (fun M hM po hpo => mod M hM po ?_ ?_ (fun _ => hpo)) <;> (intro y; omega)
      · refine LockB.read (gI C 45 (12 + s) 0) (fun po hpo => cls po (fun _ => hpo) ?_ ?_) (fun M hM po hpo => mod M hM po (fun _ => hpo) ?_ ?_) <;> (intro y; omega)
      · refine LockB.read (((ls.filter (wOn C 3 (12 + s))).length : Nat) : Int) (fun po hpo => cls po ?_ (fun _ => hpo) ?_) (fun M hM po hpo => mod M hM po ?_ (fun _ => hpo) ?_) <;> (intro y; omega)
    · refine LockB.read (-1) (fun po hpo => ?_) (fun M hM po hpo => ?_)
      · unfold wp_X7_setOf
        rw [sp_isWithin hf n8]
        exact ⟨fun _ => sp_setIn_none hx h.rootT hn ⟨fun _ => hpo, fun a z => (by cases z)⟩, fun z => absurd hok ((ez_bI _).mp z)⟩
      · unfold wp_X8_setOf
        rw [hf, hx, sp_in (nmL_of hf) l0 l8]
        refine ⟨fun _ => ?_, fun z => absurd hok ((ez_bI _).mp z)⟩
        rw [sp_in (nmL_of hx) l0 l11]
        refine ⟨fun _ => hpo, fun z => ?_⟩
        have z := (nz_bI _).mp z
        have e : nm (12 + x) = 12 + x := nm_id (by omega)
        rw [e]
        refine ⟨by omega, fun z2 => ?_, fun _ => hpo⟩
        rw [nm_gI, show (12 + x).toNat = 12 + x.toNat by omega] at z2
        exact absurd (hM.hre_of (by omega) z2) (hn x.toNat (by omega) (by omega))
  · refine LockB.read (-4) (fun po hpo => ?_) (fun M hM po hpo => ?_)
    · unfold wp_X7_setOf
      rw [sp_isWithin hf n8]
      exact ⟨fun z => absurd ((nz_bI _).mp z) hok, fun _ => hpo⟩
    · unfold wp_X8_setOf
      rw [hf, sp_in (nmL_of hf) l0 l8]
      exact ⟨fun z => absurd ((nz_bI _).mp z) hok, fun _ => hpo⟩
theorem sp_hasCounter {C : St} {t : Nat} {c : Int} {po : Int → St → Prop} (ht : 12 ≤ t) (hc : nm c = c) (h45 : gI C 45 t 0 ≤ 8) (h1 : 0 ≤ c ∧ c < gI C 45 t 0 → po 1 C) (h0 : ¬ (0 ≤ c ∧ c < gI C 45 t 0) → po 0 C) : wp_X0_hasCounter t c C po := by
  unfold wp_X0_hasCounter
  rw [hc, nm_gI, show nm 8 = 8 by decide]
  exact ⟨fun z => h0 (by omega), fun z => ⟨ht, fun z2 => h0 (by omega), fun z2 => ⟨fun z3 => by omega, fun _ => h1 ⟨z, z2⟩⟩⟩⟩
theorem op_undo {k n : Nat} {ls : List Nat} {C M0 : St} {x d c : Int} (hx : nm x = x) (hd : nm d = d) (hc : nm c = c) (h : SimB k n ls none none C M0) : LockB k k n ls (wp_X7_undo x d c C) C (fun M => wp_X8_undo x d c M) := by
  have hr := h.1
  have n15 : nm 15 = 15 := by decide
  have l0 : nmL 0 = 0 := by decide
  have l11 : nmL 11 = 11 := by decide
  rcases th_or C 12 d with ⟨s, hs, rfl, hh⟩ | hn
  · have es : ((s : Int)).toNat = s := by omega
    have i12 : (0 : Int) ≤ s ∧ (s : Int) < 12 := by omega
    have i11 : (0 : Int) ≤ s ∧ (s : Int) ≤ 11 := by omega
    have e12 : 12 + (s : Int) = ((12 + s : Nat) : Int) := by omega
    have n12 : nm ((12 + s : Nat) : Int) = ((12 + s : Nat) : Int) := nm_nat (n := 24) (by omega) (by omega)
    have t12 : (((12 + s : Nat) : Int)).toNat = 12 + s := by omega
    obtain ⟨-, b1, b8, -⟩ := h.2.2.2.2.2.2.2.2.2.2.1 s hs hh
    rcases proc_or x n with ⟨p, hp, rfl⟩ | hp
    · have hp16 : p < 16 := by have := hr.1; omega
      have g10 : gI C 10 p 0 = p := (h.2.2.2.2.2.1 p hp).1
      have i1 : (0 : Int) ≤ p ∧ (p : Int) < n := by omega
      have ep : ((p : Int)).toNat = p := by omega
      have cls : ∀ po : Int → St → Prop, (0 ≤ c ∧ c < gI C 45 (12 + s) 0 → po (gI C 48 (12 + s) (8 * p + c.toNat)) C) → (¬ (0 ≤ c ∧ c < gI C 45 (12 + s) 0) → po 0 C) → wp_X7_undo (p : Int) (s : Int) c C po := by
        intro po h1 h0
        unfold wp_X7_undo
        rw [sp_processAt hx hr.1 hr.2.2.2, if_pos i1, ep]
        refine sp_setIn_some hs hh ⟨fun z => (by cases z), ?_⟩
        rintro _ ⟨rfl⟩
        refine ⟨fun z => (by cases z), ?_⟩
        rintro _ ⟨rfl⟩
        unfold wp_X0_undoOf
        rw [g10]
        refine ⟨by omega, by omega, sp_hasCounter (by omega) hc b8 (fun z => ⟨fun y => absurd y (by decide), fun _ => ?_⟩) (fun z => ⟨fun _ => h0 z, fun y => absurd n0 y⟩)⟩
        rw [sp_isWithin hx n15]
        have e1 : nm ((p : Int) * 8 + c) = ((8 * p + c.toNat : Nat) : Int) := by rw [nm_id (by omega)]; omega
        refine ⟨fun y => absurd (by omega : 0 ≤ (p : Int) ∧ (p : Int) ≤ 15) ((ez_bI _).mp y), fun _ => ?_⟩
        rw [e1, show (((8 * p + c.toNat : Nat) : Int)).toNat = 8 * p + c.toNat by omega]
        exact ⟨by omega, h1 z⟩
      have mod : ∀ M, SimB k n ls none none C M → ∀ po : Int → St → Prop, (0 ≤ c ∧ c < gI C 45 (12 + s) 0 → po (gI C 48 (12 + s) (8 * p + c.toNat)) M) → (¬ (0 ≤ c ∧ c < gI C 45 (12 + s) 0) → po 0 M) → wp_X8_undo (p : Int) (s : Int) c M po := by
        intro M hM po h1 h0
        obtain ⟨q1, q2, q3, q4⟩ := hM.2.2.2.2.2.2.2.2.2.2.1 s hs hh
        have hm := hM.1
        unfold wp_X8_undo
        rw [sp_isProcess hx hm.1 hm.2.2.1, hd, es, e12, n12, t12, hc]
        refine ⟨fun z => absurd i1 ((ez_bI _).mp z), fun _ => ?_⟩
        rw [sp_in (nmL_of hd) l0 l11]
        refine ⟨fun z => absurd i11 ((ez_bI _).mp z), fun _ => ⟨by omega, fun z => ?_, fun _ => ⟨i12, ?_⟩⟩⟩
        · rw [nm_gI, hM.is_of (by omega) hh] at z; exact absurd z (by decide)
        · rw [← q1, show nm (gI C 45 (12 + s) 0 - 1) = gI C 45 (12 + s) 0 - 1 from nm_id (by omega), sp_in (nmL_of hc) l0 (nmL_id (by omega))]
          refine ⟨fun z => ?_, fun z => h0 (by have := (ez_bI _).mp z; omega)⟩
          have z := (nz_bI _).mp z
          have e1 : nm (96 * (p : Int) + 8 * (s : Int) + c) = ((96 * p + (8 * s + c.toNat) : Nat) : Int) := by rw [nm_id (by omega)]; omega
          rw [e1, show (((96 * p + (8 * s + c.toNat) : Nat) : Int)).toNat = 96 * p + (8 * s + c.toNat) by omega]
          refine ⟨by omega, ?_⟩
          have := ((q4 c.toNat (by omega)).2.2.2.2 p hp16).1
          rw [← this]
          exact h1 ⟨z.1, by omega⟩
      by_cases hcc : 0 ≤ c ∧ c < gI C 45 (12 + s) 0
      · exact LockB.read (gI C 48 (12 + s) (8 * p + c.toNat)) (fun po hpo => cls po (fun _ => hpo) (fun z => absurd hcc z)) (fun M hM po hpo => mod M hM po (fun _ => hpo) (fun z => absurd hcc z))
      · exact LockB.read 0 (fun po hpo => cls po (fun z => absurd z hcc) (fun _ => hpo)) (fun M hM po hpo => mod M hM po (fun z => absurd z hcc) (fun _ => hpo))
    · refine LockB.read 0 (fun po hpo => ?_) (fun M hM po hpo => ?_)
      · unfold wp_X7_undo
        rw [sp_processAt hx hr.1 hr.2.2.2, if_neg hp]
        exact sp_setIn_some hs hh ⟨fun _ => hpo, fun a z => (by cases z)⟩
      · have hm := hM.1
        unfold wp_X8_undo
        rw [sp_isProcess hx hm.1 hm.2.2.1]
        exact ⟨fun _ => hpo, fun z => absurd ((nz_bI _).mp z) hp⟩
  · refine LockB.read 0 (fun po hpo => ?_) (fun M hM po hpo => ?_)
    · unfold wp_X7_undo
      rw [sp_processAt hx hr.1 hr.2.2.2]
      exact sp_setIn_none hd h.rootT hn ⟨fun _ => hpo, fun a _ => ⟨fun _ => hpo, fun b z => (by cases z)⟩⟩
    · have hm := hM.1
      unfold wp_X8_undo
      rw [sp_isProcess hx hm.1 hm.2.2.1]
      refine ⟨fun _ => hpo, fun _ => ?_⟩
      rw [hd, sp_in (nmL_of hd) l0 l11]
      refine ⟨fun _ => hpo, fun z => ?_⟩
      have z := (nz_bI _).mp z
      have e : nm (12 + d) = 12 + d := nm_id (by omega)
      rw [e]
      refine ⟨by omega, fun _ => hpo, fun z2 => ?_⟩
      rw [nm_gI, show (12 + d).toNat = 12 + d.toNat by omega] at z2
      exact absurd (hM.hre_of (by omega) z2) (hn d.toNat (by omega) (by omega))
