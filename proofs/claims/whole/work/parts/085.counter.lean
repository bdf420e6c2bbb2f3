/-! LAYER 2: counter -/
def sOn (C : St) (t : Nat) (c fl : Int) (q : Nat) : Prop := (gI C 15 q 0 = 3 ∧ gR C 10 q 0 = some t) ∧ gI C 22 q (gI C 27 q 0).toNat = c ∧ (gI C 23 q (gI C 27 q 0).toNat = 0 ↔ fl = 1)
noncomputable def sOnB (C : St) (t : Nat) (c fl : Int) (q : Nat) : Bool := @decide (sOn C t c fl q) (Classical.propDecidable _)
theorem sOnB_t {C : St} {t : Nat} {c fl : Int} {q : Nat} : sOnB C t c fl q = true ↔ sOn C t c fl q := by unfold sOnB; exact @decide_eq_true_iff _ (Classical.propDecidable _)
theorem sp_stopped {C : St} {q : Nat} {c fl : Int} {po : Int → St → Prop} (hc : nm c = c) (hfl : fl = 0 ∨ fl = 1) (h27 : 0 ≤ gI C 27 q 0 ∧ gI C 27 q 0 ≤ 7) (h1 : gI C 22 q (gI C 27 q 0).toNat = c ∧ (gI C 23 q (gI C 27 q 0).toNat = 0 ↔ fl = 1) → po 1 C) (h0 : ¬ (gI C 22 q (gI C 27 q 0).toNat = c ∧ (gI C 23 q (gI C 27 q 0).toNat = 0 ↔ fl = 1)) → po 0 C) : wp_X4_isStoppedAt q c fl C po := by
  have n1 : nm 1 = 1 := by decide
  have nfl : nm fl = fl := by rcases hfl with rfl | rfl <;> decide
  unfold wp_X4_isStoppedAt
  rw [sp_isWithin (nm_gI _ _ _ _) (show nm 7 = 7 by decide)]
  refine ⟨fun z => absurd h27 ((ez_bI _).mp z), fun _ => ?_⟩
  rw [nm_gI, nm_gI, nm_gI, hc, n0, n1, nfl]
  refine ⟨by omega, fun z => h0 (fun y => z y.1), fun z => ⟨by omega, fun z2 => ⟨fun z3 => h0 (fun y => ?_), fun z3 => h1 ⟨z, ?_⟩⟩, fun z2 => ⟨fun z3 => h0 (fun y => ?_), fun z3 => h1 ⟨z, ?_⟩⟩⟩⟩
  · have : fl = 1 := by omega
    exact z2 (y.2.mpr this)
  · exact ⟨fun y => absurd y z2, fun y => by omega⟩
  · exact z3 (y.2.mp z2).symm
  · exact ⟨fun _ => z3.symm, fun _ => z2⟩
theorem try_facts {k n : Nat} {ls : List Nat} {e e2 : Option Nat} {C M : St} {p : Nat} (h : SimB k n ls e e2 C M) (hp : p < n) (h1 : gI C 15 p 0 = 3) : ∃ s : Nat, s < 12 ∧ gR C 10 p 0 = some (12 + s) ∧ gI M 110 9 p = s ∧ hre C (12 + s) ∧ tryOK C M p s := by
  rcases h.2.2.2.2.2.2.2.1 p hp with ⟨w, -⟩ | ⟨w, -⟩ | ⟨w, -⟩ | ⟨w, w1⟩
  · omega
  · omega
  · omega
  · exact w1
theorem sp_stoppedAt {k n : Nat} {ls : List Nat} {e e2 : Option Nat} {C M0 : St} {t : Nat} {c fl : Int} {po : Int → St → Prop} (h : SimB k n ls e e2 C M0) (hc : nm c = c) (hfl : fl = 0 ∨ fl = 1) (hpo : po (((ls.filter (sOnB C t c fl)).length : Nat) : Int) C) : ∀ m i : Nat, i + m = ls.length → wp_X7_stoppedAt_6 po (m + 1) (some t) c fl ((((ls.take i).filter (sOnB C t c fl)).length : Nat) : Int) (i : Int) C := by
  intro m
  have hl := h.2.1
  have h16 := hl.2.2.1
  induction m with
  | zero =>
    intro i hi
    have e : i = ls.length := by omega
    subst e
    unfold wp_X7_stoppedAt_6
    rw [nm_gI, hl.2.1, nm_nat (n := 17) (by omega) (by omega), List.take_length]
    exact ⟨fun _ => hpo, fun z => absurd z (by omega)⟩
  | succ m ih =>
    intro i hi
    have ih := ih (i + 1) (by omega)
    obtain ⟨q, hq⟩ : ∃ q, ls[i]? = some q := ⟨ls[i], List.getElem?_eq_getElem (by omega)⟩
    have hqn := ((hl.2.2.2.2 q).mp (List.mem_of_getElem? hq)).1
    have et : ls.take (i + 1) = ls.take i ++ [q] := by rw [List.take_add_one, hq]; rfl
    rw [et, List.filter_append] at ih
    have no : ¬ sOn C t c fl q → wp_X7_stoppedAt_6 po (m + 1) (some t) c fl ((((ls.take i).filter (sOnB C t c fl)).length : Nat) : Int) ((i : Int) + 1) C := by
      intro z
      have e : ¬ sOnB C t c fl q = true := fun y => z (sOnB_t.mp y)
      rw [List.filter_cons_of_neg e, List.filter_nil, List.append_nil] at ih
      exact ih
    unfold wp_X7_stoppedAt_6
    rw [nm_gI, hl.2.1, nm_nat (n := 17) (by omega) (by omega)]
    refine ⟨fun z => absurd z (by omega), fun _ => sp_inLine_some hl hq ⟨fun z => (by cases z), ?_⟩⟩
    rintro _ ⟨rfl⟩
    refine sp_waitsTo (by decide) ⟨fun z => ?_, fun z => ?_⟩
    · exact no (fun y => (ez_bI (gI C 15 q 0 = 3 ∧ gR C 10 q 0 = some t)).mp z y.1)
    · have z := (nz_bI (gI C 15 q 0 = 3 ∧ gR C 10 q 0 = some t)).mp z
      obtain ⟨s, -, -, -, -, -, -, c8, -, s0, s1, -⟩ := try_facts h hqn z.1
      refine sp_stopped hc hfl ⟨s0, by omega⟩ (fun y => ⟨fun x => absurd x (by decide), fun _ => ?_⟩) (fun y => ⟨fun _ => no (fun x => y x.2), fun x => absurd n0 x⟩)
      rw [List.filter_cons_of_pos (sOnB_t.mpr ⟨z, y⟩), List.filter_nil, List.length_append, List.length_singleton] at ih
      exact ih
def mSt (M : St) (sl c fl : Int) (q : Nat) : Prop := gI M 110 7 q = 3 ∧ gI M 110 9 q = sl ∧ gI M 110 21 (8 * q + (gI M 110 14 q).toNat) = c ∧ (gI M 110 22 (8 * q + (gI M 110 14 q).toNat) = 0 ↔ fl = 1)
theorem st_CM {k n : Nat} {ls : List Nat} {e e2 : Option Nat} {C M : St} {c fl : Int} {s q : Nat} (h : SimB k n ls e e2 C M) (hq : q < n) (hs : s < 12) : sOn C (12 + s) c fl q ↔ mSt M (s : Int) c fl q := by
  unfold sOn mSt
  rw [wt_CM h hq hs (Or.inr ⟨rfl, rfl⟩)]
  have e7 := (h.2.2.2.2.2.1 q hq).2.2.2.2.2.1
  constructor
  · rintro ⟨⟨z1, z2⟩, z3, z4⟩
    obtain ⟨s', -, -, -, -, -, -, c8, c20, s0, s1, s14, st⟩ := try_facts h hq (by rw [e7]; exact z1)
    obtain ⟨⟨a1, a2, -⟩, -⟩ := st (gI C 27 q 0).toNat (by omega)
    rw [a1, s14] at z3
    rw [a2, s14] at z4
    exact ⟨z1, z2, z3, z4⟩
  · rintro ⟨z1, z2, z3, z4⟩
    obtain ⟨s', -, -, -, -, -, -, c8, c20, s0, s1, s14, st⟩ := try_facts h hq (by rw [e7]; exact z1)
    obtain ⟨⟨a1, a2, -⟩, -⟩ := st (gI C 27 q 0).toNat (by omega)
    rw [← s14] at z3 z4
    rw [← a1] at z3
    rw [← a2] at z4
    exact ⟨⟨z1, z2⟩, z3, z4⟩
theorem sp_counter100 {k n : Nat} {ls : List Nat} {e e2 : Option Nat} {C M : St} {sl c f : Int} {po : Int → St → Prop} (hS : SimB k n ls e e2 C M) (hsl : nm sl = sl) (hc : nm c = c) (hf : f = 2 ∨ f = 3) (h : po (cntI (mSt M sl c (f - 2)) n) M) : ∀ m i : Nat, i + m = n → wp_X8_counter_100 po (m + 1) sl c f (cntI (mSt M sl c (f - 2)) i) (i : Int) M := by
  intro m
  have hn := hS.1.2.2.1
  have hn16 := hS.1.1
  have n3 : nm 3 = 3 := by decide
  have n1 : nm 1 = 1 := by decide
  have nf : nm f = f := by rcases hf with rfl | rfl <;> decide
  induction m with
  | zero =>
    intro i hi
    have e : i = n := by omega
    subst e
    unfold wp_X8_counter_100
    rw [nm_gI, hn, nm_nat (n := 17) (by omega) (by omega)]
    exact ⟨fun _ => h, fun z => absurd z (by omega)⟩
  | succ m ih =>
    intro i hi
    have ih := ih (i + 1) (by omega)
    have ei : ((i : Int)).toNat = i := by omega
    have e1 : (i : Int) + 1 = ((i + 1 : Nat) : Int) := by omega
    unfold wp_X8_counter_100
    rw [nm_gI, hn, nm_nat (n := 17) (by omega) (by omega), ei, nm_gI, nm_gI, hsl, n3, hc, e1]
    refine ⟨fun z => absurd z (by omega), fun _ => ⟨by omega, fun z => ?_, fun z => ⟨by omega, fun z2 => ?_, fun z2 => ⟨by omega, ?_⟩⟩⟩⟩
    · rw [cntI_no (fun y => z y.1)] at ih; exact ih
    · rw [cntI_no (fun y => z2 y.2.1)] at ih; exact ih
    · have e7 := (hS.2.2.2.2.2.1 i (by omega)).2.2.2.2.2.1
      obtain ⟨s', -, -, -, -, -, -, c8, c20, s0, s1, s14, st⟩ := try_facts (p := i) hS (by omega) (by rw [e7]; exact z)
      have e2 : nm (8 * (i : Int) + gI M 110 14 i) = ((8 * i + (gI M 110 14 i).toNat : Nat) : Int) := by rw [nm_id (by omega)]; omega
      rw [e2, show (((8 * i + (gI M 110 14 i).toNat : Nat) : Int)).toNat = 8 * i + (gI M 110 14 i).toNat by omega, nm_gI, nm_gI]
      refine ⟨by omega, fun z3 => ?_, fun z3 => ⟨by omega, fun z4 => ?_, fun z4 => ?_⟩⟩
      · rw [cntI_no (fun y => z3 y.2.2.1)] at ih; rw [Int.add_zero]; exact ih
      · unfold wp_X8_counter_174
        rw [nf, n3, n0, n1, e1]
        rcases hf with rfl | rfl
        · rw [cntI_yes (P := mSt M sl c (2 - 2)) ⟨z, z2, z3, fun y => absurd y z4, fun y => by omega⟩] at ih
          exact ⟨fun _ => ⟨fun y => absurd rfl y, fun _ => ih⟩, fun y => absurd y (by decide)⟩
        · rw [cntI_no (fun y => z4 (y.2.2.2.mpr (by decide)))] at ih
          exact ⟨fun y => absurd rfl y, fun _ => ⟨fun _ => by rw [Int.add_zero]; exact ih, fun y => absurd y (by decide)⟩⟩
      · unfold wp_X8_counter_174
        rw [nf, n3, n0, n1, e1]
        rcases hf with rfl | rfl
        · rw [cntI_no (fun y => absurd (y.2.2.2.mp z4) (by decide))] at ih
          exact ⟨fun _ => ⟨fun _ => by rw [Int.add_zero]; exact ih, fun y => absurd y (by decide)⟩, fun y => absurd y (by decide)⟩
        · rw [cntI_yes (P := mSt M sl c (3 - 2)) ⟨z, z2, z3, fun _ => by decide, fun _ => z4⟩] at ih
          exact ⟨fun y => absurd rfl y, fun _ => ⟨fun y => absurd rfl y, fun _ => ih⟩⟩
theorem stopped_CM {k n : Nat} {ls : List Nat} {e e2 : Option Nat} {C M : St} {c fl : Int} {s : Nat} (h : SimB k n ls e e2 C M) (hs : s < 12) : (((ls.filter (sOnB C (12 + s) c fl)).length : Nat) : Int) = cntI (mSt M (s : Int) c fl) n := by
  refine cntI_len n _ (h.2.1.2.2.2.1.filter _) (fun q hq => ?_) (fun q hq hp => ?_)
  · obtain ⟨h1, h2⟩ := List.mem_filter.mp hq
    have hqn := ((h.2.1.2.2.2.2 q).mp h1).1
    exact ⟨hqn, (st_CM h hqn hs).mp (sOnB_t.mp h2)⟩
  · have h2 := (st_CM h hq hs).mpr hp
    exact List.mem_filter.mpr ⟨(h.2.1.2.2.2.2 q).mpr ⟨hq, by rw [h2.1.1]; decide⟩, sOnB_t.mpr h2⟩
theorem op_counter {k n : Nat} {ls : List Nat} {C M0 : St} {x c f : Int} (hx : nm x = x) (hc : nm c = c) (hf : nm f = f) (h : SimB k n ls none none C M0) : LockB k k n ls (wp_X7_counter x c f C) C (fun M => wp_X8_counter x c f M) := by
  have n3 : nm 3 = 3 := by decide
  have n2 : nm 2 = 2 := by decide
  have n1 : nm 1 = 1 := by decide
  have l0 : nmL 0 = 0 := by decide
  have l3 : nmL 3 = 3 := by decide
  have l11 : nmL 11 = 11 := by decide
  by_cases hok : 0 ≤ f ∧ f ≤ 3
  · rcases th_or C 12 x with ⟨s, hs, rfl, hh⟩ | hn
    · have es : ((s : Int)).toNat = s := by omega
      have i12 : (0 : Int) ≤ s ∧ (s : Int) < 12 := by omega
      have i11 : (0 : Int) ≤ s ∧ (s : Int) ≤ 11 := by omega
      have e12 : 12 + (s : Int) = ((12 + s : Nat) : Int) := by omega
      have n12 : nm ((12 + s : Nat) : Int) = ((12 + s : Nat) : Int) := nm_nat (n := 24) (by omega) (by omega)
      have t12 : (((12 + s : Nat) : Int)).toNat = 12 + s := by omega
      obtain ⟨-, b1, b8, -⟩ := h.2.2.2.2.2.2.2.2.2.2.1 s hs hh
      have cls : ∀ po : Int → St → Prop, (¬ (0 ≤ c ∧ c < gI C 45 (12 + s) 0) → po (-1) C) → ((0 ≤ c ∧ c < gI C 45 (12 + s) 0) → (f = 0 → po (gI C 46 (12 + s) c.toNat) C) ∧ (f = 1 → po (gI C 47 (12 + s) c.toNat) C) ∧ (f = 2 → po (((ls.filter (sOnB C (12 + s) c 0)).length : Nat) : Int) C) ∧ (f = 3 → po (((ls.filter (sOnB C (12 + s) c 1)).length : Nat) : Int) C)) → wp_X7_counter (s : Int) c f C po := by
        intro po h0 h1
        unfold wp_X7_counter
        rw [sp_isWithin hf n3]
        refine ⟨fun _ => sp_setIn_some hs hh ⟨fun z => (by cases z), ?_⟩, fun z => absurd hok ((ez_bI _).mp z)⟩
        rintro _ ⟨rfl⟩
        refine ⟨by omega, sp_hasCounter (by omega) hc b8 (fun z => ⟨fun _ => ?_, fun y => absurd y (by decide)⟩) (fun z => ⟨fun y => absurd n0 y, fun _ => h0 z⟩)⟩
        obtain ⟨g0, g1, g2, g3⟩ := h1 z
        rw [hf, n1, n3, hc]
        refine ⟨fun y0 => ⟨fun y1 => ⟨fun y3 => ⟨ls.length + 1, ?_⟩, fun y3 => ⟨ls.length + 1, ?_⟩⟩, fun y1 => ⟨by omega, g1 y1⟩⟩, fun y0 => ⟨by omega, g0 y0⟩⟩
        · exact sp_stoppedAt h hc (Or.inl rfl) (g2 (by omega)) ls.length 0 (by omega)
        · exact sp_stoppedAt h hc (Or.inr rfl) (g3 y3) ls.length 0 (by omega)
      have mod : ∀ M, SimB k n ls none none C M → ∀ po : Int → St → Prop, (¬ (0 ≤ c ∧ c < gI C 45 (12 + s) 0) → po (-1) M) → ((0 ≤ c ∧ c < gI C 45 (12 + s) 0) → (f = 0 → po (gI C 46 (12 + s) c.toNat) M) ∧ (f = 1 → po (gI C 47 (12 + s) c.toNat) M) ∧ (f = 2 → po (((ls.filter (sOnB C (12 + s) c 0)).length : Nat) : Int) M) ∧ (f = 3 → po (((ls.filter (sOnB C (12 + s) c 1)).length : Nat) : Int) M)) → wp_X8_counter (s : Int) c f M po := by
        intro M hM po h0 h1
        obtain ⟨q1, q2, q3, q4⟩ := hM.2.2.2.2.2.2.2.2.2.2.1 s hs hh
        unfold wp_X8_counter
        rw [hf, hx, es, e12, n12, t12, hc, n2, sp_in (nmL_of hf) l0 l3]
        refine ⟨fun _ => ?_, fun z => absurd hok ((ez_bI _).mp z)⟩
        rw [sp_in (nmL_of hx) l0 l11]
        refine ⟨fun z => absurd i11 ((ez_bI _).mp z), fun _ => ⟨by omega, fun z => ?_, fun _ => ⟨i12, ?_⟩⟩⟩
        · rw [nm_gI, hM.is_of (by omega) hh] at z; exact absurd z (by decide)
        · rw [← q1, show nm (gI C 45 (12 + s) 0 - 1) = gI C 45 (12 + s) 0 - 1 from nm_id (by omega), sp_in (nmL_of hc) l0 (nmL_id (by omega))]
          refine ⟨fun z => ?_, fun z => h0 (by have := (ez_bI _).mp z; omega)⟩
          have z := (nz_bI _).mp z
          obtain ⟨g0, g1, g2, g3⟩ := h1 ⟨z.1, by omega⟩
          have e1 : nm (8 * (s : Int) + c) = ((8 * s + c.toNat : Nat) : Int) := by rw [nm_id (by omega)]; omega
          obtain ⟨v1, -, -, v2, -⟩ := q4 c.toNat (by omega)
          rw [e1, show (((8 * s + c.toNat : Nat) : Int)).toNat = 8 * s + c.toNat by omega, ← v1, ← v2]
          refine ⟨fun y2 => ⟨n + 1, ?_⟩, fun y2 => ⟨fun y0 => ⟨by omega, g1 (by omega)⟩, fun y0 => ⟨by omega, g0 y0⟩⟩⟩
          have cas : f = 2 ∨ f = 3 := by omega
          refine sp_counter100 hM hx hc cas ?_ n 0 (by omega)
          rcases cas with rfl | rfl
          · have := g2 rfl
            rw [stopped_CM hM hs] at this
            exact this
          · have := g3 rfl
            rw [stopped_CM hM hs] at this
            exact this
      by_cases hcc : 0 ≤ c ∧ c < gI C 45 (12 + s) 0
      · have cas : f = 0 ∨ f = 1 ∨ f = 2 ∨ f = 3 := by omega
        rcases cas with z | z | z | z
        · refine LockB.read (gI C 46 (12 + s) c.toNat) (fun po hpo => cls po (fun y => absurd hcc y) (fun _ => ⟨fun _ => hpo, ?_, ?_, ?_⟩)) (fun M hM po hpo => mod M hM po (fun y => absurd hcc y) (fun _ => ⟨fun _ => hpo, ?_, ?_, ?_⟩)) <;> (intro y; omega)
        · refine LockB.read (gI C 47 (12 + s) c.toNat) (fun po hpo => cls po (fun y => absurd hcc y) (fun _ => ⟨?_, fun _ => hpo, ?_, ?_⟩)) (fun M hM po hpo => mod M hM po (fun y => absurd hcc y) (fun _ => ⟨?_, fun _ => hpo, ?_, ?_⟩)) <;> (intro y; omega)
        · refine LockB.read (((ls.filter (sOnB C (12 + s) c 0)).length : Nat) : Int) (fun po hpo => cls po (fun y => absurd hcc y) (fun _ => ⟨?_, ?_, fun _ => hpo, ?_⟩)) (fun M hM po hpo => mod M hM po (fun y => absurd hcc y) (fun _ => ⟨?_, ?_, fun _ => hpo, ?_⟩)) <;> (intro y; omega)
        · refine LockB.read (((ls.filter (sOnB C (12 + s) c 1)).length : Nat) : Int) (fun po hpo => cls po (fun y => absurd hcc y) (fun _ => ⟨?_, ?_, ?_, fun _ => hpo⟩)) (fun M hM po hpo => mod M hM po (fun y => absurd hcc y) (fun _ => ⟨?_, ?_, ?_, fun _ => hpo⟩)) <;> (intro y; omega)
      · exact LockB.read (-1) (fun po hpo => cls po (fun _ => hpo) (fun z => absurd z hcc)) (fun M hM po hpo => mod M hM po (fun _ => hpo) (fun z => absurd z hcc))
    · refine LockB.read (-1) (fun po hpo => ?_) (fun M hM po hpo => ?_)
      · unfold wp_X7_counter
        rw [sp_isWithin hf n3]
        exact ⟨fun _ => sp_setIn_none hx h.rootT hn ⟨fun _ => hpo, fun a z => (by cases z)⟩, fun z => absurd hok ((ez_bI _).mp z)⟩
      · unfold wp_X8_counter
        rw [hf, hx, sp_in (nmL_of hf) l0 l3]
        refine ⟨fun _ => ?_, fun z => absurd hok ((ez_bI _).mp z)⟩
        rw [sp_in (nmL_of hx) l0 l11]
        refine ⟨fun _ => hpo, fun z => ?_⟩
        have z := (nz_bI _).mp z
        have e : nm (12 + x) = 12 + x := nm_id (by omega)
        rw [e]
        refine ⟨by omega, fun _ => hpo, fun z2 => ?_⟩
        rw [nm_gI, show (12 + x).toNat = 12 + x.toNat by omega] at z2
        exact absurd (hM.hre_of (by omega) z2) (hn x.toNat (by omega) (by omega))
  · refine LockB.read (-4) (fun po hpo => ?_) (fun M hM po hpo => ?_)
    · unfold wp_X7_counter
      rw [sp_isWithin hf n3]
      exact ⟨fun z => absurd ((nz_bI _).mp z) hok, fun _ => hpo⟩
    · unfold wp_X8_counter
      rw [hf, sp_in (nmL_of hf) l0 l3]
      exact ⟨fun z => absurd ((nz_bI _).mp z) hok, fun _ => hpo⟩
