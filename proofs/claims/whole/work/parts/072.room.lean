/-! LAYER 2: room -/
theorem sp_queueById_some {t : Nat} {x : Int} {C : St} {po : Option Nat → St → Prop} (hx : nm x = x) (ht : idC C 0 t x) (hid : 0 ≤ x ∧ x % 12 = (t - 0 : Nat)) (h : po (some t) C) : wp_X7_queueById x C po := by
  unfold wp_X7_queueById
  refine sp_thingById_some (Or.inl ⟨rfl, rfl⟩) hx ht hid ⟨fun z => (by cases z), ?_⟩
  rintro _ ⟨rfl⟩
  exact ⟨by have := ht.2.1; omega, h⟩
theorem sp_queueById_none {x : Int} {C : St} {po : Option Nat → St → Prop} (hx : nm x = x) (hr : rootT C) (hn : ∀ t, ¬ idC C 0 t x) (h : po none C) : wp_X7_queueById x C po := by
  unfold wp_X7_queueById
  exact sp_thingById_none (Or.inl ⟨rfl, rfl⟩) hx hr hn ⟨fun _ => h, fun a z => (by cases z)⟩
/-- senders are let in, and then the caller is told -/
theorem admit_tell {k n p : Nat} {ls : List Nat} {C C1 : St} {r : Int} {po : Int → St → Prop} {im : St → (Int → St → Prop) → Prop} (hnl : p ∉ ls) (hnr : nm r = r) (hme : MEq C C1) {M0 : St} (h0 : SimB k n ls none none C M0)
    (hrel : ∀ M, SimB k n ls none none C M → ∃ M1, SimB k n ls (some p) none C1 M1 ∧ CEq M M1 ∧ gI M1 110 4 p = r ∧ ∀ po : Int → St → Prop, wp_X8_lookAtSenders M1 (fun s => po r s) → im M po)
    (hpo : ∀ r C1, MEq C C1 → (∀ M, SimB k n ls none none C M → ∃ M', (∀ po, po r M' → im M po) ∧ CEq M M' ∧ Sim k (uI C1 14 p 0 r) M') → po r C1) : wp_X7_admitSenders C1 (fun s => po r s) := by
  obtain ⟨M1, hM1, -, -, -⟩ := hrel M0 h0
  refine letIn hM1 (fun C2 ls' hsub hme2 _ rel => hpo r C2 (hme.tr hme2) (fun M hM => ?_))
  obtain ⟨N, hN, hce, h4, hrun⟩ := hrel M hM
  obtain ⟨N2, hN2, hce2, h42, hrun2⟩ := rel N hN
  refine ⟨N2, fun po hpo => hrun po (hrun2 _ hpo), hce.tr hce2, n, ls', hN2.told ?_⟩
  rw [h42 p hnl, h4, hnr]
theorem op_room {k n : Nat} {ls : List Nat} {C M0 : St} {x d v : Int} (hx : nm x = x) (hd : nm d = d) (hv : nm v = v) (h : SimB k n ls none none C M0) : LockW k k n ls (wp_X7_room x d v C) C (fun M => wp_X8_room x d v M) := by
  delta wp_X7_room wp_X8_room
  refine caller_lockW (ic := fun a s po => wp_X7_changeRoom (some a) d v s po) (Nat.le_refl _) hx h (fun p hp ex hf hw hnl => ?_)
  subst ex
  have hr := h.1
  have n1000 : nm 1000 = 1000 := by decide
  have l0 : nmL 0 = 0 := by decide
  have l1000 : nmL 1000 = 1000 := by decide
  have hp16 : p < 16 := by have := hr.1; omega
  have ep : ((p : Int)).toNat = p := by omega
  have np : nm (p : Int) = p := nm_nat (n := 16) hp16 (by omega)
  have i16 : (0 : Int) ≤ p ∧ (p : Int) < 16 := by omega
  by_cases hok : 0 ≤ v ∧ v ≤ 1000
  · rcases id_or C 0 d with ⟨t, ht⟩ | hn
    · obtain ⟨ht24, hid, -, -⟩ := h.id_facts (Or.inl rfl) ht
      have ht12 : t < 12 := by have := ht.2.1; omega
      have et : ((t : Int)).toNat = t := by omega
      have ntt : nm (t : Int) = t := nm_nat (n := 24) ht24 (by omega)
      have i12 : (0 : Int) ≤ t ∧ (t : Int) < 12 := by omega
      -- class, to the queue
      have cls : ∀ po : Int → St → Prop, (wp_X5_isRuledBy t (some p) C (fun r102 s103 => (nm r102 = 0 → po (-6) s103) ∧
 (nm r102 ≠ 0 → (nm v ≤ nm (gI s103 42 t 0) → ∀ s104, s104 = uI s103 42 t 0 v → wp_X7_admitSenders  s104 (fun s105 => po 0 s105)) ∧
 (nm (gI s103 42 t 0) < nm v → ∃ a102, some p = some a102 ∧ (nm (gI s103 11 a102 0) = 0 → ∀ s106, s106 = uI s103 42 t 0 v → wp_X7_admitSenders  s106 (fun s107 => po 0 s107)) ∧
 (nm (gI s103 11 a102 0) ≠ 0 → po (-6) s103))))) → wp_X7_changeRoom (some p) d v C po := by
        intro po hpo
        unfold wp_X7_changeRoom
        rw [sp_isWithin hv n1000]
        refine ⟨fun _ => sp_queueById_some hd ht hid ⟨fun z => (by cases z), ?_⟩, fun z => absurd hok ((ez_bI _).mp z)⟩
        rintro _ ⟨rfl⟩
        exact ⟨ht12, hpo⟩
      -- model, to the slot
      have mod : ∀ M, SimB k n ls none none C M → ∀ po : Int → St → Prop, (wp_X8_rules (p : Int) (t : Int) M (fun r105 s105 => (nm r105 = 0 → wp_X8_tells (p : Int) (-6) s105 (fun r106 s106 => po r106 s106)) ∧
 (nm r105 ≠ 0 → (0 ≤ nm (t : Int) ∧ nm (t : Int) < 12) ∧ (nm v ≤ nm (gI s105 110 33 (nm (t : Int)).toNat) → (0 ≤ nm (t : Int) ∧ nm (t : Int) < 12) ∧ ∀ s107, s107 = uI s105 110 33 (nm (t : Int)).toNat v → (0 ≤ nm (p : Int) ∧ nm (p : Int) < 16) ∧ ∀ s108, s108 = uI s107 110 4 (nm (p : Int)).toNat 0 → wp_X8_lookAtSenders  s108 (fun s109 => po 0 s109)) ∧
 (nm (gI s105 110 33 (nm (t : Int)).toNat) < nm v → (0 ≤ nm (p : Int) ∧ nm (p : Int) < 16) ∧ (nm (gI s105 110 1 (nm (p : Int)).toNat) = 0 → (0 ≤ nm (t : Int) ∧ nm (t : Int) < 12) ∧ ∀ s110, s110 = uI s105 110 33 (nm (t : Int)).toNat v → (0 ≤ nm (p : Int) ∧ nm (p : Int) < 16) ∧ ∀ s111, s111 = uI s110 110 4 (nm (p : Int)).toNat 0 → wp_X8_lookAtSenders  s111 (fun s112 => po 0 s112)) ∧
 (nm (gI s105 110 1 (nm (p : Int)).toNat) ≠ 0 → wp_X8_tells (p : Int) (-6) s105 (fun r107 s113 => po r107 s113)))))) → wp_X8_in (nm v) 0 1000 M (fun r103 s103 => (nm r103 ≠ 0 → wp_X8_slotOf d 0 s103 (fun r104 s104 => (nm r104 ≠ nm (-1) → wp_X8_rules (p : Int) r104 s104 (fun r105 s105 => (nm r105 = 0 → wp_X8_tells (p : Int) (-6) s105 (fun r106 s106 => po r106 s106)) ∧
 (nm r105 ≠ 0 → (0 ≤ nm r104 ∧ nm r104 < 12) ∧ (nm v ≤ nm (gI s105 110 33 (nm r104).toNat) → (0 ≤ nm r104 ∧ nm r104 < 12) ∧ ∀ s107, s107 = uI s105 110 33 (nm r104).toNat v → (0 ≤ nm (p : Int) ∧ nm (p : Int) < 16) ∧ ∀ s108, s108 = uI s107 110 4 (nm (p : Int)).toNat 0 → wp_X8_lookAtSenders  s108 (fun s109 => po 0 s109)) ∧
 (nm (gI s105 110 33 (nm r104).toNat) < nm v → (0 ≤ nm (p : Int) ∧ nm (p : Int) < 16) ∧ (nm (gI s105 110 1 (nm (p : Int)).toNat) = 0 → (0 ≤ nm r104 ∧ nm r104 < 12) ∧ ∀ s110, s110 = uI s105 110 33 (nm r104).toNat v → (0 ≤ nm (p : Int) ∧ nm (p : Int) < 16) ∧ ∀ s111, s111 = uI s110 110 4 (nm (p : Int)).toNat 0 → wp_X8_lookAtSenders  s111 (fun s112 => po 0 s112)) ∧
 (nm (gI s105 110 1 (nm (p : Int)).toNat) ≠ 0 → wp_X8_tells (p : Int) (-6) s105 (fun r107 s113 => po r107 s113)))))) ∧
 (nm r104 = nm (-1) → wp_X8_tells (p : Int) (-5) s104 (fun r108 s114 => po r108 s114)))) ∧
 (nm r103 = 0 → wp_X8_tells (p : Int) (-4) s103 (fun r109 s115 => po r109 s115))) := by
        intro M hM po hpo
        obtain ⟨-, hid2, g1, g2⟩ := hM.id_facts (Or.inl rfl) ht
        rw [hv, sp_in (nmL_of hv) l0 l1000]
        refine ⟨fun _ => ?_, fun z => absurd hok ((ez_bI _).mp z)⟩
        rw [hv] at hpo
        exact sp_slotOf_some (b := 0) (Or.inl rfl) hd ht.1 ht.2.1 g1 hid2.1 hid2.2 g2 ⟨fun _ => hpo, fun z => absurd z (by rw [ntt, nm_m1]; omega)⟩
      have facts : ∀ M, SimB k n ls none none C M → gI C 11 p 0 = gI M 110 1 p ∧ gI C 35 t 0 = gI M 110 27 t ∧ gI C 37 t 0 = gI M 110 29 t ∧ gI C 42 t 0 = gI M 110 33 t := by
        intro M hM
        obtain ⟨-, -, -, -, c5, c6, c7, -⟩ := (hM.thing t ht24).2.2.2.2.2.2 ht.2.2.1
        exact ⟨(hM.2.2.2.2.2.1 p hp).2.1, c5, c7, (hM.2.2.2.2.2.2.2.2.2.1 t ht12 ht.2.2.1).2.2.2.2.1⟩
      by_cases hru : rulC C t p
      · by_cases hgo : v ≤ gI C 42 t 0 ∨ gI C 11 p 0 = 0
        · intro po hpo
          have fin : wp_X7_admitSenders (uI C 42 t 0 v) (fun s => po 0 s) := by
            refine admit_tell (im := fun M po => _) hnl n0 (MEq.rf.uI _ _ _ _ (by decide)) h (fun M hM => ?_) hpo
            obtain ⟨f1, f2, f3, f4⟩ := facts M hM
            refine ⟨uI (uI M 110 33 t v) 110 4 p 0, SimB.ahead (SimB.room hM (AgC.rf.uI _ _ _ (by decide)) (AgM.rf.uI _ _ (by decide)) (fun s hs hh => ?_)), (CEq.rf.uI _ _ _ _ (by decide)).uI _ _ _ _ (by decide), ?_, fun po2 hpo2 => ?_⟩
            · have hh' : hre C s := by simpa [hre, rt, gI_uI, gR_uI] using hh
              obtain ⟨q1, q2, q3, q4, q5, q6, q7, q8⟩ := hM.2.2.2.2.2.2.2.2.2.1 s hs hh'
              refine ⟨by simpa [gI_uI] using q1, by simpa [gI_uI] using q2, by simpa [gI_uI] using q3, by simpa [gI_uI] using q4, ?_, ?_, ?_, fun i hi => ?_⟩
              · by_cases z : s = t
                · simp [gI_uI, z]
                · simpa [gI_uI, z] using q5
              · by_cases z : s = t
                · simp [gI_uI, z, hv]; exact hok.1
                · simpa [gI_uI, z] using q6
              · by_cases z : s = t
                · simp [gI_uI, z, hv]; exact hok.2
                · simpa [gI_uI, z] using q7
              · obtain ⟨u, hu, hm⟩ := q8 i (by simpa [gI_uI] using hi)
                refine ⟨u, hu, ?_⟩
                unfold msgOK at hm ⊢
                simpa [gI_uI, gL_uI] using hm
            · rw [gI_uI, if_pos ⟨rfl, rfl, rfl⟩, n0]
            · refine mod M hM po2 (sp_rules hp16 ht24 f1 f2 f3 (fun _ => ⟨fun z => absurd z (by decide), fun _ => ?_⟩) (fun z => absurd hru z))
              rw [ntt, et, np, ep, hv, nm_gI, nm_gI, ← f4, ← f1]
              have goal : (0 ≤ (t : Int) ∧ (t : Int) < 12) ∧ ∀ s107, s107 = uI M 110 33 t v → (0 ≤ (p : Int) ∧ (p : Int) < 16) ∧ ∀ s108, s108 = uI s107 110 4 p 0 → wp_X8_lookAtSenders  s108 (fun s109 => po2 0 s109) := by
                refine ⟨i12, ?_⟩
                rintro _ rfl
                refine ⟨i16, ?_⟩
                rintro _ rfl
                exact hpo2
              exact ⟨i12, fun _ => goal, fun z => ⟨i16, fun _ => goal, fun z2 => absurd hgo (by omega)⟩⟩
          refine cls po (sp_isRuledBy (fun _ => ⟨fun z => absurd z (by decide), fun _ => ?_⟩) (fun z => absurd hru z))
          rw [hv, nm_gI]
          refine ⟨fun _ => ?_, fun z => ⟨p, rfl, fun _ => ?_, fun z2 => ?_⟩⟩
          · rintro _ rfl; exact fin
          · rintro _ rfl; exact fin
          · rw [nm_gI] at z2; omega
        · refine MainW.refuse (Nat.le_refl _) (-6) (fun po hpo => cls po (sp_isRuledBy (fun _ => ⟨fun z => absurd z (by decide), fun _ => ?_⟩) (fun z => absurd hru z))) (fun M hM po hpo => ?_)
          · rw [hv, nm_gI]
            refine ⟨fun z => absurd (Or.inl z) hgo, fun z => ⟨p, rfl, fun z2 => ?_, fun _ => hpo⟩⟩
            rw [nm_gI] at z2; exact absurd (Or.inr z2) hgo
          · obtain ⟨f1, f2, f3, f4⟩ := facts M hM
            refine mod M hM po (sp_rules hp16 ht24 f1 f2 f3 (fun _ => ⟨fun z => absurd z (by decide), fun _ => ?_⟩) (fun z => absurd hru z))
            rw [ntt, et, np, ep, hv, nm_gI, nm_gI, ← f4, ← f1]
            exact ⟨i12, fun z => absurd (Or.inl z) hgo, fun z => ⟨i16, fun z2 => absurd (Or.inr z2) hgo, fun _ => sp_tells hp16 hpo⟩⟩
      · refine MainW.refuse (Nat.le_refl _) (-6) (fun po hpo => cls po (sp_isRuledBy (fun z => absurd z hru) (fun _ => ⟨fun _ => hpo, fun z => absurd n0 z⟩))) (fun M hM po hpo => ?_)
        obtain ⟨f1, f2, f3, f4⟩ := facts M hM
        exact mod M hM po (sp_rules hp16 ht24 f1 f2 f3 (fun z => absurd z hru) (fun _ => ⟨fun _ => sp_tells hp16 hpo, fun z => absurd n0 z⟩))
    · refine MainW.refuse (Nat.le_refl _) (-5) (fun po hpo => ?_) (fun M hM po hpo => ?_)
      · unfold wp_X7_changeRoom
        rw [sp_isWithin hv n1000]
        exact ⟨fun _ => sp_queueById_none hd h.rootT hn ⟨fun _ => hpo, fun a z => (by cases z)⟩, fun z => absurd hok ((ez_bI _).mp z)⟩
      · rw [hv, sp_in (nmL_of hv) l0 l1000]
        exact ⟨fun _ => sp_slotOf_none (b := 0) (Or.inl rfl) hd (hM.id_none (Or.inl rfl) hn) ⟨fun z => absurd rfl z, fun _ => sp_tells hp16 hpo⟩, fun z => absurd hok ((ez_bI _).mp z)⟩
  · refine MainW.refuse (Nat.le_refl _) (-4) (fun po hpo => ?_) (fun M hM po hpo => ?_)
    · unfold wp_X7_changeRoom
      rw [sp_isWithin hv n1000]
      exact ⟨fun z => absurd ((nz_bI _).mp z) hok, fun _ => hpo⟩
    · rw [hv, sp_in (nmL_of hv) l0 l1000]
      exact ⟨fun z => absurd ((nz_bI _).mp z) hok, fun _ => sp_tells hp16 hpo⟩
