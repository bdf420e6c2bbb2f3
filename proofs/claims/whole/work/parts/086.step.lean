/-! LAYER 2: step -/
theorem op_step {k n : Nat} {ls : List Nat} {C M0 : St} {x c ch w : Int} (hx : nm x = x) (hc : nm c = c) (hch : nm ch = ch) (hw : nm w = w) (h : SimB k n ls none none C M0) : LockB k k n ls (wp_X7_step x c ch w C) C (fun M => wp_X8_step x c ch w M) := by
  have hr := h.1
  have l0 : nmL 0 = 0 := by decide
  have l7 : nmL 7 = 7 := by decide
  have l3 : nmL 3 = 3 := by decide
  have n7 : nm 7 = 7 := by decide
  have n8 : nm 8 = 8 := by decide
  have n3 : nm 3 = 3 := by decide
  have nlo : nm (-32767) = -32767 := by decide
  have nhi : nm 32767 = 32767 := by decide
  have llo : nmL (-32767) = -32767 := by decide
  have lhi : nmL 32767 = 32767 := by decide
  rcases proc_or x n with ⟨p, hp, rfl⟩ | hp
  · have hp16 : p < 16 := by have := hr.1; omega
    have i1 : (0 : Int) ≤ p ∧ (p : Int) < n := by omega
    have i16 : (0 : Int) ≤ p ∧ (p : Int) < 16 := by omega
    have ep : ((p : Int)).toNat = p := by omega
    by_cases hf : gI C 13 p 0 ≠ 0 ∧ gI C 15 p 0 = 0
    · have cls : ∀ po : Int → St → Prop, (∀ y, (nm y ≠ 0 ↔ -32767 ≤ ch ∧ ch ≤ 32767) → wp_X7_step_45 po c ch w (some p) y C) → wp_X7_step (p : Int) c ch w C po := by
        intro po hpo
        unfold wp_X7_step
        rw [sp_processAt hx hr.1 hr.2.2.2, if_pos i1, ep]
        refine ⟨fun z => (by cases z), ?_⟩
        rintro _ ⟨rfl⟩
        refine sp_isFree ⟨fun _ => ?_, fun z => absurd hf ((ez_bI _).mp z)⟩
        rw [hch, nlo, nhi]
        exact ⟨fun z => hpo 0 ⟨fun y => absurd n0 y, fun y => by omega⟩, fun z => ⟨fun z2 => hpo 0 ⟨fun y => absurd n0 y, fun y => by omega⟩, fun z2 => hpo 1 ⟨fun _ => ⟨z, z2⟩, fun _ => by decide⟩⟩⟩
      have mod : ∀ M, SimB k n ls none none C M → ∀ po : Int → St → Prop, (wp_X8_in c 0 7 M (fun r103 s103 => (nm r103 = 0 → po (-4) s103) ∧
 (nm r103 ≠ 0 → wp_X8_in ch (-32767) 32767 s103 (fun r104 s104 => (nm r104 = 0 → po (-4) s104) ∧
 (nm r104 ≠ 0 → wp_X8_in w 0 3 s104 (fun r105 s105 => (nm r105 ≠ 0 → (0 ≤ (p : Int) ∧ (p : Int) < 16) ∧ (nm (gI s105 110 16 p) ≠ nm 8 → (0 ≤ (p : Int) ∧ (p : Int) < 16) ∧ (0 ≤ nm ((8 * (p : Int)) + (gI s105 110 16 p)) ∧ nm ((8 * (p : Int)) + (gI s105 110 16 p)) < 128) ∧ ∀ s106, s106 = uI s105 110 17 (nm ((8 * (p : Int)) + (gI s105 110 16 p))).toNat c → (0 ≤ nm ((8 * (p : Int)) + (gI s105 110 16 p)) ∧ nm ((8 * (p : Int)) + (gI s105 110 16 p)) < 128) ∧ ∀ s107, s107 = uI s106 110 18 (nm ((8 * (p : Int)) + (gI s105 110 16 p))).toNat ch → (0 ≤ nm ((8 * (p : Int)) + (gI s105 110 16 p)) ∧ nm ((8 * (p : Int)) + (gI s105 110 16 p)) < 128) ∧ ∀ s108, s108 = uI s107 110 19 (nm ((8 * (p : Int)) + (gI s105 110 16 p))).toNat w → (0 ≤ (p : Int) ∧ (p : Int) < 16) ∧ (0 ≤ (p : Int) ∧ (p : Int) < 16) ∧ ∀ s109, s109 = uI s108 110 16 p ((gI s108 110 16 p) + 1) → (0 ≤ (p : Int) ∧ (p : Int) < 16) ∧ po (gI s109 110 16 p) s109) ∧
 (nm (gI s105 110 16 p) = nm 8 → po (-9) s105)) ∧
 (nm r105 = 0 → po (-4) s105))))))) → wp_X8_step (p : Int) c ch w M po := by
        intro M hM po hpo
        have hm := hM.1
        have hq := hM.2.2.2.2.2.1 p hp
        unfold wp_X8_step
        rw [sp_isProcess hx hm.1 hm.2.2.1, hx, ep, hc, hch, hw]
        refine ⟨fun _ => sp_isFreeM hp16 ⟨fun _ => hpo, fun z => ?_⟩, fun z => absurd i1 ((ez_bI _).mp z)⟩
        rw [nm_bI, bI_0, ← hq.2.2.2.1 (by simp), ← hq.2.2.2.2.2.1] at z; exact absurd hf z
      by_cases hok : (0 ≤ c ∧ c ≤ 7) ∧ (-32767 ≤ ch ∧ ch ≤ 32767) ∧ 0 ≤ w ∧ w ≤ 3
      · obtain ⟨k1, k2, k3⟩ := hok
        obtain ⟨g0, g8, -, -⟩ := h.2.2.2.2.2.2.1 p hp
        obtain ⟨i, hi⟩ : ∃ i : Nat, gI C 25 p 0 = i := ⟨(gI C 25 p 0).toNat, by omega⟩
        have ni : nm (i : Int) = i := nm_nat (n := 9) (by omega) (by omega)
        have ei : ((i : Int)).toNat = i := by omega
        have toAdd : ∀ po : Int → St → Prop, wp_X4_add p c ch w C (fun r104 s105 => po r104 s105) → wp_X7_step (p : Int) c ch w C po := by
          intro po hpo
          refine cls po (fun y hy => ?_)
          unfold wp_X7_step_45
          rw [sp_isWithin hc n7]
          refine ⟨fun z => absurd k1 ((ez_bI _).mp z), fun _ => ⟨fun z => absurd z (hy.mpr k2), fun _ => ?_⟩⟩
          rw [sp_isWithin hw n3]
          exact ⟨fun _ => ⟨p, rfl, hpo⟩, fun z => absurd k3 ((ez_bI _).mp z)⟩
        by_cases h8 : i < 8
        · refine ⟨(i : Int) + 1, uI (uI (uI (uI C 22 p i c) 23 p i ch) 24 p i w) 25 p 0 ((i : Int) + 1), fun po hpo => toAdd po ?_, (((MEq.rf.uI _ _ _ _ (by decide)).uI _ _ _ _ (by decide)).uI _ _ _ _ (by decide)).uI _ _ _ _ (by decide), fun M hM => ?_⟩
          · unfold wp_X4_add
            rw [nm_gI, hi, n8, ei]
            refine ⟨fun _ => ⟨by omega, ?_⟩, fun z => by omega⟩
            rintro _ rfl
            have e1 : gI (uI C 22 p i c) 25 p 0 = i := by rw [gI_uI, if_neg (by omega), hi]
            rw [e1, ni, ei]
            refine ⟨by omega, ?_⟩
            rintro _ rfl
            have e2 : gI (uI (uI C 22 p i c) 23 p i ch) 25 p 0 = i := by rw [gI_uI, if_neg (by omega), e1]
            rw [e2, ni, ei]
            refine ⟨by omega, ?_⟩
            rintro _ rfl
            have e3 : gI (uI (uI (uI C 22 p i c) 23 p i ch) 24 p i w) 25 p 0 = i := by rw [gI_uI, if_neg (by omega), e2]
            rintro _ rfl
            rw [gI_uI, if_pos ⟨rfl, rfl, rfl⟩, e3, nm_id (by omega)]
            exact hpo
          · obtain ⟨-, -, t3, t4⟩ := hM.2.2.2.2.2.2.1 p hp
            have e16 : gI M 110 16 p = i := by rw [← t3]; exact hi
            have e1 : nm (8 * (p : Int) + i) = ((8 * p + i : Nat) : Int) := by rw [nm_id (by omega)]; omega
            refine ⟨uI (uI (uI (uI M 110 17 (8 * p + i) c) 110 18 (8 * p + i) ch) 110 19 (8 * p + i) w) 110 16 p ((i : Int) + 1), fun po hpo => mod M hM po ?_, (((CEq.rf.uI _ _ _ _ (by decide)).uI _ _ _ _ (by decide)).uI _ _ _ _ (by decide)).uI _ _ _ _ (by decide), n, ls, ?_⟩
            · rw [sp_in (nmL_of hc) l0 l7]
              refine ⟨fun z => absurd k1 ((ez_bI _).mp z), fun _ => ?_⟩
              rw [sp_in (nmL_of hch) llo lhi]
              refine ⟨fun z => absurd k2 ((ez_bI _).mp z), fun _ => ?_⟩
              rw [sp_in (nmL_of hw) l0 l3]
              refine ⟨fun _ => ⟨i16, fun _ => ?_, fun z => ?_⟩, fun z => absurd k3 ((ez_bI _).mp z)⟩
              · rw [e16, e1, show (((8 * p + i : Nat) : Int)).toNat = 8 * p + i by omega]
                refine ⟨i16, by omega, ?_⟩
                rintro _ rfl
                refine ⟨by omega, ?_⟩
                rintro _ rfl
                refine ⟨by omega, ?_⟩
                rintro _ rfl
                refine ⟨i16, i16, ?_⟩
                rintro _ rfl
                have e5 : gI (uI (uI (uI M 110 17 (8 * p + i) c) 110 18 (8 * p + i) ch) 110 19 (8 * p + i) w) 110 16 p = i := by rw [gI_uI, if_neg (by omega), gI_uI, if_neg (by omega), gI_uI, if_neg (by omega), e16]
                rw [e5, gI_uI, if_pos ⟨rfl, rfl, rfl⟩, nm_id (by omega)]
                exact ⟨i16, hpo⟩
              · rw [e16, ni, n8] at z; omega
            · refine hM.toldw ((((AgC.rf.uI _ _ _ (by decide)).uI _ _ _ (by decide)).uI _ _ _ (by decide)).uI _ _ _ (by decide)) ((((AgM.rf.uI _ _ (by decide)).uI _ _ (by decide)).uI _ _ (by decide)).uI _ _ (by decide)) (fun q hq => ?_) (fun q hq => ?_) (fun q h1 h2 => by
                obtain ⟨f1, f2, f3, f4, f5⟩ := hM.2.2.2.2.2.2.2.2.2.2.2 q h1 h2
                simp only [gI_uI, gL_uI]
                exact ⟨by simpa using f1, by simpa using f2, by rw [if_neg (by omega), if_neg (by omega), if_neg (by omega), if_neg (by omega)]; exact f3, f4, fun i hi => by simpa using f5 i hi⟩)
              · obtain ⟨t1, t2, t3', t4'⟩ := hM.2.2.2.2.2.2.1 q hq
                by_cases z : q = p
                · subst z
                  have f25 : gI (uI (uI (uI (uI C 22 q i c) 23 q i ch) 24 q i w) 25 q 0 ((i : Int) + 1)) 25 q 0 = (i : Int) + 1 := by rw [gI_uI, if_pos ⟨rfl, rfl, rfl⟩, nm_id (by omega)]
                  have f16 : gI (uI (uI (uI (uI M 110 17 (8 * q + i) c) 110 18 (8 * q + i) ch) 110 19 (8 * q + i) w) 110 16 q ((i : Int) + 1)) 110 16 q = (i : Int) + 1 := by rw [gI_uI, if_pos ⟨rfl, rfl, rfl⟩, nm_id (by omega)]
                  refine ⟨by rw [f25]; omega, by rw [f25]; omega, by rw [f25, f16], fun j hj => ?_⟩
                  rw [f25] at hj
                  unfold stepOK
                  simp only [gI_uI]
                  by_cases zj : j = i
                  · subst zj
                    simp [hc, hch, hw]
                    omega
                  · have := t4' j (by rw [hi]; omega)
                    unfold stepOK at this
                    simpa [zj] using this
                · have hne : ∀ a j : Nat, a < 8 → j < 8 → ¬ (8 * q + a = 8 * p + j) := fun a j ha hj => by omega
                  unfold toldOK stepOK
                  have e25 : ∀ X Y Z W V : Int, gI (uI (uI (uI (uI C 22 p i X) 23 p i Y) 24 p i Z) 25 p 0 W) 25 q 0 = gI C 25 q 0 := fun X Y Z W V => by rw [gI_uI, if_neg (by omega), gI_uI, if_neg (by omega), gI_uI, if_neg (by omega), gI_uI, if_neg (by omega)]
                  refine ⟨?_, ?_, ?_, fun j hj => ?_⟩
                  · simpa [gI_uI, z] using t1
                  · simpa [gI_uI, z] using t2
                  · simpa [gI_uI, z] using t3'
                  · have hj' : (j : Int) < gI C 25 q 0 := by simpa [gI_uI, z] using hj
                    have hh := hne j i (by omega) h8
                    simpa [gI_uI, z, hh, stepOK] using t4' j hj'
              · have wq := hM.2.2.2.2.2.2.2.1 q hq
                by_cases z : q = p
                · subst z
                  rcases wq with ⟨w1, w2⟩ | ⟨w1, -⟩ | ⟨w1, -⟩ | ⟨w1, -⟩
                  · exact Or.inl ⟨by simpa [gI_uI] using w1, by simpa [gR_uI] using w2⟩
                  all_goals omega
                · unfold waitOK sendOK takeOK tryOK stepOK hre rt at wq ⊢
                  simpa [gI_uI, gL_uI, gR_uI, z] using wq
        · refine LockB.read (-9) (fun po hpo => toAdd po ?_) (fun M hM po hpo => mod M hM po ?_)
          · unfold wp_X4_add
            rw [nm_gI, hi, n8]
            exact ⟨fun z => by omega, fun _ => hpo⟩
          · obtain ⟨-, -, t3, t4⟩ := hM.2.2.2.2.2.2.1 p hp
            have e16 : gI M 110 16 p = i := by rw [← t3]; exact hi
            rw [sp_in (nmL_of hc) l0 l7]
            refine ⟨fun z => absurd k1 ((ez_bI _).mp z), fun _ => ?_⟩
            rw [sp_in (nmL_of hch) llo lhi]
            refine ⟨fun z => absurd k2 ((ez_bI _).mp z), fun _ => ?_⟩
            rw [sp_in (nmL_of hw) l0 l3]
            refine ⟨fun _ => ⟨i16, fun z => ?_, fun _ => hpo⟩, fun z => absurd k3 ((ez_bI _).mp z)⟩
            rw [e16, ni, n8] at z; exact absurd (by omega) z
      · refine LockB.read (-4) (fun po hpo => cls po (fun y hy => ?_)) (fun M hM po hpo => mod M hM po ?_)
        · unfold wp_X7_step_45
          rw [sp_isWithin hc n7]
          refine ⟨fun _ => hpo, fun z1 => ⟨fun _ => hpo, fun z2 => ?_⟩⟩
          rw [sp_isWithin hw n3]
          exact ⟨fun z3 => absurd ⟨(nz_bI _).mp z1, hy.mp z2, (nz_bI _).mp z3⟩ hok, fun _ => hpo⟩
        · rw [sp_in (nmL_of hc) l0 l7]
          refine ⟨fun _ => hpo, fun z1 => ?_⟩
          rw [sp_in (nmL_of hch) llo lhi]
          refine ⟨fun _ => hpo, fun z2 => ?_⟩
          rw [sp_in (nmL_of hw) l0 l3]
          exact ⟨fun z3 => absurd ⟨(nz_bI _).mp z1, (nz_bI _).mp z2, (nz_bI _).mp z3⟩ hok, fun _ => hpo⟩
    · refine LockB.read (-3) (fun po hpo => ?_) (fun M hM po hpo => ?_)
      · unfold wp_X7_step
        rw [sp_processAt hx hr.1 hr.2.2.2, if_pos i1, ep]
        refine ⟨fun z => (by cases z), ?_⟩
        rintro _ ⟨rfl⟩
        exact sp_isFree ⟨fun z => absurd ((nz_bI _).mp z) hf, fun _ => hpo⟩
      · have hm := hM.1
        have hq := hM.2.2.2.2.2.1 p hp
        unfold wp_X8_step
        rw [sp_isProcess hx hm.1 hm.2.2.1]
        refine ⟨fun _ => sp_isFreeM hp16 ⟨fun z => ?_, fun _ => hpo⟩, fun z => absurd i1 ((ez_bI _).mp z)⟩
        rw [nm_bI, ← hq.2.2.2.1 (by simp), ← hq.2.2.2.2.2.1] at z; exact absurd ((bI_0 _).mpr hf) z
  · refine LockB.read (-2) (fun po hpo => ?_) (fun M hM po hpo => ?_)
    · unfold wp_X7_step
      rw [sp_processAt hx hr.1 hr.2.2.2, if_neg hp]
      exact ⟨fun _ => hpo, fun a z => (by cases z)⟩
    · have hm := hM.1
      unfold wp_X8_step
      rw [sp_isProcess hx hm.1 hm.2.2.1]
      exact ⟨fun z => absurd ((nz_bI _).mp z) hp, fun _ => hpo⟩
