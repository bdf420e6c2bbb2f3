/-! LAYER 2: send -/
theorem SimB.md {k n : Nat} {ls : List Nat} {e e2 : Option Nat} {C M : St} {t : Nat} (h : SimB k n ls e e2 C M) (ht : t < 24) (hh : hre C t) : 0 ≤ gI C 39 t 0 ∧ gI C 39 t 0 ≤ 511 := by
  obtain ⟨-, -, -, -, -, -, -, -, -, c10, c11⟩ := (h.thing t ht).2.2.2.2.2.2 hh
  exact ⟨c10, c11⟩
theorem op_send {k n : Nat} {ls : List Nat} {C M0 : St} {x d ty v now : Int} (hk : k ≤ 65536) (hx : nm x = x) (hd : nm d = d) (hty : nmL ty = ty) (hv : nm v = v) (hnow : nm now = now) (h : SimB k n ls none none C M0) : LockW k (k + 1) n ls (wp_X7_send x d ty v now C) C (fun M => wp_X8_send x d ty v now M) := by
  delta wp_X7_send wp_X8_send
  refine caller_lockW (ic := fun a s po => wp_X7_sendFrom (some a) d ty v now s po) (by omega) hx h (fun p hp ex hf hw hnl => ?_)
  subst ex
  have hr := h.1
  have n64 : nm 64 = 64 := by decide
  have l0 : nmL 0 = 0 := by decide
  have l1 : nmL 1 = 1 := by decide
  have l64 : nmL 64 = 64 := by decide
  have hp16 : p < 16 := by have := hr.1; omega
  have ep : ((p : Int)).toNat = p := by omega
  have np : nm (p : Int) = p := nm_nat (n := 16) hp16 (by omega)
  have i16 : (0 : Int) ≤ p ∧ (p : Int) < 16 := by omega
  have hk1 : k ≤ k + 1 := by omega
  by_cases ht1 : ty < 1
  · refine MainW.refuse hk1 (-4) (fun po hpo => ?_) (fun M hM po hpo => ?_)
    · unfold wp_X7_sendFrom
      rw [hty, l1]
      exact ⟨fun _ => hpo, fun z => absurd z (by omega)⟩
    · rw [hty, l1]
      exact ⟨fun _ => sp_tells hp16 hpo, fun z => absurd z (by omega)⟩
  by_cases hok : 0 ≤ v ∧ v ≤ 64
  · obtain ⟨m, rfl⟩ : ∃ m : Nat, v = m := ⟨v.toNat, by omega⟩
    have hm : m ≤ 64 := by omega
    rcases id_or C 0 d with ⟨t, ht⟩ | hn
    · obtain ⟨ht24, hid, -, -⟩ := h.id_facts (Or.inl rfl) ht
      have ht12 : t < 12 := by have := ht.2.1; omega
      have et : ((t : Int)).toNat = t := by omega
      have ntt : nm (t : Int) = t := nm_nat (n := 24) ht24 (by omega)
      have i12 : (0 : Int) ≤ t ∧ (t : Int) < 12 := by omega
      have hh := ht.2.2.1
      have f42 : ∀ M, SimB k n ls none none C M → gI C 42 t 0 = gI M 110 33 t := fun M hM => (hM.2.2.2.2.2.2.2.2.2.1 t ht12 hh).2.2.2.2.1
      by_cases hrm : (m : Int) ≤ gI C 42 t 0
      · by_cases hg : graC C t p 2
        · intro po hpo
          -- the model's first half
          have key : ∀ r C3, MEq C C3 → (∀ M, SimB k n ls none none C M → ∃ M', CEq M M' ∧ Sim (k + 1) (uI C3 14 p 0 r) M' ∧ ∀ po2 : Int → St → Prop, po2 r M' → wp_X8_isSent (t : Int) (p : Int) (parM M p ty m) (fun r108 s110 => (nm r108 = 0 → (nm now = 0 → wp_X8_wait (p : Int) 1 (t : Int) s110 (fun s111 => wp_X8_tells (p : Int) (-10) s111 (fun r109 s112 => po2 r109 s112))) ∧ (nm now ≠ 0 → wp_X8_tells (p : Int) (-11) s110 (fun r110 s113 => po2 r110 s113))) ∧ (nm r108 ≠ 0 → wp_X8_tells (p : Int) 0 s110 (fun r111 s114 => po2 r111 s114)))) → po r C3 := by
            intro r C3 hme hall
            refine hpo r C3 hme (fun M hM => ?_)
            obtain ⟨M', hce, hsim, hrun⟩ := hall M hM
            refine ⟨M', fun po2 hpo2 => ?_, hce, hsim⟩
            have hrun := hrun po2 hpo2
            obtain ⟨-, hid2, g1, g2⟩ := hM.id_facts (Or.inl rfl) ht
            dsimp only
            rw [hty, l1, hv, sp_in (nmL_of hv) l0 l64]
            refine ⟨fun z => absurd z ht1, fun _ => ⟨fun _ => ?_, fun z => absurd hok ((ez_bI _).mp z)⟩⟩
            refine sp_slotOf_some (b := 0) (Or.inl rfl) hd ht.1 ht.2.1 g1 hid2.1 hid2.2 g2 ⟨fun z => absurd z (by rw [ntt, nm_m1]; omega), fun _ => ?_⟩
            rw [ntt, et, nm_gI, ← f42 M hM, np, ep]
            refine ⟨i12, fun _ => sp_hasAll hp16 ht24 (mayCM hM ht24 hp hh) (fun _ => ⟨fun _ => ⟨i16, ?_⟩, fun z => absurd z (by decide)⟩) (fun z => absurd hg z), fun z => absurd z (by omega)⟩
            rintro _ rfl
            refine ⟨i16, ?_⟩
            rintro _ rfl
            refine ⟨65, ?_⟩
            have := sp_send_loop (M0 := uI (uL M 110 10 p ty) 110 11 p (m : Int)) (now := now) hp16 hrun 64 0 (by omega)
            rw [cpI_0] at this
            exact this
          -- the class's
          have hS := h.parcel (m := m) (ty := ty) hp hw
          have hme1 := MEq.par C p ty m
          have hh1 : hre (parC C p ty m) t := by
            unfold hre parC
            unfold hre at hh
            rw [gI_cpI, if_neg (by omega), gI_uI, if_neg (by omega), gI_uL]
            exact hh
          obtain ⟨-, qc0, qc40, -⟩ := h.2.2.2.2.2.2.2.2.2.1 t ht12 hh
          obtain ⟨c, hc⟩ : ∃ c : Nat, gI C 40 t 0 = c := ⟨(gI C 40 t 0).toNat, by omega⟩
          have hc1 : gI (parC C p ty m) 40 t 0 = c := by
            unfold parC
            rw [gI_cpI, if_neg (by omega), gI_uI, if_neg (by omega), gI_uL]
            exact hc
          have mc := parC_msg (C := C) (p := p) hty hm
          obtain ⟨b, C2, ls1, hb, hcl, hf2, hsub, ⟨M2, hM2⟩, s1, s0, sa⟩ := sent hS ht12 hp16 hh1 hc1 ⟨by omega, hty⟩ hm mc (parM_msg h hp hm)
          have hnl1 : p ∉ ls1 := fun z => hnl (hsub.subset z)
          -- told 0
          have told0 : ∀ C3, MEq C C3 → sentQ k n ls none none (parC C p ty m) t p ty m 1 ls1 C3 → po 0 C3 := by
            intro C3 hme hq
            refine key 0 C3 hme (fun M hM => ?_)
            obtain ⟨M', ha, hce, h4, hgo, hs', hrun⟩ := hq none (parM M p ty m) (hM.parcel hp hw) (fun q z => by cases z) (parM_msg hM hp hm) (parM_10 hty) (parM_11 hm)
            refine ⟨uI M' 110 4 p 0, ((CEq.par M p ty m).tr hce).uI _ _ _ _ (by decide), ⟨n, ls1, (SimB.tell hs' (Or.inl rfl)).mono hk1⟩, fun po2 hpo2 => hrun _ ⟨fun z => absurd z (by decide), fun _ => sp_tells hp16 hpo2⟩⟩
          have cls : wp_X1_fill (2 * p) ty m 11 (some p) C (fun s104 => wp_X7_handToTaker (some t) (some (2 * p)) s104 (fun r103 s105 => (nm r103 = 0 → wp_X7_fits (some t) m s105 (fun r104 s106 => (nm r104 = 0 → (nm now = 0 → wp_X7_beginWait (some p) 1 (some t) s106 (fun s107 => po (-10) s107)) ∧
 (nm now ≠ 0 → po (-11) s106)) ∧
 (nm r104 ≠ 0 → wp_X3_append t (some (2 * p)) s106 (fun s108 => po 0 s108)))) ∧
 (nm r103 ≠ 0 → po 0 s105))) := by
            refine sp_fill (g := 16) (len := 64) rfl rfl rfl hm hm (by decide) (by omega) (hcl _ ?_)
            rcases hb with rfl | rfl
            · exact ⟨fun z => absurd z (by decide), fun _ => told0 C2 (hme1.tr hf2.2) (s1 rfl)⟩
            · refine ⟨fun _ => sp_fits ht12 hM2.rootT (fun hfit => ⟨fun z => absurd z (by decide), fun _ => ?_⟩) (fun hnf => ⟨fun _ => ⟨fun hnow0 => ?_, fun hnow1 => ?_⟩, fun z => absurd n0 z⟩), fun z => absurd n0 z⟩
              · have e40 : gI C2 40 t 0 = c := by rw [hf2.1.2.1 40 (by decide)]; exact hc1
                have mc2 := mc.hf hf2
                refine sp_append ht12 e40 (by have := hfit.2.1; omega) mc2.2 hm (by omega) hM2.2.2.2.2.1 (fun v C0 hsp => ?_)
                exact told0 _ (((hme1.tr hf2.2).tr (MEq.mk hsp)).tr (MEq.app _ _ _ _ _ _)) (sa rfl ((fit_hf hf2 t _).mp hfit) v C0 hsp)
              · have hl1 := line_room hM2 hp hnl1
                refine run_begin hM2.2.1 hl1 (key (-10) _ ((hme1.tr hf2.2).tr ?_) (fun M hM => ?_))
                · exact (((MEq.rf.uI _ _ _ _ (by decide)).uR _ _ _ _).uR _ _ _ _).uI _ _ _ _ (by decide)
                · obtain ⟨M', ha, hce, h4, hgo, hs', hrun⟩ := s0 rfl (fun z => hnf ((fit_hf hf2 t _).mpr z)) none (parM M p ty m) (hM.parcel hp hw) (fun q z => by cases z) (parM_msg hM hp hm) (parM_10 hty) (parM_11 hm)
                  have hs' : SimB k n ls1 none none C2 M' := hs'
                  have hT := hs'.2.2.1
                  have mc2 := mc.hf hf2
                  have hbg := hs'.begin (kd := 1) (o := some t) (sl := (t : Int)) hk hp hnl1 (by decide) (by decide) (by
                    refine Or.inr (Or.inl ⟨?_, ?_, t, ht12, ?_, ?_, ?_⟩)
                    · rw [gI_bgC, if_neg (by omega), if_pos ⟨rfl, rfl, rfl⟩]; decide
                    · have a10 : gL (bgM M' p 1 (t : Int)) 110 10 p = ty := by rw [gL_bgM, ha.2.1 10 (by decide)]; exact parM_10 hty
                      have a11 : gI (bgM M' p 1 (t : Int)) 110 11 p = m := by rw [gI_bgM, if_neg (by omega), if_neg (by omega), if_neg (by omega), if_neg (by omega), ha.1 11 (by decide)]; exact parM_11 hm
                      have c11 : gL (bgC C2 p ls1.length 1 (some t)) 11 (2 * p) 0 = ty := by rw [gL_bgC]; exact mc2.1
                      have c17 : gI (bgC C2 p ls1.length 1 (some t)) 17 (2 * p) 0 = m := by rw [gI_bgC, if_neg (by omega), if_neg (by omega)]; exact mc2.2
                      unfold sendOK
                      rw [a10, a11, c11, c17]
                      refine ⟨rfl, by omega, rfl, by omega, by omega, fun j hj => ?_⟩
                      rw [gI_bgC, if_neg (by omega), if_neg (by omega), gI_bgM, if_neg (by omega), if_neg (by omega), if_neg (by omega), if_neg (by omega), ha.1 13 (by decide), hf2.1.2.1 18 (by decide)]
                      exact parM_msg hM hp hm j hj
                    · rw [gR_bgC, if_neg (by omega), if_pos ⟨rfl, rfl, rfl⟩]
                    · rw [gI_bgM, if_neg (by omega), if_neg (by omega), if_pos ⟨rfl, rfl, rfl⟩, ntt]
                    · have h2 := (hre_hf hf2 t).mpr hh1
                      unfold hre at h2 ⊢
                      rw [gI_bgC, if_neg (by omega), if_neg (by omega)]
                      unfold rt at h2 ⊢
                      simpa [gR_bgC] using h2)
                  refine ⟨uI (bgM M' p 1 (t : Int)) 110 4 p (-10), (((CEq.par M p ty m).tr hce).tr ?_).uI _ _ _ _ (by decide), ⟨n, ls1 ++ [p], SimB.tell hbg (Or.inl rfl)⟩, fun po2 hpo2 => hrun _ ⟨fun _ => ⟨fun _ => ?_, fun z => absurd hnow0 z⟩, fun z => absurd n0 z⟩⟩
                  · exact (((CEq.rf.uI _ _ _ _ (by decide)).uI _ _ _ _ (by decide)).uI _ _ _ _ (by decide)).uI _ _ _ _ (by decide)
                  · exact run_wait hp16 ⟨hT.1, by have := hT.2.1; omega⟩ (sp_tells hp16 hpo2)
              · refine key (-11) _ (hme1.tr hf2.2) (fun M hM => ?_)
                obtain ⟨M', ha, hce, h4, hgo, hs', hrun⟩ := s0 rfl (fun z => hnf ((fit_hf hf2 t _).mpr z)) none (parM M p ty m) (hM.parcel hp hw) (fun q z => by cases z) (parM_msg hM hp hm) (parM_10 hty) (parM_11 hm)
                exact ⟨uI M' 110 4 p (-11), ((CEq.par M p ty m).tr hce).uI _ _ _ _ (by decide), ⟨n, ls1, (SimB.tell hs' (Or.inl rfl)).mono hk1⟩, fun po2 hpo2 => hrun _ ⟨fun _ => ⟨fun z => absurd z hnow1, fun _ => sp_tells hp16 hpo2⟩, fun z => absurd n0 z⟩⟩
          unfold wp_X7_sendFrom
          rw [hty, l1, sp_isWithin hv n64]
          refine ⟨fun z => absurd z ht1, fun _ => ⟨fun _ => sp_queueById_some hd ht hid ⟨fun z => (by cases z), ?_⟩, fun z => absurd hok ((ez_bI _).mp z)⟩⟩
          rintro _ ⟨rfl⟩
          rw [hv, nm_gI]
          exact ⟨ht12, fun _ => sp_grantsAll (by decide) (h.md ht24 hh) (fun _ => ⟨fun _ => ⟨p, rfl, cls⟩, fun z => absurd z (by decide)⟩) (fun z => absurd hg z), fun z => absurd z (by omega)⟩
        · refine MainW.refuse hk1 (-6) (fun po hpo => ?_) (fun M hM po hpo => ?_)
          · unfold wp_X7_sendFrom
            rw [hty, l1, sp_isWithin hv n64]
            refine ⟨fun z => absurd z ht1, fun _ => ⟨fun _ => sp_queueById_some hd ht hid ⟨fun z => (by cases z), ?_⟩, fun z => absurd hok ((ez_bI _).mp z)⟩⟩
            rintro _ ⟨rfl⟩
            rw [hv, nm_gI]
            exact ⟨ht12, fun _ => sp_grantsAll (by decide) (h.md ht24 hh) (fun z => absurd z hg) (fun _ => ⟨fun z => absurd n0 z, fun _ => hpo⟩), fun z => absurd z (by omega)⟩
          · obtain ⟨-, hid2, g1, g2⟩ := hM.id_facts (Or.inl rfl) ht
            rw [hty, l1, hv, sp_in (nmL_of hv) l0 l64]
            refine ⟨fun z => absurd z ht1, fun _ => ⟨fun _ => ?_, fun z => absurd hok ((ez_bI _).mp z)⟩⟩
            refine sp_slotOf_some (b := 0) (Or.inl rfl) hd ht.1 ht.2.1 g1 hid2.1 hid2.2 g2 ⟨fun z => absurd z (by rw [ntt, nm_m1]; omega), fun _ => ?_⟩
            rw [ntt, et, nm_gI, ← f42 M hM]
            exact ⟨i12, fun _ => sp_hasAll hp16 ht24 (mayCM hM ht24 hp hh) (fun z => absurd z hg) (fun _ => ⟨fun z => absurd n0 z, fun _ => sp_tells hp16 hpo⟩), fun z => absurd z (by omega)⟩
      · refine MainW.refuse hk1 (-5) (fun po hpo => ?_) (fun M hM po hpo => ?_)
        · unfold wp_X7_sendFrom
          rw [hty, l1, sp_isWithin hv n64]
          refine ⟨fun z => absurd z ht1, fun _ => ⟨fun _ => sp_queueById_some hd ht hid ⟨fun z => (by cases z), ?_⟩, fun z => absurd hok ((ez_bI _).mp z)⟩⟩
          rintro _ ⟨rfl⟩
          rw [hv, nm_gI]
          exact ⟨ht12, fun z => absurd z hrm, fun _ => hpo⟩
        · obtain ⟨-, hid2, g1, g2⟩ := hM.id_facts (Or.inl rfl) ht
          rw [hty, l1, hv, sp_in (nmL_of hv) l0 l64]
          refine ⟨fun z => absurd z ht1, fun _ => ⟨fun _ => ?_, fun z => absurd hok ((ez_bI _).mp z)⟩⟩
          refine sp_slotOf_some (b := 0) (Or.inl rfl) hd ht.1 ht.2.1 g1 hid2.1 hid2.2 g2 ⟨fun z => absurd z (by rw [ntt, nm_m1]; omega), fun _ => ?_⟩
          rw [ntt, et, nm_gI, ← f42 M hM]
          exact ⟨i12, fun z => absurd z hrm, fun _ => sp_tells hp16 hpo⟩
    · refine MainW.refuse hk1 (-5) (fun po hpo => ?_) (fun M hM po hpo => ?_)
      · unfold wp_X7_sendFrom
        rw [hty, l1, sp_isWithin hv n64]
        exact ⟨fun z => absurd z ht1, fun _ => ⟨fun _ => sp_queueById_none hd h.rootT hn ⟨fun _ => hpo, fun a z => (by cases z)⟩, fun z => absurd hok ((ez_bI _).mp z)⟩⟩
      · rw [hty, l1, hv, sp_in (nmL_of hv) l0 l64]
        exact ⟨fun z => absurd z ht1, fun _ => ⟨fun _ => sp_slotOf_none (b := 0) (Or.inl rfl) hd (hM.id_none (Or.inl rfl) hn) ⟨fun _ => sp_tells hp16 hpo, fun z => absurd rfl z⟩, fun z => absurd hok ((ez_bI _).mp z)⟩⟩
  · refine MainW.refuse hk1 (-4) (fun po hpo => ?_) (fun M hM po hpo => ?_)
    · unfold wp_X7_sendFrom
      rw [hty, l1, sp_isWithin hv n64]
      exact ⟨fun z => absurd z ht1, fun _ => ⟨fun z => absurd ((nz_bI _).mp z) hok, fun _ => hpo⟩⟩
    · rw [hty, l1, hv, sp_in (nmL_of hv) l0 l64]
      exact ⟨fun z => absurd z ht1, fun _ => ⟨fun z => absurd ((nz_bI _).mp z) hok, fun _ => sp_tells hp16 hpo⟩⟩
