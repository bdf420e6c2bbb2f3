/-! LAYER 2: steps -/
theorem sp_setById_some {t : Nat} {x : Int} {C : St} {po : Option Nat → St → Prop} (hx : nm x = x) (ht : idC C 12 t x) (hid : 0 ≤ x ∧ x % 12 = (t - 12 : Nat)) (h : po (some t) C) : wp_X7_setById x C po := by
  unfold wp_X7_setById
  refine sp_thingById_some (Or.inr ⟨rfl, rfl⟩) hx ht hid ⟨fun z => (by cases z), ?_⟩
  rintro _ ⟨rfl⟩
  exact ⟨ht.1, h⟩
theorem sp_setById_none {x : Int} {C : St} {po : Option Nat → St → Prop} (hx : nm x = x) (hr : rootT C) (hn : ∀ t, ¬ idC C 12 t x) (h : po none C) : wp_X7_setById x C po := by
  unfold wp_X7_setById
  exact sp_thingById_none (Or.inr ⟨rfl, rfl⟩) hx hr hn ⟨fun _ => h, fun a z => (by cases z)⟩
theorem bits_w1 {w : Int} (h : 0 ≤ w ∧ w ≤ 3) : zand w 1 = 0 ∨ zand w 1 = 1 := by
  obtain ⟨m, rfl⟩ : ∃ m : Nat, w = m := ⟨w.toNat, by omega⟩
  exact bits_w m (by omega)
theorem sp_noWait {C : St} {p j : Nat} {po : Int → St → Prop} (hj : gI C 27 p 0 = j) (hj8 : j < 8) (h0 : zand (gI C 24 p j) 1 = 0 → po 0 C) (h1 : zand (gI C 24 p j) 1 ≠ 0 → po 1 C) : wp_X4_stoppedNoWait p C po := by
  have nj : nm (j : Int) = j := nm_nat (n := 8) hj8 (by omega)
  unfold wp_X4_stoppedNoWait
  rw [hj, sp_isWithin nj (show nm 7 = 7 by decide)]
  refine ⟨fun z => absurd (by omega) ((ez_bI _).mp z), fun _ => ?_⟩
  rw [hj, nj, Int.toNat_natCast, nm_zand]
  exact ⟨by omega, h0, h1⟩
theorem op_steps {k n : Nat} {ls : List Nat} {C M0 : St} {x d : Int} (hk : k ≤ 65536) (hx : nm x = x) (hd : nm d = d) (h : SimB k n ls none none C M0) : LockW k (k + 1) n ls (wp_X7_steps x d C) C (fun M => wp_X8_steps x d M) := by
  delta wp_X7_steps wp_X8_steps
  refine caller_lockW (ic := fun a s po => wp_X7_stepOn (some a) d s po) (by omega) hx h (fun p hp ex hf hw hnl => ?_)
  subst ex
  have hk1 : k ≤ k + 1 := by omega
  have hr := h.1
  have hp16 : p < 16 := by have := hr.1; omega
  have ep : ((p : Int)).toNat = p := by omega
  have np : nm (p : Int) = p := nm_nat (n := 16) hp16 (by omega)
  have i16 : (0 : Int) ≤ p ∧ (p : Int) < 16 := by omega
  obtain ⟨u1, u2, -, u4⟩ := h.2.2.2.2.2.2.1 p hp
  obtain ⟨g, hg⟩ : ∃ g : Nat, gI C 25 p 0 = g := ⟨(gI C 25 p 0).toNat, by omega⟩
  have hg8 : g ≤ 8 := by omega
  have ng : nm (g : Int) = g := nm_nat (n := 9) (by omega) (by omega)
  have cx := tuC_xi C p
  have hh1 : ∀ t, hre (tuC C p) t ↔ hre C t := hre_xi cx (by unfold Ltu; omega)
  have me1 : MEq C (tuC C p) := cx.meq (by unfold Ltu; omega)
  have e16 : ∀ M, SimB k n ls none none C M → gI M 110 16 p = g := fun M hM => by rw [← (hM.2.2.2.2.2.2.1 p hp).2.2.1]; exact hg
  obtain ⟨M01, -, -, -, h1, -⟩ := mod_steps (s := 0) (x4 := -1) (x5 := 0) h hp hw hg (Or.inl rfl) (fun z => absurd z (by decide))
  have st22 : ∀ j, j < g → 0 ≤ gI C 22 p j ∧ gI C 22 p j ≤ 7 := fun j hj => by
    obtain ⟨-, -, -, s4, s5, -⟩ := u4 j (by omega)
    exact ⟨s4, s5⟩
  have f22 : ∀ j, gI (tuC C p) 22 p j = gI C 22 p j := fun j => cx.2.1 22 p j (by unfold Ltu; omega)
  have f23 : ∀ j, gI (tuC C p) 23 p j = gI C 23 p j := fun j => cx.2.1 23 p j (by unfold Ltu; omega)
  have f26 : gI (tuC C p) 26 p 0 = g := by rw [tuC_26]; exact hg
  intro po hpo
  -- the class: to the set
  have top : wp_X7_setById d (tuC C p) (fun o101 s102 => (o101 = none → po (-5) s102) ∧
 (∀ a102, o101 = some a102 → (nm (gI s102 26 p 0) = 0 → po (-5) s102) ∧
 (nm (gI s102 26 p 0) ≠ 0 → wp_X4_highestCounter p s102 (fun r101 s103 => 12 ≤ a102 ∧ (nm r101 < nm (gI s103 45 a102 0) → wp_X4_haveChange p s103 (fun r102 s104 => (nm r102 = 0 → wp_X7_stepOn_58 po (some p) (some p) (some a102) 4 (some p) (some a102) s104) ∧
 (nm r102 ≠ 0 → wp_X7_stepOn_58 po (some p) (some p) (some a102) 2 (some p) (some a102) s104))) ∧
 (nm (gI s103 45 a102 0) ≤ nm r101 → po (-5) s103))))) → wp_X7_stepOn (some p) d C po := by
    intro hgo
    unfold wp_X7_stepOn wp_X4_takeUp
    refine ⟨p, rfl, ?_⟩
    rintro _ rfl _ rfl
    exact hgo
  -- refused with INVALID
  have inv : (∀ M, SimB k n ls none none C M → ∃ M1, SimB k n ls none none (tuC C p) M1 ∧ CEq M M1 ∧ ∀ po : Int → St → Prop, po (-5) (uI M1 110 4 p (-5)) → (0 ≤ (p : Int) ∧ (p : Int) < 16) ∧ (0 ≤ (p : Int) ∧ (p : Int) < 16) ∧ ∀ s103, s103 = uI M 110 16 p 0 → wp_X8_slotOf d 12 s103 (fun r103 s104 => (nm r103 = nm (-1) → ∃ n9, wp_X8_steps_68 po n9 (p : Int) (gI M 110 16 p) r103 0 0 0 s104) ∧
 (nm r103 ≠ nm (-1) → (nm (gI M 110 16 p) ≤ 0 → ∃ n9, wp_X8_steps_68 po n9 (p : Int) (gI M 110 16 p) r103 0 0 0 s104) ∧
 (0 < nm (gI M 110 16 p) → ∃ n9, wp_X8_steps_68 po n9 (p : Int) (gI M 110 16 p) r103 1 0 0 s104)))) → po (-5) (tuC C p) := by
    intro hall
    refine hpo (-5) _ me1 (fun M hM => ?_)
    obtain ⟨M1, k1, k2, k3⟩ := hall M hM
    refine ⟨uI M1 110 4 p (-5), fun po2 hpo2 => ?_, k2.uI _ _ _ _ (by decide), n, ls, (SimB.tell k1 (Or.inl rfl)).mono hk1⟩
    have := k3 po2 hpo2
    rw [np, ep]; exact this
  have noslot : ∀ M, SimB k n ls none none C M → (∀ t, ¬ idC C 12 t d) → ∀ po : Int → St → Prop, po (-1) (uI M 110 16 p 0) → wp_X8_slotOf d 12 (uI M 110 16 p 0) po := by
    intro M hM hn po2 hpo2
    refine sp_slotOf_none (b := 12) (Or.inr rfl) hd (fun t a b c e f i => ?_) hpo2
    rw [gI_uI, if_neg (by omega)] at c i
    exact hM.id_none (Or.inr rfl) hn t a b c e f i
  have slot : ∀ M, SimB k n ls none none C M → ∀ t, idC C 12 t d → ∀ po : Int → St → Prop, po (t : Int) (uI M 110 16 p 0) → wp_X8_slotOf d 12 (uI M 110 16 p 0) po := by
    intro M hM t ht po2 hpo2
    obtain ⟨-, hid, g1, g2⟩ := hM.id_facts (Or.inr rfl) ht
    exact sp_slotOf_some (b := 12) (Or.inr rfl) hd ht.1 ht.2.1 (by rw [gI_uI, if_neg (by omega)]; exact g1) hid.1 hid.2 (by rw [gI_uI, if_neg (by omega)]; exact g2) hpo2
  refine top ?_
  rcases id_or C 12 d with ⟨t, ht⟩ | hn
  · have ht1 : idC (tuC C p) 12 t d := ⟨ht.1, ht.2.1, (hh1 t).mpr ht.2.2.1, by rw [cx.2.1 33 t 0 (by unfold Ltu; omega)]; exact ht.2.2.2⟩
    obtain ⟨ht24, hid, -, -⟩ := h.id_facts (Or.inr rfl) ht
    obtain ⟨s, rfl⟩ : ∃ s, t = 12 + s := ⟨t - 12, by have := ht.1; omega⟩
    have hs : s < 12 := by omega
    have hh : hre C (12 + s) := ht.2.2.1
    have hhC : hre (tuC C p) (12 + s) := (hh1 _).mpr hh
    obtain ⟨-, c1, c8, -⟩ := h.2.2.2.2.2.2.2.2.2.2.1 s hs hh
    obtain ⟨cnt, h45⟩ : ∃ cnt : Nat, gI C 45 (12 + s) 0 = cnt := ⟨(gI C 45 (12 + s) 0).toNat, by omega⟩
    have f45 : gI (tuC C p) 45 (12 + s) 0 = cnt := by rw [cx.2.1 45 _ 0 (by unfold Ltu; omega)]; exact h45
    have m38 : ∀ M, SimB k n ls none none C M → gI M 110 38 s = cnt := fun M hM => by rw [← (hM.2.2.2.2.2.2.2.2.2.2.1 s hs hh).1]; exact h45
    have ntt : nm (((12 + s : Nat)) : Int) = ((12 + s : Nat) : Int) := nm_nat (n := 24) (by omega) (by omega)
    refine sp_setById_some hd ht1 hid ⟨fun z => (by cases z), ?_⟩
    rintro _ ⟨rfl⟩
    rw [f26, ng]
    -- the model's call, when the steps are there
    have mcall : ∀ (g0 : 0 < g) M, SimB k n ls none none C M → ∀ po : Int → St → Prop, (∃ n9, wp_X8_steps_68 po n9 (p : Int) (g : Int) ((12 + s : Nat) : Int) 1 0 0 (uI M 110 16 p 0)) → (0 ≤ (p : Int) ∧ (p : Int) < 16) ∧ (0 ≤ (p : Int) ∧ (p : Int) < 16) ∧ ∀ s103, s103 = uI M 110 16 p 0 → wp_X8_slotOf d 12 s103 (fun r103 s104 => (nm r103 = nm (-1) → ∃ n9, wp_X8_steps_68 po n9 (p : Int) (gI M 110 16 p) r103 0 0 0 s104) ∧
 (nm r103 ≠ nm (-1) → (nm (gI M 110 16 p) ≤ 0 → ∃ n9, wp_X8_steps_68 po n9 (p : Int) (gI M 110 16 p) r103 0 0 0 s104) ∧
 (0 < nm (gI M 110 16 p) → ∃ n9, wp_X8_steps_68 po n9 (p : Int) (gI M 110 16 p) r103 1 0 0 s104))) := by
      intro g0 M hM po2 hpo2
      refine ⟨i16, i16, ?_⟩
      rintro _ rfl
      rw [e16 M hM, ng]
      refine slot M hM _ ht _ ⟨fun z => absurd z (by rw [ntt, nm_m1]; omega), fun _ => ⟨fun z => absurd z (by omega), fun _ => hpo2⟩⟩
    refine ⟨fun z => inv (fun M hM => ?_), fun z => ?_⟩
    · -- no steps
      have g0 : g = 0 := by omega
      obtain ⟨M1, y5, y6, a1, a2, a3, a4, a5, a6, a7, a8⟩ := mod_steps (s := s) (x4 := ((12 + s : Nat) : Int)) (x5 := 0) hM hp hw hg (Or.inl rfl) (fun z => absurd z (by decide))
      have y0 : y5 = 0 := by
        rcases a4 with y | y
        · exact y
        · have := (a6.mp y).1; omega
      refine ⟨M1, a2, a1.ceq (by unfold Lcp; omega), fun po2 hpo2 => ⟨i16, i16, ?_⟩⟩
      rintro _ rfl
      rw [e16 M hM, ng]
      refine slot M hM _ ht _ ⟨fun z => absurd z (by rw [ntt, nm_m1]; omega), fun _ => ⟨fun _ => a8 po2 (fun y => by omega) (fun _ => sp_tells hp16 hpo2), fun y => absurd y (by omega)⟩⟩
    · have g0 : 0 < g := by omega
      obtain ⟨r, hr7, hr2, hr3⟩ := highest_loop (C := tuC C p) (p := p) (g := g) f26 hg8 (fun j hj => by rw [f22]; exact st22 j hj) g 0 0 (by omega) (by decide)
      have nr : nm r = r := nm_id (by omega)
      refine ⟨g + 1, hr3 _ ?_⟩
      rw [f45, nr, nm_nat (n := 9) (p := cnt) (by omega) (by omega)]
      refine ⟨ht.1, fun z => ?_, fun z => inv (fun M hM => ?_)⟩
      · -- all counters are there
        have okc : ∀ j, j < g → gI C 22 p j < cnt := fun j hj => by rw [← f22]; exact ((hr2 cnt).mp z).2 j (by omega) hj
        have hst : stC (tuC C p) p g cnt := by
          refine ⟨f26, hg8, fun i hi => ?_⟩
          obtain ⟨-, -, -, s4, s5, s6, s7, s8, s9⟩ := u4 i (by omega)
          rw [f22, f23, cx.2.1 24 p i (by unfold Ltu; omega)]
          exact ⟨⟨(gI C 22 p i).toNat, by omega, by have := okc i hi; omega⟩, ⟨s6, s7⟩, s8, s9⟩
        obtain ⟨b, hb, hb2, hb3⟩ := change_loop (C := tuC C p) (p := p) (g := g) f26 hg8 g 0 (by omega)
        have nb : nm b = b := by rcases hb with rfl | rfl <;> decide
        simp only [f23] at hb2
        -- the model to its test
        have mod : ∀ M, SimB k n ls none none C M → ∃ M1, SimB k n ls none none (tuC C p) M1 ∧ CEq M M1 ∧ stM (tuC C p) M1 p g ∧ ∀ po : Int → St → Prop, wp_X8_steps_217 po (p : Int) ((12 + s : Nat) : Int) (if b = 0 then 4 else 2) ((12 + s : Nat) : Int) (p : Int) M1 → (0 ≤ (p : Int) ∧ (p : Int) < 16) ∧ (0 ≤ (p : Int) ∧ (p : Int) < 16) ∧ ∀ s103, s103 = uI M 110 16 p 0 → wp_X8_slotOf d 12 s103 (fun r103 s104 => (nm r103 = nm (-1) → ∃ n9, wp_X8_steps_68 po n9 (p : Int) (gI M 110 16 p) r103 0 0 0 s104) ∧
 (nm r103 ≠ nm (-1) → (nm (gI M 110 16 p) ≤ 0 → ∃ n9, wp_X8_steps_68 po n9 (p : Int) (gI M 110 16 p) r103 0 0 0 s104) ∧
 (0 < nm (gI M 110 16 p) → ∃ n9, wp_X8_steps_68 po n9 (p : Int) (gI M 110 16 p) r103 1 0 0 s104))) := by
          intro M hM
          obtain ⟨M1, y5, y6, a1, a2, a3, a4, a5, a6, a7, a8⟩ := mod_steps (s := s) (x4 := ((12 + s : Nat) : Int)) (x5 := 1) hM hp hw hg (Or.inr rfl) (fun _ => ⟨hs, rfl⟩)
          have y1 : y5 = 1 := a6.mpr ⟨rfl, fun j hj => by rw [m38 M hM]; exact okc j hj⟩
          refine ⟨M1, a2, a1.ceq (by unfold Lcp; omega), a3, fun po2 hpo2 => mcall g0 M hM po2 (a8 po2 (fun _ => ?_) (fun y => by omega))⟩
          by_cases w : b = 0
          · rw [if_pos w] at hpo2
            have : y6 = 0 := a7.mpr (fun j hj => hb2.mp w j (by omega) hj)
            exact ⟨fun y => by omega, fun _ => hpo2⟩
          · rw [if_neg w] at hpo2
            exact ⟨fun _ => hpo2, fun y => absurd (hb2.mpr (fun j _ hj => a7.mp y j hj)) w⟩
        -- the class behind the test
        have wrng : ∀ w : Int, w = (if b = 0 then 4 else 2) → 0 ≤ w ∧ w ≤ 7 := by
          intro w hw; subst hw; split <;> decide
        have fin : ∀ w : Int, w = (if b = 0 then 4 else 2) → wp_X7_stepOn_58 po (some p) (some p) (some (12 + s)) w (some p) (some (12 + s)) (tuC C p) := by
          intro w hww
          have may1 : ∀ M M1, SimB k n ls none none C M → SimB k n ls none none (tuC C p) M1 → mayC (tuC C p) (12 + s) p = mayN (gI M1 110 1 p) (gI M1 110 2 p) (gI M1 110 27 (12 + s)) (gI M1 110 28 (12 + s)) (gI M1 110 29 (12 + s)) (gI M1 110 30 (12 + s)) (gI M1 110 31 (12 + s)) := fun M M1 hM hM1 => mayCM hM1 (by omega) hp hhC
          unfold wp_X7_stepOn_58
          refine ⟨12 + s, rfl, by omega, ?_⟩
          by_cases hgr : graC (tuC C p) (12 + s) p w
          · refine sp_grantsAll (wrng w hww) (h1.md ht24 hhC) (fun _ => ⟨fun _ => ?_, fun y => absurd y (by decide)⟩) (fun y => absurd hgr y)
            obtain ⟨o, C2, ho, run2, x2, stp, ch51, rel2⟩ := attempt_lock h1 hp hs hhC f45 hst
            have me2 : MEq C C2 := me1.tr (x2.meq (by unfold LT; omega))
            have hhC2 : hre C2 (12 + s) := (hre_xi x2 (by unfold LT; omega) _).mpr hhC
            -- the model behind the test
            have mod2 : ∀ M, SimB k n ls none none C M → ∃ (rr : Int) (M2 : St), SimB k n ls none none C2 M2 ∧ CEq M M2 ∧ stM C2 M2 p g ∧ (o = 0 → (rr = 0 ∨ rr = 1) ∧ (rr = 1 ↔ gI C2 51 (12 + s) 0 = 1)) ∧ (o = 1 → rr = 2 ∧ gI C2 27 p 0 = gI M2 110 14 p) ∧ (o = -15 → rr = 3) ∧ ∀ po : Int → St → Prop, ((nm rr ≠ nm 3 → (nm rr ≠ nm 2 → (0 ≤ (p : Int) ∧ (p : Int) < 16) ∧ ∀ s108, s108 = uI M2 110 4 p 0 → (nm rr ≠ nm 1 → po 0 s108) ∧
 (nm rr = nm 1 → wp_X8_serve (s : Int) s108 (fun s109 => po 0 s109))) ∧
 (nm rr = nm 2 → (0 ≤ (p : Int) ∧ (p : Int) < 16) ∧ (0 ≤ nm ((8 * (p : Int)) + (gI M2 110 14 p)) ∧ nm ((8 * (p : Int)) + (gI M2 110 14 p)) < 128) ∧ (nm (zand (gI M2 110 23 (nm ((8 * (p : Int)) + (gI M2 110 14 p))).toNat) 1) ≠ nm 1 → wp_X8_wait (p : Int) 3 (s : Int) M2 (fun s110 => wp_X8_tells (p : Int) (-10) s110 (fun r106 s111 => po r106 s111))) ∧
 (nm (zand (gI M2 110 23 (nm ((8 * (p : Int)) + (gI M2 110 14 p))).toNat) 1) = nm 1 → wp_X8_tells (p : Int) (-11) M2 (fun r107 s112 => po r107 s112)))) ∧
 (nm rr = nm 3 → wp_X8_tells (p : Int) (-15) M2 (fun r108 s113 => po r108 s113))) → (0 ≤ (p : Int) ∧ (p : Int) < 16) ∧ (0 ≤ (p : Int) ∧ (p : Int) < 16) ∧ ∀ s103, s103 = uI M 110 16 p 0 → wp_X8_slotOf d 12 s103 (fun r103 s104 => (nm r103 = nm (-1) → ∃ n9, wp_X8_steps_68 po n9 (p : Int) (gI M 110 16 p) r103 0 0 0 s104) ∧
 (nm r103 ≠ nm (-1) → (nm (gI M 110 16 p) ≤ 0 → ∃ n9, wp_X8_steps_68 po n9 (p : Int) (gI M 110 16 p) r103 0 0 0 s104) ∧
 (0 < nm (gI M 110 16 p) → ∃ n9, wp_X8_steps_68 po n9 (p : Int) (gI M 110 16 p) r103 1 0 0 s104))) := by
              intro M hM
              obtain ⟨M1, a1, a2, a3, a4⟩ := mod M hM
              obtain ⟨rr, M2, run3, y3, b2, b3, b4, b5⟩ := rel2 M1 a1 a3
              have es : (((12 + s : Nat) : Int) - 12) = (s : Int) := by omega
              refine ⟨rr, M2, b2, a2.tr (y3.ceq (by unfold LTM; omega)), a3.xi x2 (by unfold LT; omega) y3 (by unfold LTM; omega), b3, b4, b5, fun po2 hpo2 => a4 po2 ?_⟩
              unfold wp_X8_steps_217
              rw [← hww]
              refine sp_hasAll hp16 (by omega) (may1 M M1 hM a1) (fun _ => ⟨fun _ => ?_, fun y => absurd y (by decide)⟩) (fun y => absurd hgr y)
              rw [es, np, ep]
              exact run3 _ hpo2
            refine ⟨p, rfl, 12 + s, rfl, by omega, ?_⟩
            rw [(h1.2.2.2.2.2.1 p hp).1]
            refine run2 _ ?_
            obtain ⟨M02, r02, h2, -⟩ := mod2 M0 h
            rcases ho with rfl | rfl | rfl
            · refine ⟨fun _ => ⟨fun y => absurd n0 y, fun _ => ?_⟩, fun y => absurd y (by decide)⟩
              rw [nm_gI]
              refine ⟨fun y => hpo 0 C2 me2 (fun M hM => ?_), fun y => ?_⟩
              · obtain ⟨rr, M2, a1, a2, -, a3, -, -, a4⟩ := mod2 M hM
                have hr0 : rr = 0 := by
                  obtain ⟨q1, q2⟩ := a3 rfl
                  rcases q1 with q | q
                  · exact q
                  · have := q2.mp q; omega
                subst hr0
                refine ⟨uI M2 110 4 p 0, fun po2 hpo2 => ?_, a2.uI _ _ _ _ (by decide), n, ls, (SimB.tell a1 (Or.inl rfl)).mono hk1⟩
                have := a4 po2 ⟨fun _ => ⟨fun _ => ⟨i16, fun s108 e => ⟨fun _ => by rw [e]; exact hpo2, fun q => absurd q (by decide)⟩⟩, fun q => absurd q (by decide)⟩, fun q => absurd q (by decide)⟩
                rw [np, ep]; exact this
              · have h51 : gI C2 51 (12 + s) 0 = 1 := by
                  rcases ch51 rfl with q | q
                  · exact absurd q y
                  · exact q
                have hA0 : SimB k n ls (some p) none C2 (uI r02 110 4 p 0) := SimB.ahead h2
                obtain ⟨C3, ls', v1, v2, v3, v4, v5, v6⟩ := serve hs hA0 hhC2
                refine v5 _ (hpo 0 C3 (me2.tr v1) (fun M hM => ?_))
                obtain ⟨rr, M2, a1, a2, -, a3, -, -, a4⟩ := mod2 M hM
                have hr1 : rr = 1 := (a3 rfl).2.mpr h51
                subst hr1
                obtain ⟨M3, w1, w2, w3, w4⟩ := v6 (uI M2 110 4 p 0) (SimB.ahead a1)
                refine ⟨M3, fun po2 hpo2 => ?_, (a2.uI _ _ _ _ (by decide)).tr w2, n, ls', (w1.told ?_).mono hk1⟩
                · have := a4 po2 ⟨fun _ => ⟨fun _ => ⟨i16, fun s108 e => ⟨fun q => absurd rfl q, fun _ => by rw [e]; exact w4 _ hpo2⟩⟩, fun q => absurd q (by decide)⟩, fun q => absurd q (by decide)⟩
                  rw [np, ep]; exact this
                · rw [w3.1 p hnl, gI_uI, if_pos ⟨rfl, rfl, rfl⟩]
            · refine ⟨fun y => absurd rfl y, fun _ => ⟨p, rfl, ?_⟩⟩
              obtain ⟨j, hj, e27⟩ := stp rfl
              have e24 : gI C2 24 p j = gI C 24 p j := by rw [x2.2.1 24 p j (by unfold LT; omega), cx.2.1 24 p j (by unfold Ltu; omega)]
              obtain ⟨-, -, -, -, -, -, -, s8, s9⟩ := u4 j (by omega)
              have hw24 := bits_w1 (w := gI C2 24 p j) (by rw [e24]; exact ⟨s8, s9⟩)
              have m23 : ∀ M2, stM C2 M2 p g → gI C2 27 p 0 = gI M2 110 14 p → nm (8 * (p : Int) + gI M2 110 14 p) = ((8 * p + j : Nat) : Int) ∧ nm (zand (gI M2 110 23 (8 * p + j)) 1) = zand (gI C2 24 p j) 1 := by
                intro M2 q1 q2
                rw [← q2, e27, ← (q1.2 j hj).2.2, nm_zand, nm_id (by omega)]
                exact ⟨by omega, rfl⟩
              refine sp_noWait e27 (by omega) (fun z1 => ⟨fun _ => ?_, fun y => absurd n0 y⟩) (fun z1 => ⟨fun y => absurd y (by decide), fun _ => ?_⟩)
              · -- it waits
                have hl2 := line_room h2 hp hnl
                refine run_begin h2.2.1 hl2 (hpo (-10) _ (me2.tr ?_) (fun M hM => ?_))
                · exact (((MEq.rf.uI _ _ _ _ (by decide)).uR _ _ _ _).uR _ _ _ _).uI _ _ _ _ (by decide)
                · obtain ⟨rr, M2, a1, a2, a25, -, a3, -, a4⟩ := mod2 M hM
                  obtain ⟨hr2', e14⟩ := a3 rfl
                  subst hr2'
                  have hT := a1.2.2.1
                  have bM : ∀ f b, f ≠ 7 → f ≠ 8 → f ≠ 9 → gI (bgM M2 p 3 (s : Int)) 110 f b = gI M2 110 f b := fun f b z1 z2 z3 => by rw [gI_bgM, if_neg (by omega), if_neg (by omega), if_neg (by omega), if_neg (by omega)]
                  have bC : ∀ f a b, f ≠ 2 → f ≠ 15 → gI (bgC C2 p ls.length 3 (some (12 + s))) f a b = gI C2 f a b := fun f a b z1 z2 => by rw [gI_bgC, if_neg (by omega), if_neg (by omega)]
                  have x02 : ∀ f a b, f ≠ 25 → f ≠ 26 → f ≠ 27 → ¬ (46 ≤ f ∧ f ≤ 51) → gI C2 f a b = gI C f a b := fun f a b z1 z2 z3 z4 => by rw [x2.2.1 f a b (by unfold LT; omega), cx.2.1 f a b (by unfold Ltu; omega)]
                  have hbg := a1.begin (kd := 3) (o := some (12 + s)) (sl := (s : Int)) hk hp hnl (by decide) (by decide) (by
                    refine Or.inr (Or.inr (Or.inr ⟨?_, s, hs, ?_, ?_, ?_, ?_⟩))
                    · rw [gI_bgC, if_neg (by omega), if_pos ⟨rfl, rfl, rfl⟩]; decide
                    · rw [gR_bgC, if_neg (by omega), if_pos ⟨rfl, rfl, rfl⟩]
                    · rw [gI_bgM, if_neg (by omega), if_neg (by omega), if_pos ⟨rfl, rfl, rfl⟩]; exact nm_nat (n := 12) hs (by omega)
                    · have q := hhC2
                      unfold hre at q ⊢
                      rw [gI_bgC, if_neg (by omega), if_neg (by omega)]
                      unfold rt at q ⊢
                      simpa [gR_bgC] using q
                    · have e26 : gI C2 26 p 0 = g := by rw [x2.2.1 26 p 0 (by unfold LT; omega)]; exact f26
                      refine ⟨?_, ?_, ?_, ?_, ?_, ?_, ?_, fun i hi => ?_⟩
                      · rw [bC 25 p 0 (by decide) (by decide), x2.2.1 25 p 0 (by unfold LT; omega)]; exact tuC_25 C p
                      · rw [bC 26 p 0 (by decide) (by decide), e26]; omega
                      · rw [bC 26 p 0 (by decide) (by decide), e26]; omega
                      · rw [bC 26 p 0 (by decide) (by decide), e26, bM 20 p (by decide) (by decide) (by decide)]; exact a25.1.symm
                      · rw [bC 27 p 0 (by decide) (by decide), e27]; omega
                      · rw [bC 27 p 0 (by decide) (by decide), bC 26 p 0 (by decide) (by decide), e27, e26]; omega
                      · rw [bC 27 p 0 (by decide) (by decide), bM 14 p (by decide) (by decide) (by decide)]; exact e14
                      · rw [bC 26 p 0 (by decide) (by decide), e26] at hi
                        obtain ⟨q1, q2, q3⟩ := a25.2 i (by omega)
                        obtain ⟨-, -, -, s4, s5, s6, s7, s8, s9⟩ := u4 i (by omega)
                        unfold stepOK
                        rw [bC 22 p i (by decide) (by decide), bC 23 p i (by decide) (by decide), bC 24 p i (by decide) (by decide), bC 45 _ 0 (by decide) (by decide), bM 21 _ (by decide) (by decide) (by decide), bM 22 _ (by decide) (by decide) (by decide), bM 23 _ (by decide) (by decide) (by decide), ← q1, ← q2, ← q3]
                        rw [x02 22 p i (by decide) (by decide) (by decide) (by decide), x02 23 p i (by decide) (by decide) (by decide) (by decide), x02 24 p i (by decide) (by decide) (by decide) (by decide), x02 45 _ 0 (by decide) (by decide) (by decide) (by decide)]
                        exact ⟨⟨rfl, rfl, rfl, s4, s5, s6, s7, s8, s9⟩, by rw [h45]; exact okc i (by omega)⟩)
                  refine ⟨uI (bgM M2 p 3 (s : Int)) 110 4 p (-10), fun po2 hpo2 => ?_, (a2.tr ?_).uI _ _ _ _ (by decide), ⟨n, ls ++ [p], SimB.tell hbg (Or.inl rfl)⟩⟩
                  · obtain ⟨m1, m2⟩ := m23 M2 a25 e14
                    have := a4 po2 ⟨fun _ => ⟨fun q => absurd rfl q, fun _ => ⟨i16, by rw [m1]; omega, fun _ => run_wait hp16 ⟨hT.1, by have := hT.2.1; omega⟩ (sp_tells hp16 hpo2), fun q => by
                      rw [m1, Int.toNat_natCast, m2, z1] at q; exact absurd q (by decide)⟩⟩, fun q => absurd q (by decide)⟩
                    rw [np, ep]; exact this
                  · exact (((CEq.rf.uI _ _ _ _ (by decide)).uI _ _ _ _ (by decide)).uI _ _ _ _ (by decide)).uI _ _ _ _ (by decide)
              · -- AGAIN
                refine hpo (-11) C2 me2 (fun M hM => ?_)
                obtain ⟨rr, M2, a1, a2, a25, -, a3, -, a4⟩ := mod2 M hM
                obtain ⟨hr2', e14⟩ := a3 rfl
                subst hr2'
                obtain ⟨m1, m2⟩ := m23 M2 a25 e14
                refine ⟨uI M2 110 4 p (-11), fun po2 hpo2 => ?_, a2.uI _ _ _ _ (by decide), n, ls, (SimB.tell a1 (Or.inl rfl)).mono hk1⟩
                have := a4 po2 ⟨fun _ => ⟨fun q => absurd rfl q, fun _ => ⟨i16, by rw [m1]; omega, fun q => (by
                  rw [m1, Int.toNat_natCast, m2] at q
                  have e1 : zand (gI C2 24 p j) 1 = 1 := by
                    rcases hw24 with y | y
                    · exact absurd y z1
                    · exact y
                  rw [e1] at q; exact absurd (by decide) q), fun _ => sp_tells hp16 hpo2⟩⟩, fun q => absurd q (by decide)⟩
                rw [np, ep]; exact this
            · refine ⟨fun _ => ⟨fun _ => hpo (-15) C2 me2 (fun M hM => ?_), fun y => absurd y (by decide)⟩, fun y => absurd y (by decide)⟩
              obtain ⟨rr, M2, a1, a2, -, -, -, a3, a4⟩ := mod2 M hM
              have hr3 := a3 rfl
              subst hr3
              refine ⟨uI M2 110 4 p (-15), fun po2 hpo2 => ?_, a2.uI _ _ _ _ (by decide), n, ls, (SimB.tell a1 (Or.inl rfl)).mono hk1⟩
              have := a4 po2 ⟨fun q => absurd rfl q, fun _ => sp_tells hp16 hpo2⟩
              rw [np, ep]; exact this
          · refine sp_grantsAll (wrng w hww) (h1.md ht24 hhC) (fun y => absurd y hgr) (fun _ => ⟨fun y => absurd n0 y, fun _ => hpo (-6) _ me1 (fun M hM => ?_)⟩)
            obtain ⟨M1, a1, a2, a3, a4⟩ := mod M hM
            refine ⟨uI M1 110 4 p (-6), fun po2 hpo2 => ?_, a2.uI _ _ _ _ (by decide), n, ls, (SimB.tell a1 (Or.inl rfl)).mono hk1⟩
            have := a4 po2 (by
              unfold wp_X8_steps_217
              rw [← hww]
              exact sp_hasAll hp16 (by omega) (may1 M M1 hM a1) (fun y => absurd y hgr) (fun _ => ⟨fun y => absurd n0 y, fun _ => sp_tells hp16 hpo2⟩))
            rw [np, ep]; exact this
        refine ⟨g + 1, hb3 _ ?_⟩
        rw [nb]
        exact ⟨fun y => fin 4 (by rw [if_pos y]), fun y => fin 2 (by rw [if_neg y])⟩
      · -- a counter that isn't there
        obtain ⟨M1, y5, y6, a1, a2, a3, a4, a5, a6, a7, a8⟩ := mod_steps (s := s) (x4 := ((12 + s : Nat) : Int)) (x5 := 1) hM hp hw hg (Or.inr rfl) (fun _ => ⟨hs, rfl⟩)
        have y0 : y5 = 0 := by
          rcases a4 with y | y
          · exact y
          · have q := (a6.mp y).2
            have : r < cnt := (hr2 cnt).mpr ⟨by omega, fun j _ hj => by rw [f22, ← m38 M hM]; exact q j hj⟩
            omega
        exact ⟨M1, a2, a1.ceq (by unfold Lcp; omega), fun po2 hpo2 => mcall g0 M hM po2 (a8 po2 (fun y => by omega) (fun _ => sp_tells hp16 hpo2))⟩
  · have hn1 : ∀ t, ¬ idC (tuC C p) 12 t d := fun t ht => hn t ⟨ht.1, ht.2.1, (hh1 t).mp ht.2.2.1, by rw [← cx.2.1 33 t 0 (by unfold Ltu; omega)]; exact ht.2.2.2⟩
    refine sp_setById_none hd h1.rootT hn1 ⟨fun _ => inv (fun M hM => ?_), fun a z => (by cases z)⟩
    obtain ⟨M1, y5, y6, a1, a2, a3, a4, a5, a6, a7, a8⟩ := mod_steps (s := 0) (x4 := -1) (x5 := 0) hM hp hw hg (Or.inl rfl) (fun z => absurd z (by decide))
    have y0 : y5 = 0 := by
      rcases a4 with y | y
      · exact y
      · have := (a6.mp y).1; omega
    refine ⟨M1, a2, a1.ceq (by unfold Lcp; omega), fun po2 hpo2 => ⟨i16, i16, ?_⟩⟩
    rintro _ rfl
    rw [e16 M hM]
    exact noslot M hM hn _ ⟨fun _ => a8 po2 (fun y => by omega) (fun _ => sp_tells hp16 hpo2), fun z => absurd rfl z⟩
