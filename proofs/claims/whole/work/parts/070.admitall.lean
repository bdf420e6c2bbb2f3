/-! LAYER 2: senders are let in -/
theorem admit_step {k n : Nat} {ls : List Nat} {e e2 : Option Nat} {C M0 : St} (h : SimB k n ls e e2 C M0) :
    ((∀ po, po 0 C → wp_X7_admitFirstSender C po) ∧ ∀ M, SimB k n ls e e2 C M → ∀ (po : St → Prop) (X2 : Int → St → Prop), X2 0 M → ∃ nf, wp_X8_waiter 1 (-1) 0 M (fun r s => wp_X8_lookAtSenders_16 po X2 nf 0 r s)) ∨
    (∀ po : Int → St → Prop, (∀ C' ls', ls'.length < ls.length → ls'.Sublist ls → MEq C C' → (∃ M1, SimB k n ls' e e2 C' M1) → (∀ M, SimB k n ls e e2 C M → ∃ M', SimB k n ls' e e2 C' M' ∧ CEq M M' ∧ (∀ q, q ∉ ls → gI M' 110 4 q = gI M 110 4 q) ∧ ∀ (po : St → Prop) (X2 : Int → St → Prop), X2 1 M' → ∃ nf, wp_X8_waiter 1 (-1) 0 M (fun r s => wp_X8_lookAtSenders_16 po X2 nf 0 r s)) → po 1 C') → wp_X7_admitFirstSender C po) := by
  have h16 := h.2.1.2.2.1
  have turn0 : ∀ M, SimB k n ls e e2 C M → ∀ p ∈ ls, 0 < gI M 110 8 p := fun M hS p hp => by
    have := (hS.2.2.1.2.2.1 p hp).1
    omega
  rcases cnd_or C ls with hn | ⟨l1, p, l2, s, hl, hn, hcd⟩
  · refine Or.inl ⟨fun po hpo => ⟨(16 - ls.length + 1) + ls.length, ?_⟩, fun M hM po X2 hX => ?_⟩
    · have := adm_skip h ls [] [] (by simp) hn (16 - ls.length + 1) (po := po) (by
        simp only [List.length_nil, Nat.zero_add]
        exact adm_idle h.2.1 hpo _ _ (by omega) (Nat.le_refl _))
      exact this
    · refine look_skip hM ls [] [] (by simp) hn (fun bh hb h1 _ => ⟨1, ?_⟩) 0 n0 (fun p hp => by cases hp) (by simpa using turn0 M hM)
      refine sp_waiter_none hM (by decide) (by decide) hb (by decide) (fun q hq hw => ?_) ?_
      · have hqn := ((hM.2.1.2.2.2.2 q).mp hq).1
        have e7 := (hM.2.2.2.2.2.1 q hqn).2.2.2.2.2.1
        have := h1 q (by simpa using hq) (by rw [e7]; exact hw.1)
        have := hw.2.2
        omega
      · unfold wp_X8_lookAtSenders_16
        exact ⟨fun _ => hX, fun z => absurd rfl z⟩
  · refine Or.inr (fun po hpo => ?_)
    have hpl : p ∈ ls := by rw [hl]; simp
    have hpn := ((h.2.1.2.2.2.2 p).mp hpl).1
    have hn16 := h.1.1
    obtain ⟨hk, hr, hfit⟩ := hcd
    have wl : (without ls p).length < ls.length := by
      have e : without ls p = l1 ++ l2 := by rw [hl]; exact without_mid (by rw [← hl]; exact h.2.1.2.2.2.1)
      rw [e, hl]; simp
    -- what any model has of the sender
    have par : ∀ M, SimB k n ls e e2 C M → (gL C 11 (2 * p) 0 = gL M 110 10 p ∧ gI C 17 (2 * p) 0 = gI M 110 11 p ∧ gI M 110 9 p = s ∧ gI M 110 7 p = 1 ∧ 1 ≤ gL C 11 (2 * p) 0 ∧ 0 ≤ gI C 17 (2 * p) 0 ∧ gI C 17 (2 * p) 0 ≤ 64 ∧ s < 12 ∧ hre C s) ∧ ∀ j : Nat, (j : Int) < gI C 17 (2 * p) 0 → gI C 18 (2 * p) j = gI M 110 13 (64 * p + j) := by
      intro M hM
      obtain ⟨hsd, s', hs, hr', h9, hh⟩ := sdr_facts hM hpn hk
      rw [hr] at hr'
      cases hr'
      have e7 := (hM.2.2.2.2.2.1 p hpn).2.2.2.2.2.1
      rw [hk] at e7
      exact ⟨⟨hsd.1, hsd.2.2.1, h9, e7.symm, hsd.2.1, hsd.2.2.2.1, hsd.2.2.2.2.1, hs, hh⟩, hsd.2.2.2.2.2⟩
    obtain ⟨⟨-, -, -, -, ty1, sz0, sz64, hs, hh⟩, hby⟩ := par M0 h
    obtain ⟨m, hm⟩ : ∃ m : Nat, gI C 17 (2 * p) 0 = m := ⟨(gI C 17 (2 * p) 0).toNat, by omega⟩
    obtain ⟨-, qc0, qc40, -⟩ := h.2.2.2.2.2.2.2.2.2.1 s hs hh
    obtain ⟨c, hc⟩ : ∃ c : Nat, gI C 40 s 0 = c := ⟨(gI C 40 s 0).toNat, by omega⟩
    have hf1 := HFC.goOn C ls p 0
    have mm : ∀ M, SimB k n ls e e2 C M → msgM (goOnS C ls p 0) M (2 * p) p (gL C 11 (2 * p) 0) m := by
      intro M hM j hj
      rw [hf1.1.2.1 18 (by decide)]
      exact (par M hM).2 j (by rw [hm]; exact hj)
    have mc : msgC (goOnS C ls p 0) (2 * p) (gL C 11 (2 * p) 0) m := ⟨by rw [hf1.1.2.2.1 11 (by decide)], by rw [hf1.1.2.1 17 (by decide)]; exact hm⟩
    have mm0 : msgM (goOnS C ls p 0) (goM M0 p 0) (2 * p) p (gL C 11 (2 * p) 0) m := by
      intro j hj
      rw [gI_goM, if_neg (by omega), if_neg (by omega)]
      exact mm M0 h j hj
    obtain ⟨b, C2, ls1, hb, hcl, hf2, hsub, ⟨M2, hM2⟩, s1, s0, sa⟩ := sent (h.goOn (p := p) (r := 0) n0) hs (by omega) ((hre_hf hf1 s).mpr hh) (c := c) (by rw [hf1.1.2.1 40 (by decide)]; exact hc) ⟨ty1, nmL_gL _ _ _ _⟩ (show m ≤ 64 by omega) mc mm0
    have fit1 : fitC (goOnS C ls p 0) s m := (fit_hf hf1 s _).mpr (by rw [← hm]; exact hfit)
    have fit2 : fitC C2 s m := (fit_hf hf2 s _).mpr fit1
    -- the model's way, once the message is sent
    have mod : ∀ C', sentQ k n (without ls p) e e2 (goOnS C ls p 0) s p (gL C 11 (2 * p) 0) m 1 ls1 C' → ∀ M, SimB k n ls e e2 C M → ∃ M', SimB k n ls1 e e2 C' M' ∧ CEq M M' ∧ (∀ q, q ∉ ls → gI M' 110 4 q = gI M 110 4 q) ∧ ∀ (po : St → Prop) (X2 : Int → St → Prop), X2 1 M' → ∃ nf, wp_X8_waiter 1 (-1) 0 M (fun r s => wp_X8_lookAtSenders_16 po X2 nf 0 r s) := by
      intro C' hq M hM
      obtain ⟨⟨p1, p2, p3, p4, -, -, -, -, -⟩, -⟩ := par M hM
      obtain ⟨M', ha, hce, h4, -, hs', hpo'⟩ := hq (some p) M (hM.goOn (p := p) (r := 0) n0) (fun q z => by cases z; exact p4) (mm M hM) p1.symm (by rw [← p2]; exact hm)
      refine ⟨goM M' p 0, hs', hce.tr ((CEq.rf.uI _ _ _ _ (by decide)).uI _ _ _ _ (by decide)), fun q hq => (by have hqp : q ≠ p := fun z => hq (by rw [z]; exact hpl); rw [gI_goM, if_neg (by omega), if_neg (by omega)]; exact h4 q (fun z => hq (mem_without.mp z).1)), fun po X2 hX => ?_⟩
      refine look_skip hM l1 [] (p :: l2) (by simpa using hl) hn (fun bh hb h1 h2 => ⟨2, ?_⟩) 0 n0 (fun p hp => by cases hp) (by rw [← hl]; exact turn0 M hM)
      refine sp_waiter_first (l1 := l1) (l2 := l2) (q := p) (by rw [hl] at hM; exact hM) (by decide) (by decide) hb (by decide) ⟨p4, Or.inl (by decide), h2 p (by simp)⟩ (fun q hq hw => ?_) ?_
      · have hqn := ((hM.2.1.2.2.2.2 q).mp (by rw [hl]; simp [hq])).1
        have e7 := (hM.2.2.2.2.2.1 q hqn).2.2.2.2.2.1
        have := h1 q (by simpa using hq) (by rw [e7]; exact hw.1)
        have := hw.2.2
        omega
      · have ep : ((p : Int)).toNat = p := by omega
        have np : nm (p : Int) = p := nm_nat (n := 16) (by omega) (by omega)
        have i16 : (0 : Int) ≤ p ∧ (p : Int) < 16 := by omega
        unfold wp_X8_lookAtSenders_16
        rw [np, ep]
        refine ⟨fun z => absurd z (by rw [nm_m1]; omega), fun _ => ⟨fun z => absurd n0 z, fun _ => ⟨i16, i16, ?_⟩⟩⟩
        rw [p3, ← p2, hm]
        refine sp_fitsM hM hs hh (fun _ => ⟨fun z => absurd z (by decide), fun _ => ⟨i16, ?_⟩⟩) (fun z => absurd (by rw [← hm]; exact hfit) z)
        rw [p3]
        refine hpo' _ (run_goesOn (by omega) ⟨i16, ?_⟩)
        refine sp_waiter (n := n) ?_ hn16 (by decide) (by decide) (nm_gI _ _ _ _) (fun b _ => ?_)
        · exact hs'.1.2.2.1
        · unfold wp_X8_lookAtSenders_16
          exact ⟨fun _ => hX, fun _ => ⟨fun _ => hX, fun z => absurd z (by decide)⟩⟩
    -- the class
    have hlen1 : ls1.length < ls.length := Nat.lt_of_le_of_lt hsub.length_le wl
    have hsub1 : ls1.Sublist ls := hsub.trans List.filter_sublist
    have cls : wp_X7_goOn (some p) 0 C (fun s103 => wp_X7_handToTaker (some s) (some (2 * p)) s103 (fun r102 s104 => (nm r102 ≠ 0 → po 1 s104) ∧ (nm r102 = 0 → wp_X3_append s (some (2 * p)) s104 (fun s105 => po 1 s105)))) := by
      refine run_goOn h.2.1.1 h.2.1.2.1 h16 (hcl _ ?_)
      rcases hb with rfl | rfl
      · exact ⟨fun _ => hpo C2 ls1 hlen1 hsub1 (hf1.2.tr hf2.2) ⟨M2, hM2⟩ (mod C2 (s1 rfl)), fun z => absurd z (by decide)⟩
      · refine ⟨fun z => absurd n0 z, fun _ => ?_⟩
        have e40 : gI C2 40 s 0 = c := by rw [hf2.1.2.1 40 (by decide), hf1.1.2.1 40 (by decide)]; exact hc
        have mc2 := mc.hf hf2
        refine sp_append hs e40 (by have := fit2.2.1; omega) mc2.2 (by omega) (by omega) hM2.2.2.2.2.1 (fun v C0 hsp => ?_)
        have hq := sa rfl fit1 v C0 hsp
        obtain ⟨M3, hM3, -⟩ := mod _ hq M0 h
        exact hpo _ ls1 hlen1 hsub1 (((hf1.2.tr hf2.2).tr (MEq.mk hsp)).tr (MEq.app _ _ _ _ _ _)) ⟨M3, hM3⟩ (mod _ hq)
    have hat : ls[l1.length]? = some p := by rw [hl]; simp
    have hlt := (List.getElem?_eq_some_iff.mp hat).1
    refine ⟨1 + l1.length, ?_⟩
    have := adm_skip h l1 [] (p :: l2) (by simpa using hl) hn 1 (po := po) (by
      simp only [List.length_nil, Nat.zero_add]
      refine adm_at (m := 0) h hat (fun z => absurd ⟨hk, hr, hfit⟩ (z s)) (fun s' hs' hh' hc' => ?_)
      have := hc'.2.1
      rw [hr] at this
      cases this
      exact cls)
    exact this
theorem admit_all {k n : Nat} {e e2 : Option Nat} : ∀ (m i : Nat) (ls : List Nat) (C M0 : St), SimB k n ls e e2 C M0 → ls.length ≤ m → i + m = 16 → ∀ po : St → Prop,
    (∀ C' ls', ls'.Sublist ls → MEq C C' → (∃ M1, SimB k n ls' e e2 C' M1) → (∀ M, SimB k n ls e e2 C M → ∃ M', SimB k n ls' e e2 C' M' ∧ CEq M M' ∧ (∀ q, q ∉ ls → gI M' 110 4 q = gI M 110 4 q) ∧ ∀ po : St → Prop, po M' → ∃ nf, wp_X8_lookAtSenders_2 po nf 1 M) → po C') → wp_X7_admitSenders_4 po (m + 1) 1 (i : Int) C := by
  intro m
  induction m with
  | zero =>
    intro i ls C M0 h hl hi po hpo
    have e : i = 16 := by omega
    subst e
    unfold wp_X7_admitSenders_4
    refine ⟨fun _ => hpo C ls (List.Sublist.refl _) MEq.rf ⟨M0, h⟩ (fun M hM => ⟨M, hM, CEq.rf, fun _ _ => rfl, fun po2 hpo2 => ⟨2, ?_⟩⟩), fun z => absurd z (by decide)⟩
    unfold wp_X8_lookAtSenders_2
    refine ⟨fun z => absurd z (by decide), fun _ => ?_⟩
    have hnil : ls = [] := List.length_eq_zero_iff.mp (by omega)
    subst hnil
    refine sp_waiter_none hM (by decide) (by decide) n0 (by decide) (fun q hq => by cases hq) ⟨1, ?_⟩
    unfold wp_X8_lookAtSenders_16
    refine ⟨fun _ => ?_, fun z => absurd rfl z⟩
    unfold wp_X8_lookAtSenders_2
    exact ⟨fun _ => hpo2, fun z => absurd n0 z⟩
  | succ m ih =>
    intro i ls C M0 h hl hi po hpo
    have ni : nm (i : Int) = i := nm_nat (n := 17) (by omega) (by omega)
    rcases admit_step h with ⟨hA, hA2⟩ | hB
    · have fin : po C := by
        refine hpo C ls (List.Sublist.refl _) MEq.rf ⟨M0, h⟩ (fun M hM => ⟨M, hM, CEq.rf, fun _ _ => rfl, fun po hpo => ⟨2, ?_⟩⟩)
        unfold wp_X8_lookAtSenders_2
        refine ⟨fun z => absurd z (by decide), fun _ => ?_⟩
        obtain ⟨nf, hnf⟩ := hA2 M hM po (fun x1 s9 => wp_X8_lookAtSenders_2 po 1 x1 s9) (by
          unfold wp_X8_lookAtSenders_2
          exact ⟨fun _ => hpo, fun z => absurd n0 z⟩)
        exact waiter_mono (fun b s hq => ⟨nf, hq⟩) hnf
      unfold wp_X7_admitSenders_4
      rw [ni, show nm 16 = 16 by decide]
      refine ⟨fun z => absurd z (by omega), fun _ => ⟨fun z => absurd z (by decide), fun _ => hA _ ?_⟩⟩
      unfold wp_X7_admitSenders_4
      exact ⟨fun _ => fin, fun _ => ⟨fun _ => fin, fun z => absurd n0 z⟩⟩
    · unfold wp_X7_admitSenders_4
      rw [ni, show nm 16 = 16 by decide, show ((i : Int) + 1) = ((i + 1 : Nat) : Int) by omega]
      refine ⟨fun z => absurd z (by omega), fun _ => ⟨fun z => absurd z (by decide), fun _ => hB _ (fun C1 ls1 hl1 hsb hme ⟨M1, hM1⟩ rel1 => ?_)⟩⟩
      refine ih (i + 1) ls1 C1 M1 hM1 (by omega) (by omega) po (fun C2 ls2 hsb2 hme2 hex rel2 => hpo C2 ls2 (hsb2.trans hsb) (hme.tr hme2) hex (fun M hM => ?_))
      obtain ⟨N, hN, hce, h4, hrun⟩ := rel1 M hM
      obtain ⟨N2, hN2, hce2, h42, hrun2⟩ := rel2 N hN
      refine ⟨N2, hN2, hce.tr hce2, fun q hq => (h42 q (fun z => hq (hsb.subset z))).trans (h4 q hq), fun po2 hpo2 => ?_⟩
      obtain ⟨nf, hnf⟩ := hrun2 po2 hpo2
      obtain ⟨nf2, hnf2⟩ := hrun po2 (fun x1 s9 => wp_X8_lookAtSenders_2 po2 nf x1 s9) hnf
      refine ⟨nf + 1, ?_⟩
      unfold wp_X8_lookAtSenders_2
      exact ⟨fun z => absurd z (by decide), fun _ => waiter_mono (fun b s hq => ⟨nf2, hq⟩) hnf2⟩
/-- all senders, both -/
theorem letIn {k n : Nat} {e e2 : Option Nat} {ls : List Nat} {C M0 : St} (h : SimB k n ls e e2 C M0) {po : St → Prop} (hpo : ∀ C' ls', ls'.Sublist ls → MEq C C' → (∃ M1, SimB k n ls' e e2 C' M1) → (∀ M, SimB k n ls e e2 C M → ∃ M', SimB k n ls' e e2 C' M' ∧ CEq M M' ∧ (∀ q, q ∉ ls → gI M' 110 4 q = gI M 110 4 q) ∧ ∀ po : St → Prop, po M' → wp_X8_lookAtSenders M po) → po C') : wp_X7_admitSenders C po := by
  refine ⟨17, admit_all 16 0 ls C M0 h h.2.1.2.2.1 (by omega) po (fun C' ls' h0 h1 h2 h3 => hpo C' ls' h0 h1 h2 (fun M hM => ?_))⟩
  obtain ⟨M', a1, a2, a4, a3⟩ := h3 M hM
  exact ⟨M', a1, a2, a4, fun po hp => a3 po hp⟩
