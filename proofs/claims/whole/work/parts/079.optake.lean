/-! LAYER 2: take, whole -/
theorem sp_become2 {C : St} {p : Nat} {sz t way a b : Int} {po : St → Prop} (ha : a = if zand way 2 = 0 then 0 else 1) (hb : b = if zand way 4 = 0 then 0 else 1) (h : po (bcmC C p sz t a b)) : wp_X6_become p sz t way C po := by
  subst ha hb
  exact sp_become h
theorem op_take {k n : Nat} {ls : List Nat} {C M0 : St} {x d sz t way : Int} (hk : k ≤ 65536) (hx : nm x = x) (hd : nm d = d) (hsz : nm sz = sz) (ht0 : nmL t = t) (hway : nm way = way) (h : SimB k n ls none none C M0) : LockW k (k + 1) n ls (wp_X7_take x d sz t way C) C (fun M => wp_X8_take x d sz t way M) := by
  delta wp_X7_take wp_X8_take
  refine caller_lockW (ic := fun a s po => wp_X7_takeTo (some a) d sz t way s po) (by omega) hx h (fun p hp ex hf hw hnl => ?_)
  subst ex
  have hr := h.1
  have n64 : nm 64 = 64 := by decide
  have n7 : nm 7 = 7 := by decide
  have l0 : nmL 0 = 0 := by decide
  have l7 : nmL 7 = 7 := by decide
  have l64 : nmL 64 = 64 := by decide
  have hp16 : p < 16 := by have := hr.1; omega
  have ep : ((p : Int)).toNat = p := by omega
  have np : nm (p : Int) = p := nm_nat (n := 16) hp16 (by omega)
  have i16 : (0 : Int) ≤ p ∧ (p : Int) < 16 := by omega
  have hk1 : k ≤ k + 1 := by omega
  by_cases hok : 0 ≤ sz ∧ sz ≤ 64
  · obtain ⟨m, rfl⟩ : ∃ m : Nat, sz = m := ⟨sz.toNat, by omega⟩
    have hm : m ≤ 64 := by omega
    by_cases hwy : 0 ≤ way ∧ way ≤ 7
    · obtain ⟨w, rfl⟩ : ∃ w : Nat, way = w := ⟨way.toNat, by omega⟩
      have hw1 := bits_w w (by omega)
      rcases id_or C 0 d with ⟨s, ht⟩ | hn
      · obtain ⟨hs24, hid, -, -⟩ := h.id_facts (Or.inl rfl) ht
        have hs : s < 12 := by have := ht.2.1; omega
        have es : ((s : Int)).toNat = s := by omega
        have ns : nm (s : Int) = s := nm_nat (n := 24) hs24 (by omega)
        have i12 : (0 : Int) ≤ s ∧ (s : Int) < 12 := by omega
        have hh := ht.2.2.1
        by_cases hg : graC C s p 4
        · intro po hpo
          -- the class's wish
          obtain ⟨a, ea, na, a0⟩ : ∃ a : Int, a = (if zand (w : Int) 2 = 0 then 0 else 1) ∧ nm a = a ∧ (a = 0 ↔ zand (w : Int) 2 = 0) := by
            by_cases y : zand (w : Int) 2 = 0
            · exact ⟨0, by rw [if_pos y], by decide, by simp [y]⟩
            · exact ⟨1, by rw [if_neg y], by decide, by simp [y]⟩
          obtain ⟨b4, eb, nb4, b0, b01⟩ : ∃ a : Int, a = (if zand (w : Int) 4 = 0 then 0 else 1) ∧ nm a = a ∧ (a = 0 ↔ zand (w : Int) 4 = 0) ∧ (a = 0 ∨ a = 1) := by
            by_cases y : zand (w : Int) 4 = 0
            · exact ⟨0, by rw [if_pos y], by decide, by simp [y], by simp⟩
            · exact ⟨1, by rw [if_neg y], by decide, by simp [y], by simp⟩
          have hS := fun M (hM : SimB k n ls none none C M) => hM.become (M' := M) (sz := (m : Int)) (t := t) (a := a) (b := b4) hp hw (Or.inl rfl)
          have hbm := AgC.bcm C p (m : Int) t a b4
          have g12 : gL (bcmC C p (m : Int) t a b4) 12 p 0 = t := by rw [gL_bcmC, if_pos ⟨rfl, rfl, rfl⟩, ht0]
          have g19 : gI (bcmC C p (m : Int) t a b4) 19 p 0 = m := by rw [gI_bcmC, if_neg (by omega), if_neg (by omega), if_pos ⟨rfl, rfl, rfl⟩, hsz]
          have g20 : gI (bcmC C p (m : Int) t a b4) 20 p 0 = a := by rw [gI_bcmC, if_neg (by omega), if_pos ⟨rfl, rfl, rfl⟩, na]
          have g21 : gI (bcmC C p (m : Int) t a b4) 21 p 0 = b4 := by rw [gI_bcmC, if_pos ⟨rfl, rfl, rfl⟩, nb4]
          have hh1 : hre (bcmC C p (m : Int) t a b4) s := (hre_ag (hbm.2.2.2 2 (by decide)) (hbm.2.2.2 3 (by decide)) (hbm.2.1 32 (by decide)) s).mpr hh
          have hq := fun M (hM : SimB k n ls none none C M) => (hS M hM).2.2.2.2.2.2.2.2.2.1 s hs hh1
          obtain ⟨-, qc0, qc40, -, -, -, -, qrow⟩ := hq M0 h
          obtain ⟨c, hc⟩ : ∃ c : Nat, gI (bcmC C p (m : Int) t a b4) 40 s 0 = c := ⟨(gI (bcmC C p (m : Int) t a b4) 40 s 0).toNat, by omega⟩
          have hc40 : c ≤ 40 := by omega
          have hrow : ∀ i, i < c → ∃ u, gR (bcmC C p (m : Int) t a b4) 11 s i = some u ∧ 1 ≤ gL (bcmC C p (m : Int) t a b4) 11 u 0 := fun i hi => by
            obtain ⟨u, hu, hm1, hm2, -⟩ := qrow i (by rw [hc]; omega)
            exact ⟨u, hu, hm2⟩
          have hT : ∀ M, SimB k n ls none none C M → ∀ i, i < c → gL M 110 35 (40 * s + i) = tyQ (bcmC C p (m : Int) t a b4) s i ∧ 1 ≤ tyQ (bcmC C p (m : Int) t a b4) s i := fun M hM i hi => by
            obtain ⟨-, -, -, -, -, -, -, qr⟩ := hq M hM
            obtain ⟨u, hu, hm1, hm2, -⟩ := qr i (by rw [hc]; omega)
            have e : tyQ (bcmC C p (m : Int) t a b4) s i = gL (bcmC C p (m : Int) t a b4) 11 u 0 := by unfold tyQ; rw [hu]
            rw [e]
            exact ⟨hm1.symm, hm2⟩
          -- the model, down to what it found
          have key : ∀ b : Int, bst (fun i => wantN t (zand (w : Int) 4 ≠ 0) (tyQ (bcmC C p (m : Int) t a b4) s i)) (tyQ (bcmC C p (m : Int) t a b4) s) (t < 0) 0 c b → ∀ r C3, MEq C C3 → (∀ M, SimB k n ls none none C M → ∃ M', CEq M M' ∧ Sim (k + 1) (uI C3 14 p 0 r) M' ∧ ∀ po2 : Int → St → Prop, po2 r M' → tkT (p : Int) (m : Int) t (w : Int) (s : Int) (bM s b) M po2) → po r C3 := by
            intro b hb r C3 hme hall
            refine hpo r C3 hme (fun M hM => ?_)
            obtain ⟨M', hce, hsim, hrun⟩ := hall M hM
            refine ⟨M', fun po2 hpo2 => ?_, hce, hsim⟩
            have hrun := hrun po2 hpo2
            obtain ⟨-, hid2, g1, g2⟩ := hM.id_facts (Or.inl rfl) ht
            have e34 : gI M 110 34 s = c := by rw [← (hq M hM).1]; exact hc
            dsimp only
            rw [hsz, hway, sp_in (nmL_of hsz) l0 l64]
            refine ⟨fun z => absurd hok ((ez_bI _).mp z), fun _ => ?_⟩
            rw [sp_in (nmL_of hway) l0 l7]
            refine ⟨fun _ => ?_, fun z => absurd hwy ((ez_bI _).mp z)⟩
            refine sp_slotOf_some (b := 0) (Or.inl rfl) hd ht.1 ht.2.1 g1 hid2.1 hid2.2 g2 ⟨fun _ => ?_, fun z => absurd z (by rw [ns, nm_m1]; omega)⟩
            refine sp_hasAll hp16 hs24 (mayCM hM hs24 hp hh) (fun _ => ⟨fun _ => ?_, fun z => absurd z (by decide)⟩) (fun z => absurd hg z)
            unfold wp_X8_found
            rw [ns, es, e34]
            refine ⟨i12, c + 1, ?_⟩
            have := sp_found (M := M) (s := s) (c := c) (t := t) (way := (w : Int)) (T := tyQ (bcmC C p (m : Int) t a b4) s) (po := fun r108 s108 => tkT (p : Int) (m : Int) t (w : Int) (s : Int) r108 s108 po2) hs hc40 ht0 (hT M hM) (fun b' hb' => by rw [← bst_uniq hb hb']; exact hrun) c (Nat.le_refl _) (-1) (Or.inl ⟨rfl, fun i h1 h2 => by omega⟩)
            unfold tkT at this
            rw [hsz] at this
            exact this
          -- the class, down to what it found
          have cls : ∀ X : Int → St → Prop, (∀ b, bst (fun i => wantN t (zand (w : Int) 4 ≠ 0) (tyQ (bcmC C p (m : Int) t a b4) s i)) (tyQ (bcmC C p (m : Int) t a b4) s) (t < 0) 0 c b → X b (bcmC C p (m : Int) t a b4)) → wp_X3_placeOfWanted s (some p) (bcmC C p (m : Int) t a b4) X := by
            intro X hX
            unfold wp_X3_placeOfWanted
            refine ⟨c + 1, ?_⟩
            have e4 : (b4 ≠ 0) = (zand (w : Int) 4 ≠ 0) := propext (not_congr b0)
            refine sp_place hs hc hc40 hrow (by rw [g21]; exact b01) (fun b hb => ?_) c 0 (by omega) (-1) 0 (Or.inl ⟨rfl, fun i h1 h2 => by omega⟩) (fun j hj => by omega)
            rw [g12, g21, e4] at hb
            exact hX b hb
          unfold wp_X7_takeTo
          rw [sp_isWithin hsz n64]
          refine ⟨fun z => absurd hok ((ez_bI _).mp z), fun _ => ?_⟩
          rw [sp_isWithin hway n7]
          refine ⟨fun _ => sp_queueById_some hd ht hid ⟨fun z => (by cases z), ?_⟩, fun z => absurd hwy ((ez_bI _).mp z)⟩
          rintro _ ⟨rfl⟩
          refine ⟨hs, sp_grantsAll (by decide) (h.md hs24 hh) (fun _ => ⟨fun _ => ⟨p, rfl, sp_become2 ea eb (cls _ (fun b hb => ?_))⟩, fun z => absurd z (by decide)⟩) (fun z => absurd hg z)⟩
          rcases Classical.em (b = -1) with hb1 | hb1
          · -- nothing that it wants
            subst hb1
            unfold wp_X3_messageAt
            refine ⟨fun _ => ⟨fun _ => ?_, fun a z => (by cases z)⟩, fun z => absurd z (by decide)⟩
            rw [nm_zand]
            have key := key (-1) hb
            have ebm : bM s (-1) = -1 := by unfold bM; rw [if_pos rfl]
            rw [ebm] at key
            refine ⟨fun z => run_begin (hS M0 h).2.1 (line_room h hp hnl) (key (-10) _ ((MEq.bcm C p (m : Int) t a b4).tr ?_) (fun M hM => ?_)), fun z => key (-12) _ (MEq.bcm C p (m : Int) t a b4) (fun M hM => ?_)⟩
            · exact (((MEq.rf.uI _ _ _ _ (by decide)).uR _ _ _ _).uR _ _ _ _).uI _ _ _ _ (by decide)
            · have hs' : SimB k n ls none none (bcmC C p (m : Int) t a b4) (wshM M p m t w) := hM.become hp hw (Or.inr ⟨_, rfl⟩)
              have hT2 := hs'.2.2.1
              have m10 : gL (wshM M p m t w) 110 10 p = t := by unfold wshM; rw [gL_uI, gL_uI, gL_uL, if_pos ⟨rfl, rfl, rfl⟩, ht0]
              have m11 : gI (wshM M p m t w) 110 11 p = m := by unfold wshM; rw [gI_uI, if_neg (by omega), gI_uI, if_pos ⟨rfl, rfl, rfl⟩, hsz]
              have m12 : gI (wshM M p m t w) 110 12 p = w := by unfold wshM; rw [gI_uI, if_pos ⟨rfl, rfl, rfl⟩, hway]
              have hbg := hs'.begin (kd := 2) (o := some s) (sl := (s : Int)) hk hp hnl (by decide) (by decide) (by
                refine Or.inr (Or.inr (Or.inl ⟨?_, ?_, s, hs, ?_, ?_, ?_⟩))
                · rw [gI_bgC, if_neg (by omega), if_pos ⟨rfl, rfl, rfl⟩]; decide
                · have mf : ∀ f, f ≠ 7 → f ≠ 8 → f ≠ 9 → gI (bgM (wshM M p m t w) p 2 (s : Int)) 110 f p = gI (wshM M p m t w) 110 f p := fun f z1 z2 z3 => by
                    rw [gI_bgM, if_neg (by omega), if_neg (by omega), if_neg (by omega), if_neg (by omega)]
                  have cf : ∀ f, f ≠ 2 → f ≠ 15 → gI (bgC (bcmC C p (m : Int) t a b4) p ls.length 2 (some s)) f p 0 = gI (bcmC C p (m : Int) t a b4) f p 0 := fun f z1 z2 => by
                    rw [gI_bgC, if_neg (by omega), if_neg (by omega)]
                  unfold takeOK
                  rw [mf 11 (by decide) (by decide) (by decide), mf 12 (by decide) (by decide) (by decide), cf 19 (by decide) (by decide), cf 20 (by decide) (by decide), cf 21 (by decide) (by decide), gL_bgC, gL_bgM, g19, g12, g20, g21, m10, m11, m12]
                  exact ⟨rfl, by omega, by omega, rfl, a0, b0, b01⟩
                · rw [gR_bgC, if_neg (by omega), if_pos ⟨rfl, rfl, rfl⟩]
                · rw [gI_bgM, if_neg (by omega), if_neg (by omega), if_pos ⟨rfl, rfl, rfl⟩, ns]
                · have h2 := hh1
                  unfold hre at h2 ⊢
                  rw [gI_bgC, if_neg (by omega), if_neg (by omega)]
                  unfold rt at h2 ⊢
                  simpa [gR_bgC] using h2)
              refine ⟨uI (bgM (wshM M p m t w) p 2 (s : Int)) 110 4 p (-10), ((CEq.tr (b := wshM M p m t w) ?_ ?_).uI _ _ _ _ (by decide)), ⟨n, ls ++ [p], SimB.tell hbg (Or.inl rfl)⟩, fun po2 hpo2 => ?_⟩
              · exact ((CEq.rf.uL _ _ _ _ (by decide)).uI _ _ _ _ (by decide)).uI _ _ _ _ (by decide)
              · exact (((CEq.rf.uI _ _ _ _ (by decide)).uI _ _ _ _ (by decide)).uI _ _ _ _ (by decide)).uI _ _ _ _ (by decide)
              · unfold tkT
                rw [np, ep, nm_zand]
                refine ⟨fun y => absurd rfl y, fun _ => ⟨fun _ => ⟨i16, ?_⟩, fun y => absurd y (by rw [z]; decide)⟩⟩
                rintro _ rfl
                refine ⟨i16, ?_⟩
                rintro _ rfl
                refine ⟨i16, ?_⟩
                rintro _ rfl
                exact run_wait (M := wshM M p m t w) hp16 ⟨hT2.1, by have := hT2.2.1; omega⟩ (sp_tells hp16 hpo2)
            · refine ⟨uI M 110 4 p (-12), CEq.rf.uI _ _ _ _ (by decide), ⟨n, ls, (SimB.tell (hS M hM) (Or.inl rfl)).mono hk1⟩, fun po2 hpo2 => ?_⟩
              unfold tkT
              rw [nm_zand]
              exact ⟨fun y => absurd rfl y, fun _ => ⟨fun y => absurd (by rw [nm_zand, hw1.resolve_left z]; decide) y, fun _ => sp_tells hp16 hpo2⟩⟩
          · -- a message
            obtain ⟨j, hj, rfl⟩ : ∃ j : Nat, j < c ∧ b = j := by
              rcases hb with ⟨y, -⟩ | ⟨j, -, y1, y2, -⟩
              · exact absurd y hb1
              · exact ⟨j, y1, y2⟩
            obtain ⟨u, hu, hu1⟩ := hrow j hj
            have nj : nm (j : Int) = j := nm_nat (n := 41) (by omega) (by omega)
            have ej : ((j : Int)).toNat = j := by omega
            obtain ⟨u', hu', -, -, -, zm4, zm5, -⟩ := qrow j (by rw [hc]; omega)
            rw [hu] at hu'
            cases hu'
            obtain ⟨q, hqz⟩ : ∃ q : Nat, gI (bcmC C p (m : Int) t a b4) 17 u 0 = q := ⟨(gI (bcmC C p (m : Int) t a b4) 17 u 0).toNat, by omega⟩
            have ebm : bM s (j : Int) = ((40 * s + j : Nat) : Int) := by unfold bM; rw [if_neg (by omega)]; omega
            have nbm : nm ((40 * s + j : Nat) : Int) = ((40 * s + j : Nat) : Int) := nm_id (by omega)
            have etm : (((40 * s + j : Nat) : Int)).toNat = 40 * s + j := by omega
            have msgF : ∀ M, SimB k n ls none none C M → msgOK (bcmC C p (m : Int) t a b4) M u (40 * s + j) := fun M hM => by
              obtain ⟨-, -, -, -, -, -, -, qr⟩ := hq M hM
              obtain ⟨v, hv, hmo⟩ := qr j (by rw [hc]; omega)
              rw [hu] at hv
              cases hv
              exact hmo
            unfold wp_X3_messageAt
            rw [nj, nm_gI, hc, ej, show nm 40 = 40 by decide]
            refine ⟨fun z => absurd z (by omega), fun _ => ⟨hs, fun z => absurd z (by omega), fun _ => ⟨fun z => absurd z (by omega), fun _ => ⟨by omega, ?_⟩⟩⟩⟩
            rintro _ rfl
            rw [hu]
            refine ⟨fun z => (by cases z), ?_⟩
            rintro _ ⟨rfl⟩
            have key := key (j : Int) hb
            rw [ebm] at key
            refine sp_tooSmall (fun z1 z2 => ⟨fun z => absurd z (by decide), fun _ => key (-13) _ (MEq.bcm C p (m : Int) t a b4) (fun M hM => ?_)⟩) (fun z1 => ⟨fun _ => ?_, fun z => absurd n0 z⟩)
            · have e36 := (msgF M hM).2.2.1
              rw [g20] at z1
              rw [g19, hqz] at z2
              refine ⟨uI M 110 4 p (-13), CEq.rf.uI _ _ _ _ (by decide), ⟨n, ls, (SimB.tell (hS M hM) (Or.inl rfl)).mono hk1⟩, fun po2 hpo2 => ?_⟩
              unfold tkT
              rw [nbm, nm_m1, etm, nm_gI, ← e36, hqz, hsz, nm_zand]
              exact ⟨fun _ => ⟨by omega, fun y => absurd y (by omega), fun _ => ⟨fun y => absurd (a0.mp z1) y, fun _ => sp_tells hp16 hpo2⟩⟩, fun y => absurd y (by omega)⟩
            · rw [g20, g19, hqz] at z1
              have emin : min ((m : Int)).toNat ((q : Int)).toNat = min m q := by omega
              refine sp_receive (by rw [g19]; omega) (by rw [hqz]; omega) ?_
              rw [g19, hqz, emin]
              have rc40 : gI (recS (bcmC C p (m : Int) t a b4) p u (min m q)) 40 s 0 = c := by rw [gI_recS, if_neg (by omega)]; exact hc
              have rc17 : gI (recS (bcmC C p (m : Int) t a b4) p u (min m q)) 17 u 0 = q := by rw [gI_recS, if_neg (by omega)]; exact hqz
              refine sp_drop hs rc40 hj hc40 hu ?_
              have hhr : hre (recS (bcmC C p (m : Int) t a b4) p u (min m q)) s := by
                unfold hre at hh1 ⊢
                rw [gI_recS, if_neg (by omega)]
                exact hh1
              -- what holds when the senders are looked at
              have rel : ∀ M, SimB k n ls none none C M → SimB k n ls (some p) none (drpC (recS (bcmC C p (m : Int) t a b4) p u (min m q)) s j c u) (drpM (givS M p 37 (64 * (40 * s + j)) (gL M 110 35 (40 * s + j)) (min m q)) s j c (q : Int)) := by
                intro M hM
                have hmo := msgF M hM
                have g1 := (hS M hM).receive (p := p) (u := u) (c := 37) (o := 64 * (40 * s + j)) (m := min m q) (ty := gL M 110 35 (40 * s + j)) (by omega) (nmL_gL _ _ _ _) (by decide) hmo.1 (fun i hi => hmo.2.2.2.2.2 i (by rw [hqz]; omega))
                have g2 := g1.drop hs hhr rc40 hj hu
                rw [rc17] at g2
                exact g2
              refine admit_tell (k := k) (n := n) (p := p) (ls := ls) (C := C) (r := ((min m q : Nat) : Int)) (im := fun M po2 => tkT (p : Int) (m : Int) t (w : Int) (s : Int) ((40 * s + j : Nat) : Int) M po2) hnl (nm_id (by omega)) (((MEq.bcm C p (m : Int) t a b4).tr ?_).tr (MEq.drp _ _ _ _ _)) h (fun M hM => ⟨_, rel M hM, ?_, ?_, fun po2 hpo2 => ?_⟩) (fun r C1 hme hall => key r C1 hme (fun M hM => ?_))
              · exact (HFC.rec _ _ _ _).2
              · exact CEq.tr (b := givS M p 37 (64 * (40 * s + j)) (gL M 110 35 (40 * s + j)) (min m q)) (HFM.giv _ _ _ _ _ _).2 (CEq.drp _ _ _ _ _)
              · rw [gI_drpM, if_neg (by omega), if_neg (by omega), if_neg (by omega), if_neg (by omega), gI_givS, if_pos ⟨rfl, rfl, rfl⟩]
                exact nm_id (by omega)
              · have hmo := msgF M hM
                have e34 : gI M 110 34 s = c := by rw [← (hq M hM).1]; exact hc
                have e36 : gI M 110 36 (40 * s + j) = q := by rw [← hmo.2.2.1]; exact hqz
                have tk := sp_take195 (k := k) (n := n) (ls := ls) (C := C) (M := M) (p := p) (s := s) (j := j) (c := c) (m := m) (sz := q) (po := po2) hp16 hs e34 hj hc40 rfl e36 (by omega) hm hpo2
                unfold tkT
                rw [nbm, nm_m1, etm, nm_gI, e36, hsz, nm_zand]
                refine ⟨fun _ => ⟨by omega, fun _ => tk, fun y => ⟨fun _ => tk, fun y2 => ?_⟩⟩, fun y => absurd y (by omega)⟩
                rcases z1 with z1 | z1
                · exact absurd (a0.mpr y2) z1
                · omega
              · obtain ⟨M', hrun, hce, hsim⟩ := hall M hM
                exact ⟨M', hce, hsim.mono hk1, hrun⟩
        · refine MainW.refuse hk1 (-6) (fun po hpo => ?_) (fun M hM po hpo => ?_)
          · unfold wp_X7_takeTo
            rw [sp_isWithin hsz n64]
            refine ⟨fun z => absurd hok ((ez_bI _).mp z), fun _ => ?_⟩
            rw [sp_isWithin hway n7]
            refine ⟨fun _ => sp_queueById_some hd ht hid ⟨fun z => (by cases z), ?_⟩, fun z => absurd hwy ((ez_bI _).mp z)⟩
            rintro _ ⟨rfl⟩
            exact ⟨hs, sp_grantsAll (by decide) (h.md hs24 hh) (fun z => absurd z hg) (fun _ => ⟨fun z => absurd n0 z, fun _ => hpo⟩)⟩
          · obtain ⟨-, hid2, g1, g2⟩ := hM.id_facts (Or.inl rfl) ht
            rw [hsz, hway, sp_in (nmL_of hsz) l0 l64]
            refine ⟨fun z => absurd hok ((ez_bI _).mp z), fun _ => ?_⟩
            rw [sp_in (nmL_of hway) l0 l7]
            refine ⟨fun _ => ?_, fun z => absurd hwy ((ez_bI _).mp z)⟩
            refine sp_slotOf_some (b := 0) (Or.inl rfl) hd ht.1 ht.2.1 g1 hid2.1 hid2.2 g2 ⟨fun _ => ?_, fun z => absurd z (by rw [ns, nm_m1]; omega)⟩
            exact sp_hasAll hp16 hs24 (mayCM hM hs24 hp hh) (fun z => absurd z hg) (fun _ => ⟨fun z => absurd n0 z, fun _ => sp_tells hp16 hpo⟩)
      · refine MainW.refuse hk1 (-5) (fun po hpo => ?_) (fun M hM po hpo => ?_)
        · unfold wp_X7_takeTo
          rw [sp_isWithin hsz n64]
          refine ⟨fun z => absurd hok ((ez_bI _).mp z), fun _ => ?_⟩
          rw [sp_isWithin hway n7]
          exact ⟨fun _ => sp_queueById_none hd h.rootT hn ⟨fun _ => hpo, fun a z => (by cases z)⟩, fun z => absurd hwy ((ez_bI _).mp z)⟩
        · rw [hsz, hway, sp_in (nmL_of hsz) l0 l64]
          refine ⟨fun z => absurd hok ((ez_bI _).mp z), fun _ => ?_⟩
          rw [sp_in (nmL_of hway) l0 l7]
          exact ⟨fun _ => sp_slotOf_none (b := 0) (Or.inl rfl) hd (hM.id_none (Or.inl rfl) hn) ⟨fun z => absurd rfl z, fun _ => sp_tells hp16 hpo⟩, fun z => absurd hwy ((ez_bI _).mp z)⟩
    · refine MainW.refuse hk1 (-4) (fun po hpo => ?_) (fun M hM po hpo => ?_)
      · unfold wp_X7_takeTo
        rw [sp_isWithin hsz n64]
        refine ⟨fun z => absurd hok ((ez_bI _).mp z), fun _ => ?_⟩
        rw [sp_isWithin hway n7]
        exact ⟨fun z => absurd ((nz_bI _).mp z) hwy, fun _ => hpo⟩
      · rw [hsz, hway, sp_in (nmL_of hsz) l0 l64]
        refine ⟨fun z => absurd hok ((ez_bI _).mp z), fun _ => ?_⟩
        rw [sp_in (nmL_of hway) l0 l7]
        exact ⟨fun z => absurd ((nz_bI _).mp z) hwy, fun _ => sp_tells hp16 hpo⟩
  · refine MainW.refuse hk1 (-4) (fun po hpo => ?_) (fun M hM po hpo => ?_)
    · unfold wp_X7_takeTo
      rw [sp_isWithin hsz n64]
      exact ⟨fun _ => hpo, fun z => absurd ((nz_bI _).mp z) hok⟩
    · rw [hsz, hway, sp_in (nmL_of hsz) l0 l64]
      exact ⟨fun _ => sp_tells hp16 hpo, fun z => absurd ((nz_bI _).mp z) hok⟩
