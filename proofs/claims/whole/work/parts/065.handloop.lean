/-! LAYER 2: takers are looked at, one after the other -/
def hLI : List Nat := [1, 10, 11, 12, 13, 17, 18, 19, 20, 21, 22, 23, 24, 25, 26, 27, 30, 31, 32, 33, 34, 35, 36, 37, 38, 39, 40, 41, 42, 45, 46, 47, 48]
def hMI : List Nat := [1, 2, 3, 8, 9, 11, 12, 13, 14, 16, 17, 18, 19, 20, 21, 22, 23, 24, 25, 26, 27, 28, 29, 30, 31, 32, 33, 34, 35, 36, 37, 38, 39, 40, 41]
def HFC (C C' : St) : Prop := AgC hLI [11, 12] [1, 2, 3, 11] C C' ∧ MEq C C'
def HFM (M M' : St) : Prop := AgM hMI [10, 35] M M' ∧ CEq M M'
theorem HFC.rf {C : St} : HFC C C := ⟨AgC.rf, MEq.rf⟩
theorem HFM.rf {M : St} : HFM M M := ⟨AgM.rf, CEq.rf⟩
theorem HFC.tr {a b c : St} (h : HFC a b) (g : HFC b c) : HFC a c := ⟨h.1.tr g.1, h.2.tr g.2⟩
theorem HFM.tr {a b c : St} (h : HFM a b) (g : HFM b c) : HFM a c := ⟨h.1.tr g.1, h.2.tr g.2⟩
theorem HFC.goOn (C : St) (ls : List Nat) (p : Nat) (r : Int) : HFC C (goOnS C ls p r) := by
  refine ⟨⟨rfl, fun f hf a b => ?_, fun f hf a b => rfl, fun f hf a b => ?_⟩, fun f a b hf => ?_, fun f a b hf => rfl⟩
  · rw [gI_goOnS, if_neg (by rintro ⟨rfl, -⟩; revert hf; decide), if_neg (by rintro ⟨rfl, -⟩; revert hf; decide), if_neg (by rintro ⟨rfl, -⟩; revert hf; decide)]
  · rw [gR_goOnS, if_neg (by rintro ⟨rfl, -⟩; revert hf; decide), if_neg (by rintro ⟨rfl, -⟩; revert hf; decide)]
  · rw [gI_goOnS, if_neg (by omega), if_neg (by omega), if_neg (by omega)]
theorem HFM.goes (M : St) (p : Nat) (r : Int) : HFM M (goM M p r) := ⟨((AgM.rf.uI _ _ (by decide)).uI _ _ (by decide)), ((CEq.rf.uI _ _ _ _ (by decide)).uI _ _ _ _ (by decide))⟩
theorem HFC.rec (C : St) (p u m : Nat) : HFC C (recS C p u m) := ⟨((AgC.rf.cp _ _ _ _ _ _ (by decide)).uL _ _ _ (by decide)), ((MEq.rf.cp _ _ _ _ _ _ _ (by decide)).uL _ _ _ _ (by decide))⟩
theorem HFM.giv (M : St) (p c o : Nat) (ty : Int) (m : Nat) : HFM M (givS M p c o ty m) := ⟨(((AgM.rf.cp _ _ _ _ _ (by decide)).uL _ _ (by decide)).uI _ _ (by decide)), (((CEq.rf.cp _ _ _ _ _ _ _ (by decide)).uL _ _ _ _ (by decide)).uI _ _ _ _ (by decide))⟩
theorem HFC.dlv (C : St) (ls : List Nat) (p u m : Nat) : HFC C (dlvC C ls p u m) := (HFC.rec C p u m).tr (HFC.goOn _ ls p m)
theorem HFM.dlv (M : St) (p c o : Nat) (ty : Int) (m : Nat) : HFM M (dlvM M p c o ty m) := HFM.tr ⟨(AgM.rf.uI _ _ (by decide)), (CEq.rf.uI _ _ _ _ (by decide))⟩ (HFM.giv _ p c o ty m)
theorem without_mid {l1 l2 : List Nat} {p : Nat} (h : (l1 ++ p :: l2).Nodup) : without (l1 ++ p :: l2) p = l1 ++ l2 := by
  have h1 := List.nodup_append.mp h
  have hp1 : p ∉ l1 := fun z => (h1.2.2 p z p (List.mem_cons_self)) rfl
  have hp2 : p ∉ l2 := (List.nodup_cons.mp h1.2.1).1
  unfold without
  rw [List.filter_append, List.filter_cons]
  simp only [beq_self_eq_true, Bool.not_true, Bool.false_eq_true, if_false]
  rw [List.filter_eq_self.mpr, List.filter_eq_self.mpr]
  · intro a ha
    have : a ≠ p := fun z => hp2 (z ▸ ha)
    simp [this]
  · intro a ha
    have : a ≠ p := fun z => hp1 (z ▸ ha)
    simp [this]
/-- a message that is on its way: in the class at u, in the model at the sender's -/
def msgC (C : St) (u : Nat) (ty sz : Int) : Prop := gL C 11 u 0 = ty ∧ gI C 17 u 0 = sz
def msgM (C M : St) (u sp : Nat) (ty sz : Int) : Prop := ∀ j : Nat, (j : Int) < sz → gI C 18 u j = gI M 110 13 (64 * sp + j)
theorem msgC.hf {C C' : St} {u : Nat} {ty sz : Int} (h : msgC C u ty sz) (hf : HFC C C') : msgC C' u ty sz := ⟨by rw [hf.1.2.2.1 11 (by decide)]; exact h.1, by rw [hf.1.2.1 17 (by decide)]; exact h.2⟩
theorem msgM.hf {C C' M M' : St} {u sp : Nat} {ty sz : Int} (h : msgM C M u sp ty sz) (hf : HFC C C') (hg : HFM M M') : msgM C' M' u sp ty sz := fun j hj => by
  rw [hf.1.2.1 18 (by decide), hg.1.1 13 (by decide)]; exact h j hj
theorem tkr_M {k n : Nat} {ls : List Nat} {e e2 : Option Nat} {C M : St} {s p : Nat} {bh : Int} (h : SimB k n ls e e2 C M) (hp : p < n) (hs : s < 12) : wtP M 2 (s : Int) bh p ↔ tkr C s p ∧ bh < gI M 110 8 p := by
  have e7 := (h.2.2.2.2.2.1 p hp).2.2.2.2.2.1
  have hw := h.2.2.2.2.2.2.2.1 p hp
  unfold wtP tkr
  rw [← e7]
  constructor
  · rintro ⟨h1, h2, h3⟩
    refine ⟨⟨h1, ?_⟩, h3⟩
    rcases hw with ⟨w, -⟩ | ⟨w, -⟩ | ⟨w, -, s', hs', w1, w2, -⟩ | ⟨w, -⟩
    · omega
    · omega
    · rcases h2 with z | z
      · omega
      · rw [w1, show s' = s by omega]
    · omega
  · rintro ⟨⟨h1, h2⟩, h3⟩
    refine ⟨h1, Or.inr ?_, h3⟩
    rcases hw with ⟨w, -⟩ | ⟨w, -⟩ | ⟨w, -, s', hs', w1, w2, -⟩ | ⟨w, -⟩
    · omega
    · omega
    · rw [h2] at w1; cases w1; exact w2
    · omega
theorem tkr_take {k n : Nat} {ls : List Nat} {e e2 : Option Nat} {C M : St} {s p : Nat} (h : SimB k n ls e e2 C M) (hp : p < n) (ht : tkr C s p) : takeOK C M p := by
  rcases h.2.2.2.2.2.2.2.1 p hp with ⟨w, -⟩ | ⟨w, -⟩ | ⟨w, w1, -⟩ | ⟨w, -⟩
  · have := ht.1; omega
  · have := ht.1; omega
  · exact w1
  · have := ht.1; omega
theorem tkr_V {k n : Nat} {ls : List Nat} {e e2 o : Option Nat} {C M : St} {s p : Nat} {bh : Int} (h : SimB k n ls e e2 C (gv o M)) (hp : p < n) (hs : s < 12) : wtP (gv o M) 2 (s : Int) bh p ↔ tkr C s p ∧ bh < gI M 110 8 p := by
  have := tkr_M (bh := bh) h hp hs
  rw [gI_gv o M p (by decide)] at this
  exact this
theorem tkr_takeV {k n : Nat} {ls : List Nat} {e e2 o : Option Nat} {C M : St} {s p : Nat} (h : SimB k n ls e e2 C (gv o M)) (hp : p < n) (ht : tkr C s p) : takeOK C M p := by
  have := tkr_take h hp ht
  unfold takeOK at this ⊢
  simp only [gI_gv o M (f := 11) _ (by decide), gI_gv o M (f := 12) _ (by decide), gL_gv] at this
  exact this
theorem tkr_ne {k n : Nat} {ls : List Nat} {e e2 o : Option Nat} {C M : St} {s p : Nat} (h : SimB k n ls e e2 C (gv o M)) (hp : p < n) (ht : tkr C s p) : o ≠ some p := by
  rintro rfl
  have e7 := (h.2.2.2.2.2.1 p hp).2.2.2.2.2.1
  have e : gI (gv (some p) M) 110 7 p = 0 := by
    show gI (goM M p 0) 110 7 p = 0
    rw [gI_goM, if_neg (by omega), if_pos ⟨rfl, rfl, rfl⟩]
  rw [ht.1, e] at e7
  exact absurd e7 (by decide)
theorem gvo_go {o : Option Nat} {M : St} {q : Nat} {r : Int} (h : gvo o M) (hq : o ≠ some q) : gvo o (goM M q r) := by
  intro p hp
  have hne : p ≠ q := fun z => hq (by rw [hp, z])
  rw [gI_goM, if_neg (by omega), if_neg (by omega)]
  exact h p hp
theorem gvo_dlv {o : Option Nat} {M : St} {q c d m : Nat} {ty : Int} (h : gvo o M) (hq : o ≠ some q) : gvo o (dlvM M q c d ty m) := by
  intro p hp
  have hne : p ≠ q := fun z => hq (by rw [hp, z])
  unfold dlvM
  rw [gI_givS, if_neg (by omega), if_neg (by omega), gI_uI, if_neg (by omega)]
  exact h p hp
theorem hand_loop {k n : Nat} {e e2 : Option Nat} {s sp u : Nat} {ty sz : Int} (hs : s < 12) (hsp : sp < 16) (hty : 1 ≤ ty ∧ nmL ty = ty) (hsz : 0 ≤ sz ∧ sz ≤ 64) :
    ∀ (todo done : List Nat) (C M0 : St) (m looks : Nat), SimB k n (done ++ todo) e e2 C M0 → msgC C u ty sz → looks + m = 16 → todo.length ≤ m →
    ∃ (b : Int) (C' : St) (ls' : List Nat), (b = 1 ∨ b = 0) ∧ (∀ po, po b C' → wp_X7_handToTaker_5 po (m + 1) (some s) (some u) (done.length : Int) (looks : Int) C) ∧ HFC C C' ∧ ls'.Sublist (done ++ todo) ∧
      ∀ (o : Option Nat) (M : St) (bh : Int), SimB k n (done ++ todo) e e2 C (gv o M) → gvo o M → msgM C M u sp ty sz → (∀ p ∈ done, tkr C s p → gI M 110 8 p ≤ bh) → (∀ p ∈ todo, bh < gI M 110 8 p) → nm bh = bh →
        ∃ M', HFM M M' ∧ (∀ q, q ∉ done ++ todo → gI M' 110 4 q = gI M 110 4 q) ∧ gvo o M' ∧ SimB k n ls' e e2 C' (gv o M') ∧ ∀ po : Int → St → Prop, (b = 1 → po 1 M') → (b = 0 → wp_X8_isSent_24 po 1 (s : Int) (sp : Int) ty sz (-1) M') → ∃ nf, wp_X8_waiter 2 (s : Int) bh M (fun q M1 => wp_X8_isSent_24 po nf (s : Int) (sp : Int) ty sz q M1) := by
  intro todo
  have ns : nm (s : Int) = s := nm_nat (n := 12) hs (by omega)
  have n2 : nm 2 = 2 := by decide
  induction todo with
  | nil =>
    intro done C M0 m looks h hmc hl hm
    rw [List.append_nil] at h
    refine ⟨0, C, done, Or.inr rfl, fun po hpo => hand_idle h.2.1 hpo m done.length looks hl (Nat.le_refl _) (by have := h.2.1.2.2.1; omega), HFC.rf, by rw [List.append_nil]; exact List.Sublist.refl _, fun o M bh hM hgo hmm hd _ hbh => ?_⟩
    rw [List.append_nil] at hM
    refine ⟨M, HFM.rf, fun _ _ => rfl, hgo, hM, fun po _ h0 => ⟨1, ?_⟩⟩
    refine sp_waiterV_none hM hgo ns hbh (fun p hp hw => ?_) (h0 rfl)
    have hpn := ((hM.2.1.2.2.2.2 p).mp hp).1
    obtain ⟨w1, w2⟩ := (tkr_V hM hpn hs).mp hw
    have := hd p hp w1
    omega
  | cons p t ih =>
    intro done C M0 m looks h hmc hl hm
    obtain ⟨m', rfl⟩ : ∃ m', m = m' + 1 := ⟨m - 1, by simp at hm; omega⟩
    have hpl : p ∈ done ++ p :: t := by simp
    have hpn := ((h.2.1.2.2.2.2 p).mp hpl).1
    have hat : (done ++ p :: t)[done.length]? = some p := by simp
    have h16 := h.2.1.2.2.1
    have hnd := h.2.1.2.2.2.1
    have happ : done ++ p :: t = (done ++ [p]) ++ t := by simp
    have hlen : ((done ++ [p]).length : Int) = (done.length : Int) + 1 := by simp
    have hlk : ((looks + 1 : Nat) : Int) = (looks : Int) + 1 := by omega
    have htl : t.length ≤ m' := by simp at hm; omega
    -- the class looks at p
    have cls : ∀ (po : Int → St → Prop), (tkr C s p → wp_X6_wants p ty C (fun r102 s103 => (nm r102 ≠ 0 → wp_X6_isTooSmallFor p (some u) s103 (fun r103 s104 => (nm r103 = 0 → wp_X2_receive p (some u) s104 (fun r104 s105 => wp_X7_goOn (some p) r104 s105 (fun s106 => po 1 s106))) ∧ (nm r103 ≠ 0 → wp_X7_goOn (some p) (-13) s104 (fun s107 => wp_X7_handToTaker_5 po (m' + 1) (some s) (some u) (done.length : Int) ((looks : Int) + 1) s107)))) ∧ (nm r102 = 0 → wp_X7_handToTaker_5 po (m' + 1) (some s) (some u) ((done.length : Int) + 1) ((looks : Int) + 1) s103))) → (¬ tkr C s p → wp_X7_handToTaker_5 po (m' + 1) (some s) (some u) ((done.length : Int) + 1) ((looks : Int) + 1) C) → wp_X7_handToTaker_5 po (m' + 1 + 1) (some s) (some u) (done.length : Int) (looks : Int) C := by
      intro po ht hnt
      unfold wp_X7_handToTaker_5
      rw [nm_nat (n := 17) (by omega) (by omega), show nm 16 = 16 by decide]
      refine ⟨fun z => absurd z (by omega), fun _ => sp_inLine_some h.2.1 hat ⟨fun z => (by cases z), ?_⟩⟩
      rintro _ ⟨rfl⟩
      refine sp_waitsTo n2 ⟨fun z => ?_, fun z => ?_⟩
      · exact hnt ((ez_bI (gI C 15 p 0 = 2 ∧ gR C 10 p 0 = some s)).mp z)
      · refine ⟨u, rfl, ?_⟩
        rw [hmc.1]
        exact ht ((nz_bI (gI C 15 p 0 = 2 ∧ gR C 10 p 0 = some s)).mp z)
    by_cases hk : tkr C s p
    · have htk0 := tkr_take h hpn hk
      by_cases hwn : wantN (gL C 12 p 0) (gI C 21 p 0 ≠ 0) ty
      · by_cases hts : gI C 20 p 0 = 0 ∧ gI C 19 p 0 < gI C 17 u 0
        · -- too small: it goes on, the next one is looked at
          have h1 := h.goOn (p := p) (r := -13) (by decide)
          rw [without_mid hnd] at h1
          obtain ⟨b, C', ls', hb, hr, hf, hsub, hM'⟩ := ih done (goOnS C (done ++ p :: t) p (-13)) (goM M0 p (-13)) m' (looks + 1) h1 (hmc.hf (HFC.goOn _ _ _ _)) (by omega) htl
          refine ⟨b, C', ls', hb, fun po hpo => cls po (fun _ => ?_) (fun z => absurd hk z), (HFC.goOn _ _ _ _).tr hf, hsub.trans (List.Sublist.append (List.Sublist.refl done) (List.sublist_cons_self p t)), fun o M bh hM hgo hmm hd hto hbh => ?_⟩
          · refine sp_wants hty htk0.2.2.2.2.2.2 (fun _ => ⟨fun _ => ?_, fun z => absurd z (by decide)⟩) (fun z => absurd hwn z)
            refine sp_tooSmall (fun _ _ => ⟨fun z => absurd z (by decide), fun _ => ?_⟩) (fun z => absurd z (by omega))
            refine run_goOn h.2.1.1 h.2.1.2.1 h16 ?_
            have := hr po hpo
            rw [hlk] at this
            exact this
          · have hop := tkr_ne hM hpn hk
            have g1 := hM.goOn (p := p) (r := -13) (by decide)
            rw [without_mid hnd, ← gv_go hop] at g1
            have e8 : ∀ q, gI (goM M p (-13)) 110 8 q = gI M 110 8 q := fun q => by rw [gI_goM]; simp
            have hpw := hM.2.2.1.2.2.2
            simp only [gI_gv o M (f := 8) _ (by decide)] at hpw
            have hpt := (List.pairwise_cons.mp (List.pairwise_append.mp hpw).2.1).1
            have htk := tkr_takeV hM hpn hk
            have c1 : ∀ q ∈ done, tkr (goOnS C (done ++ p :: t) p (-13)) s q → gI (goM M p (-13)) 110 8 q ≤ gI M 110 8 p := by
              intro q hq ht
              rw [e8]
              have ht' : tkr C s q := by
                have hqp : q ≠ p := fun z => (List.nodup_append.mp hnd).2.2 q hq p (List.mem_cons_self) z
                unfold tkr at ht ⊢
                rw [gI_goOnS, gR_goOnS] at ht
                simpa [hqp] using ht
              have := hd q hq ht'
              have := hto p (by simp)
              omega
            have c2 : ∀ q ∈ t, gI M 110 8 p < gI (goM M p (-13)) 110 8 q := fun q hq => by rw [e8]; exact hpt q hq
            obtain ⟨M', hfm, h4, hgo', hs', hpo'⟩ := hM' o (goM M p (-13)) (gI M 110 8 p) g1 (gvo_go hgo hop) (hmm.hf (HFC.goOn _ _ _ _) (HFM.goes _ _ _)) c1 c2 (nm_gI _ _ _ _)
            · refine ⟨M', (HFM.goes _ _ _).tr hfm, fun q hq => (by have hqp : q ≠ p := fun z => hq (by rw [z]; simp); rw [h4 q (fun z => hq ((List.Sublist.append (List.Sublist.refl done) (List.sublist_cons_self p t)).subset z)), gI_goM, if_neg (by omega), if_neg (by omega)]), hgo', hs', fun po hp1 hp0 => ?_⟩
              obtain ⟨nf, hnf⟩ := hpo' po hp1 hp0
              refine ⟨nf + 1, ?_⟩
              refine sp_waiterV_first hM hgo ns hbh ((tkr_V hM hpn hs).mpr ⟨hk, hto p (by simp)⟩) (fun q hq hw => ?_) ?_
              · obtain ⟨w1, w2⟩ := (tkr_V hM ((hM.2.1.2.2.2.2 q).mp (by simp [hq])).1 hs).mp hw
                have := hd q hq w1
                omega
              · have ep : ((p : Int)).toNat = p := by omega
                have np : nm (p : Int) = p := nm_nat (n := 16) (by have := h.1.1; omega) (by omega)
                have i16 : (0 : Int) ≤ p ∧ (p : Int) < 16 := by have := h.1.1; omega
                have nsz : nm sz = sz := nm_id (by omega)
                have nz2 : nm (zand (gI M 110 12 p) 2) = zand (gI M 110 12 p) 2 := by unfold zand nm; rw [i32_of]
                unfold wp_X8_isSent_24
                rw [np, ep]
                refine ⟨fun z => absurd z (by rw [nm_m1]; omega), fun _ => ⟨i16, i16, ?_⟩⟩
                refine sp_wantsM hty (nmL_gL _ _ _ _) (fun _ => ⟨fun z => absurd z (by decide), fun _ => ?_⟩) (fun z => absurd ?_ z)
                · rw [nm_gI, nsz, nz2]
                  refine ⟨i16, fun z => ?_, fun _ => ⟨i16, fun z => absurd (htk.2.2.2.2.1.mp hts.1) z, fun _ => ?_⟩⟩
                  · have := htk.1; have := hmc.2; omega
                  · refine run_goesOn (by have := h.1.1; omega) ⟨i16, ?_⟩
                    rw [e8]
                    exact hnf
                · have e1 := htk.2.2.2.1
                  have e2 := htk.2.2.2.2.2.1
                  rw [← e1]
                  refine (iff_of_eq ?_).mp hwn
                  congr 1
                  exact propext (not_congr e2)
        · -- it comes to p
          have mm : (min (gI C 19 p 0).toNat (gI C 17 u 0).toNat) ≤ 64 := by have := htk0.2.2.1; omega
          refine ⟨1, dlvC C (done ++ p :: t) p u (min (gI C 19 p 0).toNat (gI C 17 u 0).toNat), without (done ++ p :: t) p, Or.inl rfl, fun po hpo => cls po (fun _ => ?_) (fun z => absurd hk z), HFC.dlv _ _ _ _ _, List.filter_sublist, fun o M bh hM hgo hmm hd hto hbh => ?_⟩
          · refine sp_wants hty htk0.2.2.2.2.2.2 (fun _ => ⟨fun _ => ?_, fun z => absurd z (by decide)⟩) (fun z => absurd hwn z)
            refine sp_tooSmall (fun z1 z2 => absurd ⟨z1, z2⟩ hts) (fun _ => ⟨fun _ => ?_, fun z => absurd n0 z⟩)
            refine sp_receive ⟨htk0.2.1, htk0.2.2.1⟩ (by rw [hmc.2]; exact hsz) ?_
            exact run_goOn (C := recS C p u _) (fun i => by rw [gR_recS]; exact h.2.1.1 i) (by rw [gI_recS]; simpa using h.2.1.2.1) h16 hpo
          · have htk := tkr_takeV hM hpn hk
            have ep : ((p : Int)).toNat = p := by omega
            have np : nm (p : Int) = p := nm_nat (n := 16) (by have := h.1.1; omega) (by omega)
            have i16 : (0 : Int) ≤ p ∧ (p : Int) < 16 := by have := h.1.1; omega
            have nsz : nm sz = sz := nm_id (by omega)
            have nz2 : nm (zand (gI M 110 12 p) 2) = zand (gI M 110 12 p) 2 := by unfold zand nm; rw [i32_of]
            have hop := tkr_ne hM hpn hk
            have em : min (gI C 19 p 0).toNat (gI C 17 u 0).toNat = min (gI M 110 11 p).toNat sz.toNat := by rw [htk.1, hmc.2]
            refine ⟨dlvM M p 13 (64 * sp) ty (min (gI C 19 p 0).toNat (gI C 17 u 0).toNat), HFM.dlv _ _ _ _ _ _, fun q hq => (by have hqp : q ≠ p := fun z => hq (by rw [z]; simp); unfold dlvM; rw [gI_givS, if_neg (by omega), if_neg (by omega), gI_uI, if_neg (by omega)]), gvo_dlv hgo hop, by rw [gv_dlv hop (by decide)]; exact hM.deliver mm hty.2 (by decide) hmc.1 (fun j hj => by rw [gI_gv o M _ (by decide)]; exact hmm j (by have := hmc.2; omega)), fun po hp1 _ => ⟨1, ?_⟩⟩
            refine sp_waiterV_first hM hgo ns hbh ((tkr_V hM hpn hs).mpr ⟨hk, hto p (by simp)⟩) (fun q hq hw => ?_) ?_
            · obtain ⟨w1, w2⟩ := (tkr_V hM ((hM.2.1.2.2.2.2 q).mp (by simp [hq])).1 hs).mp hw
              have := hd q hq w1
              omega
            · have c86 : wp_X8_isSent_86 po (sp : Int) ty sz (p : Int) M := by
                unfold wp_X8_isSent_86
                rw [np, ep]
                refine ⟨i16, ?_⟩
                rintro _ rfl
                refine ⟨i16, ?_⟩
                have e11 : gI (uI M 110 7 p 0) 110 11 p = gI M 110 11 p := by rw [gI_uI]; simp
                rw [e11, show 64 * (sp : Int) = ((64 * sp : Nat) : Int) by omega]
                refine sp_give (by have := h.1.1; omega) hsz (by have := htk.1; have := htk.2.1; have := htk.2.2.1; omega) rfl (by show _ ≤ 1024; omega) (by decide) (by decide) ?_
                rw [em] at hp1
                exact hp1 rfl
              unfold wp_X8_isSent_24
              rw [np, ep]
              refine ⟨fun z => absurd z (by rw [nm_m1]; omega), fun _ => ⟨i16, i16, ?_⟩⟩
              refine sp_wantsM hty (nmL_gL _ _ _ _) (fun _ => ⟨fun z => absurd z (by decide), fun _ => ?_⟩) (fun z => absurd ?_ z)
              · rw [nm_gI, nsz, nz2]
                refine ⟨i16, fun _ => c86, fun z1 => ⟨i16, fun _ => c86, fun z2 => ?_⟩⟩
                exact absurd ⟨htk.2.2.2.2.1.mpr z2, by have := htk.1; have := hmc.2; omega⟩ hts
              · have e1 := htk.2.2.2.1
                have e2 := htk.2.2.2.2.2.1
                rw [← e1]
                refine (iff_of_eq ?_).mp hwn
                congr 1
                exact propext (not_congr e2)
      · -- a taker that doesn't want it
        rw [happ] at h
        obtain ⟨b, C', ls', hb, hr, hf, hsub, hM'⟩ := ih (done ++ [p]) C M0 m' (looks + 1) h hmc (by omega) htl
        refine ⟨b, C', ls', hb, fun po hpo => cls po (fun _ => ?_) (fun z => absurd hk z), hf, by rw [happ]; exact hsub, fun o M bh hM hgo hmm hd hto hbh => ?_⟩
        · refine sp_wants hty htk0.2.2.2.2.2.2 (fun z => absurd z hwn) (fun _ => ⟨fun z => absurd n0 z, fun _ => ?_⟩)
          have := hr po hpo
          rw [hlk, hlen] at this
          exact this
        · have hM2 := hM
          rw [happ] at hM2
          have hpw := hM.2.2.1.2.2.2
          simp only [gI_gv o M (f := 8) _ (by decide)] at hpw
          have hpt := (List.pairwise_cons.mp (List.pairwise_append.mp hpw).2.1).1
          have htk := tkr_takeV hM hpn hk
          have c1 : ∀ q ∈ done ++ [p], tkr C s q → gI M 110 8 q ≤ gI M 110 8 p := by
            intro q hq ht
            rcases List.mem_append.mp hq with z | z
            · have := hd q z ht
              have := hto p (by simp)
              omega
            · rw [List.mem_singleton.mp z]; exact Int.le_refl _
          obtain ⟨M', hfm, h4, hgo', hs', hpo'⟩ := hM' o M (gI M 110 8 p) hM2 hgo hmm c1 hpt (nm_gI _ _ _ _)
          · refine ⟨M', hfm, by rw [happ]; exact h4, hgo', hs', fun po hp1 hp0 => ?_⟩
            obtain ⟨nf, hnf⟩ := hpo' po hp1 hp0
            refine ⟨nf + 1, ?_⟩
            refine sp_waiterV_first hM hgo ns hbh ((tkr_V hM hpn hs).mpr ⟨hk, hto p (by simp)⟩) (fun q hq hw => ?_) ?_
            · obtain ⟨w1, w2⟩ := (tkr_V hM ((hM.2.1.2.2.2.2 q).mp (by simp [hq])).1 hs).mp hw
              have := hd q hq w1
              omega
            · have ep : ((p : Int)).toNat = p := by omega
              have np : nm (p : Int) = p := nm_nat (n := 16) (by have := hM.1.1; omega) (by omega)
              have i16 : (0 : Int) ≤ p ∧ (p : Int) < 16 := by have := hM.1.1; omega
              unfold wp_X8_isSent_24
              rw [np, ep]
              refine ⟨fun z => absurd z (by rw [nm_m1]; omega), fun _ => ⟨i16, i16, ?_⟩⟩
              refine sp_wantsM hty (nmL_gL _ _ _ _) (fun z => absurd ?_ hwn) (fun _ => ⟨fun _ => ⟨i16, hnf⟩, fun z => absurd n0 z⟩)
              have e1 := htk.2.2.2.1
              have e2 := htk.2.2.2.2.2.1
              rw [← e1] at z
              refine (iff_of_eq ?_).mp z
              congr 1
              exact propext (not_congr e2.symm)
    · -- no taker
      rw [happ] at h
      obtain ⟨b, C', ls', hb, hr, hf, hsub, hM'⟩ := ih (done ++ [p]) C M0 m' (looks + 1) h hmc (by omega) htl
      refine ⟨b, C', ls', hb, fun po hpo => cls po (fun z => absurd z hk) (fun _ => ?_), hf, by rw [happ]; exact hsub, fun o M bh hM hgo hmm hd hto hbh => ?_⟩
      · have := hr po hpo
        rw [hlk, hlen] at this
        exact this
      · rw [happ] at hM
        rw [happ]
        refine hM' o M bh hM hgo hmm (fun q hq ht => ?_) (fun q hq => hto q (List.mem_cons_of_mem _ hq)) hbh
        rcases List.mem_append.mp hq with z | z
        · exact hd q z ht
        · rw [List.mem_singleton.mp z] at ht; exact absurd ht hk
