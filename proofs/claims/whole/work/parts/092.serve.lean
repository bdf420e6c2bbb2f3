/-! LAYER 2: a set is served, both -/
theorem st_of_try {C M : St} {p s cnt : Nat} (h : tryOK C M p s) (h45 : gI C 45 (12 + s) 0 = cnt) : ∃ q : Nat, gI C 26 p 0 = q ∧ stC C p q cnt := by
  obtain ⟨t1, t2, t3, t4, t5, t6, t7, t8⟩ := h
  refine ⟨(gI C 26 p 0).toNat, by omega, by omega, by omega, fun i hi => ?_⟩
  obtain ⟨⟨s1, s2, s3, s4, s5, s6, s7, s8, s9⟩, hc⟩ := t8 i (by omega)
  exact ⟨⟨(gI C 22 p i).toNat, by omega, by omega⟩, ⟨s6, s7⟩, s8, s9⟩
theorem stM_of_try {C M : St} {p s q : Nat} (h : tryOK C M p s) (hq : gI C 26 p 0 = q) : stM C M p q := by
  obtain ⟨t1, t2, t3, t4, t5, t6, t7, t8⟩ := h
  refine ⟨by omega, fun i hi => ?_⟩
  obtain ⟨⟨s1, s2, s3, -⟩, -⟩ := t8 i (by omega)
  exact ⟨s1, s2, s3⟩
def K34 (ls : List Nat) (M M' : St) : Prop := (∀ q, q ∉ ls → gI M' 110 4 q = gI M 110 4 q) ∧ ∀ b, gI M' 110 3 b = gI M 110 3 b
theorem K34.rf {ls : List Nat} {M : St} : K34 ls M M := ⟨fun _ _ => rfl, fun _ => rfl⟩
theorem K34.tr {ls ls' : List Nat} {a b c : St} (h : K34 ls a b) (g : K34 ls' b c) (hs : ∀ q, q ∈ ls' → q ∈ ls) : K34 ls a c := ⟨fun q hq => (g.1 q (fun z => hq (hs q z))).trans (h.1 q hq), fun q => (g.2 q).trans (h.2 q)⟩
def SVn (s : Nat) (po : St → Prop) (m : Nat) (bh : Int) (M : St) : Prop := wp_X8_waiter 3 (s : Int) bh M (fun r σ => wp_X8_serve_8 po m (s : Int) r σ)
def swt (C : St) (s q : Nat) : Prop := gI C 15 q 0 = 3 ∧ gR C 10 q 0 = some (12 + s)
theorem swt_M {k n : Nat} {ls : List Nat} {e e2 : Option Nat} {C M : St} {s q : Nat} (h : SimB k n ls e e2 C M) (hq : q < n) (hs : s < 12) (bh : Int) : wtP M 3 (s : Int) bh q ↔ swt C s q ∧ bh < gI M 110 8 q := by
  have := wt_CM (kd := 3) (t := 12 + s) h hq hs (Or.inr ⟨rfl, rfl⟩)
  unfold wtP swt
  rw [this]
  constructor
  · rintro ⟨a, b, c⟩
    exact ⟨⟨a, by omega⟩, c⟩
  · rintro ⟨⟨a, b⟩, c⟩
    exact ⟨a, Or.inr b, c⟩
theorem serve_idle {n : Nat} {ls : List Nat} {C : St} {po : Int → St → Prop} {o1 : Option Nat} (h : lineOK n ls C) (hpo : po 0 C) : ∀ m i looks : Nat, looks + m = 16 → ls.length ≤ i → i + m ≤ 65535 → wp_X7_serveLine_4 po (m + 1) o1 (i : Int) (looks : Int) C := by
  intro m
  induction m with
  | zero =>
    intro i looks hl hi hi2
    have e : looks = 16 := by omega
    subst e
    unfold wp_X7_serveLine_4
    exact ⟨fun _ => hpo, fun z => absurd z (by decide)⟩
  | succ m ih =>
    intro i looks hl hi hi2
    rw [wp_X7_serveLine_4]
    rw [nm_nat (n := 17) (p := looks) (by omega) (by omega), show nm 16 = 16 by decide]
    refine ⟨fun z => absurd z (by omega), fun _ => sp_inLine_none h hi (by omega) ⟨fun _ => ?_, fun a z => (by cases z)⟩⟩
    have := ih (i + 1) (looks + 1) (by omega) (by omega) (by omega)
    exact this
theorem hre_xi {L : Nat → Nat → Nat → Prop} {C C' : St} (x : XI L C C') (hl : ∀ a b, ¬ L 32 a b) (t : Nat) : hre C' t ↔ hre C t := hre_ag (fun a b => x.2.2.2 2 a b) (fun a b => x.2.2.2 3 a b) (fun a b => x.2.1 32 a b (hl a b)) t
theorem hre_goOn {C : St} {ls : List Nat} {q : Nat} {r : Int} (t : Nat) : hre (goOnS C ls q r) t ↔ hre C t := hre_ag (fun a b => by rw [gR_goOnS, if_neg (by omega), if_neg (by omega)]) (fun a b => by rw [gR_goOnS, if_neg (by omega), if_neg (by omega)]) (fun a b => by rw [gI_goOnS, if_neg (by omega), if_neg (by omega), if_neg (by omega)]) t
theorem serve_line {k n : Nat} {e e2 : Option Nat} {s : Nat} (hs : s < 12) : ∀ (rest done ls : List Nat) (C M0 : St) (m looks : Nat), ls = done ++ rest → SimB k n ls e e2 C M0 → hre C (12 + s) → rest.length ≤ m → looks + m = 16 →
    ∃ (r : Int) (C' : St) (ls' : List Nat), (r = 0 ∨ r = 1) ∧ MEq C C' ∧ ls'.Sublist ls ∧ (r = 1 → ls'.length < ls.length) ∧ (∀ t, hre C' t ↔ hre C t) ∧ (∃ M1, SimB k n ls' e e2 C' M1) ∧
      (∀ po : Int → St → Prop, po r C' → wp_X7_serveLine_4 po (m + 1) (some (12 + s)) (done.length : Int) (looks : Int) C) ∧
      ∀ (M : St) (bh : Int), SimB k n ls e e2 C M → nm bh = bh → (∀ p, p ∈ rest → bh < gI M 110 8 p) → (∀ p, p ∈ done → swt C s p → gI M 110 8 p ≤ bh) →
        ∃ M', SimB k n ls' e e2 C' M' ∧ CEq M M' ∧ K34 ls M M' ∧ (r = 1 → ∀ (po : St → Prop) (f : Nat), SVn s po f 0 M' → ∃ f', SVn s po f' bh M) ∧ (r = 0 → ∀ po : St → Prop, po M' → ∃ f', SVn s po f' bh M) := by
  intro rest
  induction rest with
  | nil =>
    intro done ls C M0 m looks els h hh hm hl
    have edl : ls = done := by rw [els]; simp
    refine ⟨0, C, ls, Or.inl rfl, MEq.rf, List.Sublist.refl _, fun z => absurd z (by decide), fun _ => Iff.rfl, ⟨M0, h⟩, fun po hpo => ?_, fun M bh hM hbh h1 h2 => ⟨M, hM, CEq.rf, K34.rf, fun z => absurd z (by decide), fun _ po hpo => ⟨1, ?_⟩⟩⟩
    · have hl16 := h.2.1.2.2.1
      exact serve_idle h.2.1 hpo m done.length looks hl (by rw [edl]; exact Nat.le_refl _) (by rw [← edl]; omega)
    · refine sp_waiter_none hM (by decide) (nm_nat (n := 12) hs (by omega)) hbh (by decide) (fun p hp hw => ?_) ?_
      · have hpn := ((hM.2.1.2.2.2.2 p).mp hp).1
        obtain ⟨w1, w2⟩ := (swt_M hM hpn hs bh).mp hw
        have := h2 p (by rw [← edl]; exact hp) w1
        omega
      · unfold wp_X8_serve_8
        exact ⟨fun _ => hpo, fun z => absurd rfl z⟩
  | cons q rest ih =>
    intro done ls C M0 m looks els h hh hm hl
    obtain ⟨m, rfl⟩ : ∃ m', m = m' + 1 := ⟨m - 1, by simp at hm; omega⟩
    have hrm : rest.length ≤ m := by simp at hm; omega
    have hq : q ∈ ls := by rw [els]; simp
    have hqn : q < n := ((h.2.1.2.2.2.2 q).mp hq).1
    have hq16 : q < 16 := by have := h.1.1; omega
    have hnd := h.2.1.2.2.2.1
    have hat : ls[done.length]? = some q := by rw [els]; simp
    have nlk : nm (looks : Int) = looks := nm_nat (n := 17) (by omega) (by omega)
    have ls2 : ls = (done ++ [q]) ++ rest := by rw [els]; simp
    have nq1 : nm (q : Int) = q := nm_nat (n := 16) hq16 (by omega)
    have len2 : (done ++ [q]).length = done.length + 1 := by simp
    -- the class, to the test
    have cls : ∀ po : Int → St → Prop, (¬ swt C s q → wp_X7_serveLine_4 po (m + 1) (some (12 + s)) (((done ++ [q]).length : Nat) : Int) ((looks + 1 : Nat) : Int) C) → (swt C s q → wp_X0_attempt (12 + s) (some q) (q : Int) C (fun r102 s103 => (nm r102 ≠ nm 1 → wp_X7_goOn (some q) r102 s103 (fun s104 => (nm r102 ≠ 0 → wp_X7_serveLine_4 po (m + 1) (some (12 + s)) (done.length : Int) ((looks + 1 : Nat) : Int) s104) ∧
 (nm r102 = 0 → (nm (gI s104 51 (12 + s) 0) = 0 → wp_X7_serveLine_4 po (m + 1) (some (12 + s)) (done.length : Int) ((looks + 1 : Nat) : Int) s104) ∧
 (nm (gI s104 51 (12 + s) 0) ≠ 0 → po 1 s104)))) ∧
 (nm r102 = nm 1 → wp_X7_serveLine_4 po (m + 1) (some (12 + s)) (((done ++ [q]).length : Nat) : Int) ((looks + 1 : Nat) : Int) s103))) → wp_X7_serveLine_4 po (m + 1 + 1) (some (12 + s)) (done.length : Int) (looks : Int) C := by
      intro po h0 h1
      rw [wp_X7_serveLine_4]
      rw [nlk, show nm 16 = 16 by decide, show ((done.length : Int) + 1) = (((done ++ [q]).length : Nat) : Int) by rw [len2]; omega, show ((looks : Int) + 1) = ((looks + 1 : Nat) : Int) by omega]
      refine ⟨fun z => absurd z (by omega), fun _ => sp_inLine_some h.2.1 hat ⟨fun z => (by cases z), ?_⟩⟩
      rintro _ ⟨rfl⟩
      refine sp_waitsTo (by decide) ?_
      by_cases w : swt C s q
      · refine ⟨fun _ => ⟨12 + s, rfl, by omega, ?_⟩, fun z => absurd (show gI C 15 q 0 = 3 ∧ gR C 10 q 0 = some (12 + s) from w) ((ez_bI _).mp z)⟩
        rw [(h.2.2.2.2.2.1 q hqn).1]
        exact h1 w
      · exact ⟨fun z => absurd ((nz_bI _).mp z) w, fun _ => h0 w⟩
    by_cases w : swt C s q
    · -- one that waits on the set
      obtain ⟨s', hs', r1, r2, r3, r4⟩ := try_facts h hqn w.1
      have es : s' = s := by
        have := r1.symm.trans w.2
        have := Option.some.inj this
        omega
      subst es
      obtain ⟨-, c1, c8, -⟩ := h.2.2.2.2.2.2.2.2.2.2.1 s' hs' hh
      obtain ⟨cnt, h45⟩ : ∃ cnt : Nat, gI C 45 (12 + s') 0 = cnt := ⟨(gI C 45 (12 + s') 0).toNat, by omega⟩
      obtain ⟨qs, h26, hst⟩ := st_of_try r4 h45
      obtain ⟨o, C1, ho, run1, x1, stp, ch51, rel1⟩ := attempt_lock h hqn hs' hh h45 hst
      have me1 : MEq C C1 := x1.meq (by unfold LT; omega)
      have hh1 : ∀ t, hre C1 t ↔ hre C t := hre_xi x1 (by unfold LT; omega)
      have smq : ∀ M, SimB k n ls e e2 C M → stM C M q qs := by
        intro M hM
        obtain ⟨s'', -, t1, -, -, t4⟩ := try_facts hM hqn w.1
        have es : s'' = s' := by
          have := t1.symm.trans w.2
          have := Option.some.inj this
          omega
        subst es
        exact stM_of_try t4 h26
      obtain ⟨rr0, N0, -, -, hN0, -⟩ := rel1 M0 h (smq M0 h)
      -- the model, to the one that tries
      have mod : ∀ (M : St) (bh : Int), SimB k n ls e e2 C M → nm bh = bh → (∀ p, p ∈ q :: rest → bh < gI M 110 8 p) → (∀ p, p ∈ done → swt C s' p → gI M 110 8 p ≤ bh) → ∀ (po : St → Prop) (f : Nat), wp_X8_serve_8 po f (s' : Int) (q : Int) M → SVn s' po f bh M := by
        intro M bh hM hbh h1 h2 po f hpo
        have hM2 : SimB k n (done ++ q :: rest) e e2 C M := by rw [← els]; exact hM
        refine sp_waiter_first hM2 (by decide) (nm_nat (n := 12) hs' (by omega)) hbh (by decide) ((swt_M hM hqn hs' bh).mpr ⟨w, h1 q (by simp)⟩) (fun p hp hw => ?_) hpo
        have hpn := ((hM.2.1.2.2.2.2 p).mp (by rw [els]; simp [hp])).1
        obtain ⟨w1, w2⟩ := (swt_M hM hpn hs' bh).mp hw
        have := h2 p hp w1
        omega
      have trn : ∀ M, SimB k n ls e e2 C M → nm (gI M 110 8 q) = gI M 110 8 q ∧ (∀ p, p ∈ rest → gI M 110 8 q < gI M 110 8 p) ∧ ∀ p, p ∈ done → gI M 110 8 p < gI M 110 8 q := by
        intro M hM
        have ht := hM.2.2.1.2.2.2
        rw [els] at ht
        refine ⟨nm_gI _ _ _ _, (List.pairwise_cons.mp (List.pairwise_append.mp ht).2.1).1, fun p hp => (List.pairwise_append.mp ht).2.2 p hp q (by simp)⟩
      have swt1 : ∀ p, swt C1 s' p ↔ swt C s' p := by
        intro p
        unfold swt
        rw [x1.2.1 15 p 0 (by unfold LT; omega), x1.2.2.2 10 p 0]
      have wo : without ls q = done ++ rest := by rw [els] at hnd ⊢; exact without_mid hnd
      -- one goes on: class's and model's parts
      have go : ∀ v : Int, nm v = v → SimB k n (done ++ rest) e e2 (goOnS C1 ls q v) (goM N0 q v) := by
        intro v hv
        rw [← wo]; exact hN0.goOn hv
      have meG : ∀ v : Int, MEq C (goOnS C1 ls q v) := fun v => me1.tr (show MEq C1 (goOnS C1 ls q v) from ⟨fun f a b hf => by rw [gI_goOnS, if_neg (by omega), if_neg (by omega), if_neg (by omega)], fun f a b hf => rfl⟩)
      have hhG : ∀ (v : Int) t, hre (goOnS C1 ls q v) t ↔ hre C t := fun v t => (hre_goOn t).trans (hh1 t)
      have f51 : ∀ v : Int, gI (goOnS C1 ls q v) 51 (12 + s') 0 = gI C1 51 (12 + s') 0 := fun v => by rw [gI_goOnS, if_neg (by omega), if_neg (by omega), if_neg (by omega)]
      have subl : (done ++ rest).Sublist ls := by
        rw [els]
        exact List.Sublist.append_left (List.sublist_cons_self q rest) done
      have lenl : (done ++ rest).length < ls.length := by rw [els]; simp
      -- the model's side of one that goes on
      have mgo : ∀ (M : St) (bh v how : Int), SimB k n ls e e2 C M → nm bh = bh → (∀ p, p ∈ q :: rest → bh < gI M 110 8 p) → (∀ p, p ∈ done → swt C s' p → gI M 110 8 p ≤ bh) → (v = if how = 3 then -15 else 0) → (how = 0 ∨ how = 1 ∨ how = 3) → ∀ M1, XI (LTM q s') M M1 → (∀ po : Int → St → Prop, po how M1 → wp_X8_tried (q : Int) (s' : Int) M po) → ∀ (po : St → Prop) (f : Nat), wp_X8_serve_51 po (fun x1 x2 s9 => wp_X8_serve_8 po f x1 x2 s9) (s' : Int) (gI M 110 8 q) how (goM M1 q v) → SVn s' po (f + 1) bh M := by
        intro M bh v how hM hbh h1 h2 hv hhow M1 y1 runM po f hpo
        refine mod M bh hM hbh h1 h2 po (f + 1) ?_
        rw [wp_X8_serve_8]
        rw [nq1, Int.toNat_natCast, show nm (-1) = -1 by decide]
        refine ⟨fun z => absurd z (by omega), fun _ => ⟨by omega, runM _ ?_⟩⟩
        rw [show nm 2 = 2 by decide, show nm 3 = 3 by decide]
        rcases hhow with rfl | rfl | rfl
        · rw [if_neg (by decide)] at hv; subst hv
          exact ⟨fun z => absurd z (by decide), fun _ => ⟨fun _ => run_goesOn hq16 hpo, fun z => absurd z (by decide)⟩⟩
        · rw [if_neg (by decide)] at hv; subst hv
          exact ⟨fun z => absurd z (by decide), fun _ => ⟨fun _ => run_goesOn hq16 hpo, fun z => absurd z (by decide)⟩⟩
        · rw [if_pos rfl] at hv; subst hv
          exact ⟨fun z => absurd z (by decide), fun _ => ⟨fun z => absurd (by decide) z, fun _ => run_goesOn hq16 hpo⟩⟩
      have ceG : ∀ M M1 (v : Int), XI (LTM q s') M M1 → CEq M (goM M1 q v) := fun M M1 v y => (y.ceq (by unfold LTM; omega)).tr ((CEq.rf.uI _ _ _ _ (by decide)).uI _ _ _ _ (by decide))
      have r4 : ∀ M M1 (v : Int), XI (LTM q s') M M1 → K34 ls M (goM M1 q v) := fun M M1 v y => ⟨fun p hp => by
        have : p ≠ q := fun z => hp (z ▸ hq)
        rw [gI_goM, if_neg (by omega), if_neg (by omega), y.2.1 110 4 p (by unfold LTM; omega)], fun b => by
        rw [gI_goM, if_neg (by omega), if_neg (by omega), y.2.1 110 3 b (by unfold LTM; omega)]⟩
      have e8 : ∀ M M1 (v : Int) (p : Nat), XI (LTM q s') M M1 → gI (goM M1 q v) 110 8 p = gI M 110 8 p := fun M M1 v p y => by rw [gI_goM, if_neg (by omega), if_neg (by omega), y.2.1 110 8 p (by unfold LTM; omega)]
      have swtG : ∀ (v : Int) p, swt (goOnS C1 ls q v) s' p → swt C s' p := by
        intro v p hp
        by_cases z : p = q
        · rw [z]; exact w
        · rw [← swt1]
          unfold swt at hp ⊢
          rw [gI_goOnS, if_neg (by omega), if_neg (by omega), if_neg (by omega), gR_goOnS, if_neg (by omega), if_neg (by omega)] at hp
          exact hp
      -- both go on with the rest of the line
      have cont : ∀ (v : Int), nm v = v → (v = 0 ∨ v = -15) → o = v → (v = 0 → gI C1 51 (12 + s') 0 = 0) → ∃ (r : Int) (C' : St) (ls' : List Nat), (r = 0 ∨ r = 1) ∧ MEq C C' ∧ ls'.Sublist ls ∧ (r = 1 → ls'.length < ls.length) ∧ (∀ t, hre C' t ↔ hre C t) ∧ (∃ M1, SimB k n ls' e e2 C' M1) ∧
      (∀ po : Int → St → Prop, po r C' → wp_X7_serveLine_4 po (m + 1 + 1) (some (12 + s')) (done.length : Int) (looks : Int) C) ∧
      ∀ (M : St) (bh : Int), SimB k n ls e e2 C M → nm bh = bh → (∀ p, p ∈ q :: rest → bh < gI M 110 8 p) → (∀ p, p ∈ done → swt C s' p → gI M 110 8 p ≤ bh) →
        ∃ M', SimB k n ls' e e2 C' M' ∧ CEq M M' ∧ K34 ls M M' ∧ (r = 1 → ∀ (po : St → Prop) (f : Nat), SVn s' po f 0 M' → ∃ f', SVn s' po f' bh M) ∧ (r = 0 → ∀ po : St → Prop, po M' → ∃ f', SVn s' po f' bh M) := by
        intro v hv hv2 hov hv51
        obtain ⟨r, C', ls', g1, g2, g3, g4, g5, g6, g7, g8⟩ := ih done (done ++ rest) (goOnS C1 ls q v) (goM N0 q v) m (looks + 1) rfl (go v hv) ((hhG v _).mpr hh) hrm (by omega)
        refine ⟨r, C', ls', g1, (meG v).tr g2, g3.trans subl, fun z => Nat.lt_trans (g4 z) lenl, fun t => (g5 t).trans (hhG v t), g6, fun po hpo => cls po (fun z => absurd w z) (fun _ => run1 _ ?_), fun M bh hM hbh h1 h2 => ?_⟩
        · rw [hov]
          refine ⟨fun _ => run_goOn hN0.2.1.1 hN0.2.1.2.1 hN0.2.1.2.2.1 ⟨fun _ => g7 po hpo, fun z => ?_⟩, fun z => ?_⟩
          · rw [hv] at z
            rw [f51, nm_gI, hv51 z]
            exact ⟨fun _ => g7 po hpo, fun y => absurd rfl y⟩
          · rw [hv, show nm 1 = 1 by decide] at z
            rcases hv2 with y | y <;> omega
        · obtain ⟨how, M1, runM, y1, hM1, p0, p1, p15⟩ := rel1 M hM (smq M hM)
          obtain ⟨t1, t2, t3⟩ := trn M hM
          have hM2 : SimB k n (done ++ rest) e e2 (goOnS C1 ls q v) (goM M1 q v) := by
            rw [← wo]; exact hM1.goOn hv
          have hhow : (how = 0 ∨ how = 3) ∧ v = if how = 3 then -15 else 0 := by
            rcases hv2 with y | y
            · have o0 : o = 0 := by rw [hov, y]
              obtain ⟨a, b⟩ := p0 o0
              have b51 := hv51 y
              rcases a with a | a
              · exact ⟨Or.inl a, by rw [a, if_neg (by decide)]; exact y⟩
              · have := b.mp a; omega
            · have := p15 (by rw [hov, y])
              exact ⟨Or.inr this, by rw [this, if_pos rfl]; exact y⟩
          obtain ⟨M', z1, z2, z3, z4, z5⟩ := g8 (goM M1 q v) (gI M 110 8 q) hM2 t1 (fun p hp => by rw [e8 M M1 v p y1]; exact t2 p hp) (fun p hp _ => by rw [e8 M M1 v p y1]; exact Int.le_of_lt (t3 p hp))
          refine ⟨M', z1, (ceG M M1 v y1).tr z2, (r4 M M1 v y1).tr z3 (fun p hp => subl.subset hp), fun z po f hf => ?_, fun z po hpo => ?_⟩
          · obtain ⟨f2, hf2⟩ := z4 z po f hf
            refine ⟨f2 + 1, mgo M bh v how hM hbh h1 h2 hhow.2 (by omega) M1 y1 runM po f2 ⟨fun _ => hf2, fun y => ?_⟩⟩
            rcases hhow.1 with x | x <;> rw [x] at y <;> exact absurd y (by decide)
          · obtain ⟨f2, hf2⟩ := z5 z po hpo
            refine ⟨f2 + 1, mgo M bh v how hM hbh h1 h2 hhow.2 (by omega) M1 y1 runM po f2 ⟨fun _ => hf2, fun y => ?_⟩⟩
            rcases hhow.1 with x | x <;> rw [x] at y <;> exact absurd y (by decide)
      rcases ho with rfl | rfl | rfl
      · rcases ch51 rfl with h51 | h51
        · exact cont 0 n0 (Or.inl rfl) rfl (fun _ => h51)
        · -- a value is another: all anew
          refine ⟨1, goOnS C1 ls q 0, done ++ rest, Or.inr rfl, meG 0, subl, fun _ => lenl, hhG 0, ⟨_, go 0 n0⟩, fun po hpo => cls po (fun z => absurd w z) (fun _ => run1 _ ⟨fun _ => run_goOn hN0.2.1.1 hN0.2.1.2.1 hN0.2.1.2.2.1 ⟨fun z => absurd n0 z, fun _ => ?_⟩, fun z => absurd z (by decide)⟩), fun M bh hM hbh h1 h2 => ?_⟩
          · rw [f51, nm_gI, h51]
            exact ⟨fun z => absurd z (by decide), fun _ => hpo⟩
          · obtain ⟨how, M1, runM, y1, hM1, p0, p1, p15⟩ := rel1 M hM (smq M hM)
            have h1' : how = 1 := (p0 rfl).2.mpr h51
            subst h1'
            refine ⟨goM M1 q 0, by rw [← wo]; exact hM1.goOn n0, ceG M M1 0 y1, r4 M M1 0 y1, fun _ po f hf => ⟨f + 1, mgo M bh 0 1 hM hbh h1 h2 (by decide) (by decide) M1 y1 runM po f ⟨fun z => absurd rfl z, fun _ => hf⟩⟩, fun z => absurd z (by decide)⟩
      · -- it stops
        obtain ⟨r, C', ls', g1, g2, g3, g4, g5, g6, g7, g8⟩ := ih (done ++ [q]) ls C1 N0 m (looks + 1) ls2 hN0 ((hh1 _).mpr hh) hrm (by omega)
        refine ⟨r, C', ls', g1, me1.tr g2, g3, g4, fun t => (g5 t).trans (hh1 t), g6, fun po hpo => cls po (fun z => absurd w z) (fun _ => run1 _ ⟨fun z => absurd rfl z, fun _ => g7 po hpo⟩), fun M bh hM hbh h1 h2 => ?_⟩
        obtain ⟨how, M1, runM, y1, hM1, p0, p1, p15⟩ := rel1 M hM (smq M hM)
        have hw2 : how = 2 := (p1 rfl).1
        subst hw2
        obtain ⟨t1, t2, t3⟩ := trn M hM
        have e8' : ∀ p, gI M1 110 8 p = gI M 110 8 p := fun p => y1.2.1 110 8 p (by unfold LTM; omega)
        obtain ⟨M', z1, z2, z3, z4, z5⟩ := g8 M1 (gI M 110 8 q) hM1 t1 (fun p hp => by rw [e8']; exact t2 p hp) (fun p hp hsw => by
          rw [e8']
          rcases List.mem_append.mp hp with y | y
          · exact Int.le_of_lt (t3 p y)
          · rw [List.mem_singleton.mp y]; exact Int.le_refl _)
        have step : ∀ (po : St → Prop) (f : Nat), SVn s' po f (gI M 110 8 q) M1 → SVn s' po (f + 1) bh M := by
          intro po f hf
          refine mod M bh hM hbh h1 h2 po (f + 1) ?_
          rw [wp_X8_serve_8]
          rw [nq1, Int.toNat_natCast, show nm (-1) = -1 by decide]
          refine ⟨fun z => absurd z (by omega), fun _ => ⟨by omega, runM _ ⟨fun _ => ⟨fun _ => hf, fun z => absurd z (by decide)⟩, fun z => absurd rfl z⟩⟩⟩
        refine ⟨M', z1, (y1.ceq (by unfold LTM; omega)).tr z2, K34.tr ⟨fun p _ => y1.2.1 110 4 p (by unfold LTM; omega), fun b => y1.2.1 110 3 b (by unfold LTM; omega)⟩ z3 (fun p hp => hp), fun z po f hf => ?_, fun z po hpo => ?_⟩
        · obtain ⟨f2, hf2⟩ := z4 z po f hf
          exact ⟨f2 + 1, step po f2 hf2⟩
        · obtain ⟨f2, hf2⟩ := z5 z po hpo
          exact ⟨f2 + 1, step po f2 hf2⟩
      · exact cont (-15) (by decide) (Or.inr rfl) rfl (fun z => absurd z (by decide))
    · -- one that doesn't wait on the set
      obtain ⟨r, C', ls', g1, g2, g3, g4, g5, g6, g7, g8⟩ := ih (done ++ [q]) ls C M0 m (looks + 1) ls2 h hh hrm (by omega)
      refine ⟨r, C', ls', g1, g2, g3, g4, g5, g6, fun po hpo => cls po (fun _ => g7 po hpo) (fun z => absurd z w), fun M bh hM hbh h1 h2 => g8 M bh hM hbh (fun p hp => h1 p (by simp [hp])) (fun p hp hsw => ?_)⟩
      rcases List.mem_append.mp hp with z | z
      · exact h2 p z hsw
      · rw [List.mem_singleton.mp z] at hsw; exact absurd hsw w
theorem serve_all {k n : Nat} {e e2 : Option Nat} {s : Nat} (hs : s < 12) : ∀ (m round : Nat) (ls : List Nat) (C M0 : St), SimB k n ls e e2 C M0 → hre C (12 + s) → ls.length ≤ m → round + m = 16 →
    ∃ (C' : St) (ls' : List Nat), MEq C C' ∧ ls'.Sublist ls ∧ (∀ t, hre C' t ↔ hre C t) ∧ (∃ M1, SimB k n ls' e e2 C' M1) ∧ (∀ po : St → Prop, po C' → wp_X7_serveAll_4 po (m + 2) (some (12 + s)) 1 (round : Int) C) ∧
      ∀ M, SimB k n ls e e2 C M → ∃ M', SimB k n ls' e e2 C' M' ∧ CEq M M' ∧ K34 ls M M' ∧ ∀ po : St → Prop, po M' → ∃ f', SVn s po f' 0 M := by
  intro m
  induction m with
  | zero =>
    intro round ls C M0 h hh hl hr
    obtain ⟨r, C', ls', g1, g2, g3, g4, g5, g6, g7, g8⟩ := serve_line (k := k) (n := n) (e := e) (e2 := e2) hs ls [] ls C M0 16 0 rfl h hh (by omega) (by omega)
    have r0 : r = 0 := by
      rcases g1 with z | z
      · exact z
      · have := g4 z; omega
    subst r0
    have nr : nm (round : Int) = round := nm_nat (n := 17) (by omega) (by omega)
    refine ⟨C', ls', g2, g3, g5, g6, fun po hpo => ?_, fun M hM => ?_⟩
    · rw [wp_X7_serveAll_4, nr, show nm 16 = 16 by decide]
      refine ⟨fun z => absurd z (by omega), fun _ => ⟨fun z => absurd z (by decide), fun _ => ⟨17, g7 _ ?_⟩⟩⟩
      rw [wp_X7_serveAll_4]
      exact ⟨fun _ => hpo, fun _ => ⟨fun _ => hpo, fun z => absurd n0 z⟩⟩
    · obtain ⟨M', a1, a2, a3, a4, a5⟩ := g8 M 0 hM n0 (fun p hp => by have := hM.2.2.1.2.2.1 p hp; omega) (fun p hp => (by cases hp))
      exact ⟨M', a1, a2, a3, fun po hpo => a5 rfl po hpo⟩
  | succ m ih =>
    intro round ls C M0 h hh hl hr
    obtain ⟨r, C', ls', g1, g2, g3, g4, g5, g6, g7, g8⟩ := serve_line (k := k) (n := n) (e := e) (e2 := e2) hs ls [] ls C M0 16 0 rfl h hh (by have := h.2.1.2.2.1; omega) (by omega)
    have nr : nm (round : Int) = round := nm_nat (n := 17) (by omega) (by omega)
    have start : ∀ M, SimB k n ls e e2 C M → ∃ M', SimB k n ls' e e2 C' M' ∧ CEq M M' ∧ K34 ls M M' ∧ (r = 1 → ∀ (po : St → Prop) (f : Nat), SVn s po f 0 M' → ∃ f', SVn s po f' 0 M) ∧ (r = 0 → ∀ po : St → Prop, po M' → ∃ f', SVn s po f' 0 M) := fun M hM => g8 M 0 hM n0 (fun p hp => by have := hM.2.2.1.2.2.1 p hp; omega) (fun p hp => (by cases hp))
    have cls : ∀ po : St → Prop, wp_X7_serveAll_4 po (m + 2) (some (12 + s)) r ((round + 1 : Nat) : Int) C' → wp_X7_serveAll_4 po (m + 1 + 2) (some (12 + s)) 1 (round : Int) C := by
      intro po hpo
      rw [wp_X7_serveAll_4, nr, show nm 16 = 16 by decide, show ((round : Int) + 1) = ((round + 1 : Nat) : Int) by omega]
      exact ⟨fun z => absurd z (by omega), fun _ => ⟨fun z => absurd z (by decide), fun _ => ⟨17, g7 _ hpo⟩⟩⟩
    rcases g1 with rfl | rfl
    · refine ⟨C', ls', g2, g3, g5, g6, fun po hpo => cls po ?_, fun M hM => ?_⟩
      · rw [wp_X7_serveAll_4]
        exact ⟨fun _ => hpo, fun _ => ⟨fun _ => hpo, fun z => absurd n0 z⟩⟩
      · obtain ⟨M', a1, a2, a3, a4, a5⟩ := start M hM
        exact ⟨M', a1, a2, a3, fun po hpo => a5 rfl po hpo⟩
    · obtain ⟨M1, hM1⟩ := g6
      obtain ⟨C2, ls2, k1, k2, k3, k4, k5, k6⟩ := ih (round + 1) ls' C' M1 hM1 ((g5 _).mpr hh) (by have := g4 rfl; omega) (by omega)
      refine ⟨C2, ls2, g2.tr k1, k2.trans g3, fun t => (k3 t).trans (g5 t), k4, fun po hpo => cls po (k5 po hpo), fun M hM => ?_⟩
      obtain ⟨M', a1, a2, a3, a4, a5⟩ := start M hM
      obtain ⟨M2, b1, b2, b3, b4⟩ := k6 M' a1
      refine ⟨M2, b1, a2.tr b2, a3.tr b3 (fun q hq => g3.subset hq), fun po hpo => ?_⟩
      obtain ⟨f, hf⟩ := b4 po hpo
      exact a4 rfl po f hf
/-- a set is served -/
theorem serve {k n : Nat} {e e2 : Option Nat} {s : Nat} {ls : List Nat} {C M0 : St} (hs : s < 12) (h : SimB k n ls e e2 C M0) (hh : hre C (12 + s)) :
    ∃ (C' : St) (ls' : List Nat), MEq C C' ∧ ls'.Sublist ls ∧ (∀ t, hre C' t ↔ hre C t) ∧ (∃ M1, SimB k n ls' e e2 C' M1) ∧ (∀ po : St → Prop, po C' → wp_X7_serveAll (some (12 + s)) C po) ∧
      ∀ M, SimB k n ls e e2 C M → ∃ M', SimB k n ls' e e2 C' M' ∧ CEq M M' ∧ K34 ls M M' ∧ ∀ po : St → Prop, po M' → wp_X8_serve (s : Int) M po := by
  obtain ⟨C', ls', g1, g2, g3, g4, g5, g6⟩ := serve_all (k := k) (n := n) (e := e) (e2 := e2) hs 16 0 ls C M0 h hh h.2.1.2.2.1 (by omega)
  refine ⟨C', ls', g1, g2, g3, g4, fun po hpo => ⟨18, g5 po hpo⟩, fun M hM => ?_⟩
  obtain ⟨M', a1, a2, a3, a4⟩ := g6 M hM
  refine ⟨M', a1, a2, a3, fun po hpo => ?_⟩
  obtain ⟨f, hf⟩ := a4 po hpo
  exact waiter_mono (fun b σ hq => ⟨f, hq⟩) hf
