/-! LAYER 2: remove -/
def L41 (o s : Nat) : Nat → Nat → Nat → Prop := fun f a b => f = 110 ∧ a = 41 ∧ o = 1 ∧ 8 * s ≤ b % 96 ∧ b % 96 < 8 * s + 8
theorem rem191 {N : St} {p o s t i : Nat} (ho : o = 0 ∨ o = 1) (hs : s < 12) (ht : t = 12 * o + s) (hi16 : i < 16) : ∃ σ', XI (L41 o s) N σ' ∧ ∀ (po : Int → St → Prop) (X105 : Int → Int → Int → Int → St → Prop), X105 (p : Int) (o : Int) (t : Int) ((i + 1 : Nat) : Int) σ' → ∃ n9, wp_X8_remove_191 po X105 n9 (p : Int) (o : Int) (t : Int) (i : Int) 0 N := by
  have loop : ∀ (m c : Nat) (σ : St), c + m = 8 → XI (L41 o s) N σ → ∃ σ', XI (L41 o s) N σ' ∧ ∀ (po : Int → St → Prop) (X105 : Int → Int → Int → Int → St → Prop), X105 (p : Int) (o : Int) (t : Int) ((i + 1 : Nat) : Int) σ' → wp_X8_remove_191 po X105 (m + 1) (p : Int) (o : Int) (t : Int) (i : Int) (c : Int) σ := by
    intro m
    induction m with
    | zero =>
      intro c σ hc hx
      have e : c = 8 := by omega
      subst e
      refine ⟨σ, hx, fun po X hX => ?_⟩
      unfold wp_X8_remove_191
      exact ⟨fun _ => hX, fun z => absurd z (by decide)⟩
    | succ m ih =>
      intro c σ hc hx
      have nc : nm (c : Int) = c := nm_nat (n := 9) (by omega) (by omega)
      have no : nm (o : Int) = o := nm_nat (n := 2) (by omega) (by omega)
      rcases ho with h0 | h1
      · refine ⟨σ, hx, fun po X hX => ?_⟩
        rw [wp_X8_remove_191]
        rw [nc, no, show nm 8 = 8 by decide, show nm 1 = 1 by decide]
        exact ⟨fun z => absurd z (by omega), fun _ => ⟨fun _ => hX, fun z => absurd z (by omega)⟩⟩
      · have ek : nm (96 * (i : Int) + 8 * ((t : Int) - 12) + c) = ((96 * i + (8 * s + c) : Nat) : Int) := by rw [nm_id (by omega)]; omega
        obtain ⟨σ', g1, g2⟩ := ih (c + 1) (uI σ 110 41 (96 * i + (8 * s + c)) 0) (by omega) (hx.uI _ (by unfold L41; omega))
        refine ⟨σ', g1, fun po X hX => ?_⟩
        rw [wp_X8_remove_191]
        rw [nc, no, ek, Int.toNat_natCast, show nm 8 = 8 by decide, show nm 1 = 1 by decide, show ((c : Int) + 1) = ((c + 1 : Nat) : Int) by omega]
        refine ⟨fun z => absurd z (by omega), fun _ => ⟨fun z => absurd (by omega) z, fun _ => ⟨by omega, ?_⟩⟩⟩
        rintro _ rfl
        exact g2 po X hX
  obtain ⟨σ', g1, g2⟩ := loop 8 0 N (by omega) XI.rf
  exact ⟨σ', g1, fun po X hX => ⟨9, g2 po X hX⟩⟩
def Tm (M : St) (o s q : Nat) : Prop := gI M 110 7 q ≠ 0 ∧ gI M 110 9 q = s ∧ (gI M 110 7 q = 3 ↔ o = 1)
def LR (o s : Nat) : Nat → Nat → Nat → Prop := fun f a b => f = 110 ∧ (a = 4 ∨ a = 7 ∨ (a = 41 ∧ o = 1 ∧ 8 * s ≤ b % 96 ∧ b % 96 < 8 * s + 8))
theorem rem105 {M : St} {n p o s t : Nat} (hn : gI M 100 0 0 = n) (hn16 : n ≤ 16) (hp : p < 16) (ho : o = 0 ∨ o = 1) (hs : s < 12) (ht : t = 12 * o + s) : ∀ (m i : Nat) (σ : St), i + m = n → XI (LR o s) M σ → (∀ q, q < i → Tm M o s q → gI σ 110 4 q = -14 ∧ gI σ 110 7 q = 0) → (∀ q, i ≤ q ∨ ¬ Tm M o s q → gI σ 110 4 q = gI M 110 4 q ∧ gI σ 110 7 q = gI M 110 7 q) →
    ∃ M3, XI (LR o s) M M3 ∧ (∀ q, q < n → Tm M o s q → gI M3 110 4 q = -14 ∧ gI M3 110 7 q = 0) ∧ (∀ q, n ≤ q ∨ ¬ Tm M o s q → gI M3 110 4 q = gI M 110 4 q ∧ gI M3 110 7 q = gI M 110 7 q) ∧
      ∀ po : Int → St → Prop, (o = 1 → po 0 (uI M3 110 4 p 0)) → (o = 0 → wp_X8_lookAtSenders (uI (uI (uI M3 110 4 p 0) 110 32 t 0) 110 34 t 0) (fun s111 => po 0 s111)) → wp_X8_remove_105 po (m + 1) (p : Int) (o : Int) (t : Int) (i : Int) σ := by
  have np : nm (p : Int) = p := nm_nat (n := 16) hp (by omega)
  have no : nm (o : Int) = o := nm_nat (n := 2) (by omega) (by omega)
  have ntt : nm (t : Int) = t := nm_nat (n := 24) (by omega) (by omega)
  have nn : nm (n : Int) = n := nm_nat (n := 17) (by omega) (by omega)
  intro m
  induction m with
  | zero =>
    intro i σ hi hx h1 h2
    have e : i = n := by omega
    subst e
    refine ⟨σ, hx, h1, h2, fun po k1 k0 => ?_⟩
    unfold wp_X8_remove_105
    rw [hx.2.1 100 0 0 (by unfold LR; omega), hn, np, Int.toNat_natCast, no, ntt, Int.toNat_natCast]
    refine ⟨fun _ => ⟨by omega, ?_⟩, fun z => absurd z (by omega)⟩
    rintro _ rfl
    refine ⟨fun z => k1 (by omega), fun z => ⟨by omega, ?_⟩⟩
    rintro _ rfl
    refine ⟨by omega, ?_⟩
    rintro _ rfl
    exact k0 (by omega)
  | succ m ih =>
    intro i σ hi hx h1 h2
    have ni : nm (i : Int) = i := nm_nat (n := 17) (by omega) (by omega)
    have i16 : (0 : Int) ≤ i ∧ (i : Int) < 16 := by omega
    obtain ⟨h24, h27⟩ := h2 i (Or.inl (Nat.le_refl _))
    have h29 : gI σ 110 9 i = gI M 110 9 i := hx.2.1 110 9 i (by unfold LR; omega)
    have ez : nm (zrem (t : Int) 12) = (s : Int) := by
      rw [zrem12 (by omega) ntt, nm_id (by omega)]; omega
    have n3 : nm 3 = 3 := by decide
    have n1 : nm 1 = 1 := by decide
    have l1 : ∀ σ', XI (L41 o s) σ σ' → XI (LR o s) M σ' := fun σ' z => hx.tr (z.mono (by unfold L41 LR; omega))
    by_cases hT : Tm M o s i
    · obtain ⟨σ', x1, g1⟩ := rem191 (N := goM σ i (-14)) (p := p) (i := i) ho hs ht (by omega)
      have xg : XI (LR o s) M (goM σ i (-14)) := (hx.uI (f := 110) (a := 7) (b := i) 0 (by unfold LR; omega)).uI (f := 110) (a := 4) (b := i) (-14) (by unfold LR; omega)
      have s47 : ∀ a q, a = 4 ∨ a = 7 → gI σ' 110 a q = gI (goM σ i (-14)) 110 a q := fun a q ha => x1.2.1 110 a q (by unfold L41; omega)
      obtain ⟨M3, k1, k2, k3, k4⟩ := ih (i + 1) σ' (by omega) (xg.tr (x1.mono (by unfold L41 LR; omega))) (fun q hq hTq => by
        rw [s47 4 q (Or.inl rfl), s47 7 q (Or.inr rfl)]
        by_cases z : q = i
        · subst z
          rw [gI_goM, if_pos ⟨rfl, rfl, rfl⟩, gI_goM, if_neg (by omega), if_pos ⟨rfl, rfl, rfl⟩]
          exact ⟨by decide, rfl⟩
        · rw [gI_goM, if_neg (by omega), if_neg (by omega), gI_goM, if_neg (by omega), if_neg (by omega)]
          exact h1 q (by omega) hTq) (fun q hq => by
        have hqi : q ≠ i := by
          intro z
          rcases hq with w | w
          · omega
          · rw [z] at w; exact w hT
        rw [s47 4 q (Or.inl rfl), s47 7 q (Or.inr rfl), gI_goM, if_neg (by omega), if_neg (by omega), gI_goM, if_neg (by omega), if_neg (by omega)]
        refine h2 q ?_
        rcases hq with w | w
        · exact Or.inl (by omega)
        · exact Or.inr w)
      refine ⟨M3, k1, k2, k3, fun po q1 q0 => ?_⟩
      obtain ⟨t1, t2, t3⟩ := hT
      obtain ⟨f9, hf9⟩ := g1 po (fun x1 x2 x4 x5 s9 => wp_X8_remove_105 po (m + 1) x1 x2 x4 x5 s9) (k4 po q1 q0)
      have last : ∀ y : Int, wp_X8_remove_165 po (fun x1 x2 x4 x5 s9 => wp_X8_remove_105 po (m + 1) x1 x2 x4 x5 s9) (p : Int) (o : Int) (t : Int) (i : Int) y y σ := by
        intro y
        unfold wp_X8_remove_165
        exact ⟨fun z => absurd rfl z, fun _ => run_goesOn (by omega) ⟨f9, hf9⟩⟩
      rw [wp_X8_remove_105]
      rw [hx.2.1 100 0 0 (by unfold LR; omega), hn, nn, ni, Int.toNat_natCast, nm_gI, nm_gI, h27, h29, ez, n3, n1, no]
      refine ⟨fun z => absurd z (by omega), fun _ => ⟨i16, fun z => absurd z t1, fun _ => ⟨i16, fun z => absurd t2 z, fun _ => ⟨i16, fun z => ⟨fun _ => last 0, fun w => absurd (t3.mpr (by omega)) z⟩, fun z => ⟨fun w => absurd (t3.mp z) (by omega), fun _ => last 1⟩⟩⟩⟩⟩
    · obtain ⟨σ', x1, g1⟩ := rem191 (N := σ) (p := p) (i := i) ho hs ht (by omega)
      have s47 : ∀ a q, a = 4 ∨ a = 7 → gI σ' 110 a q = gI σ 110 a q := fun a q ha => x1.2.1 110 a q (by unfold L41; omega)
      obtain ⟨M3, k1, k2, k3, k4⟩ := ih (i + 1) σ' (by omega) (l1 σ' x1) (fun q hq hTq => by
        rw [s47 4 q (Or.inl rfl), s47 7 q (Or.inr rfl)]
        have : q ≠ i := fun z => hT (z ▸ hTq)
        exact h1 q (by omega) hTq) (fun q hq => by
        rw [s47 4 q (Or.inl rfl), s47 7 q (Or.inr rfl)]
        refine h2 q ?_
        rcases hq with w | w
        · exact Or.inl (by omega)
        · exact Or.inr w)
      refine ⟨M3, k1, k2, k3, fun po q1 q0 => ?_⟩
      have hgo := g1 po (fun x1 x2 x4 x5 s9 => wp_X8_remove_105 po (m + 1) x1 x2 x4 x5 s9) (k4 po q1 q0)
      have last : ∀ y0 y1 : Int, nm y1 ≠ nm y0 → wp_X8_remove_165 po (fun x1 x2 x4 x5 s9 => wp_X8_remove_105 po (m + 1) x1 x2 x4 x5 s9) (p : Int) (o : Int) (t : Int) (i : Int) y0 y1 σ := by
        intro y0 y1 hy
        unfold wp_X8_remove_165
        exact ⟨fun _ => hgo, fun z => absurd z hy⟩
      rw [wp_X8_remove_105]
      rw [hx.2.1 100 0 0 (by unfold LR; omega), hn, nn, ni, Int.toNat_natCast, nm_gI, nm_gI, h27, h29, ez, n3, n1, no]
      refine ⟨fun z => absurd z (by omega), fun _ => ⟨i16, fun _ => hgo, fun w1 => ⟨i16, fun _ => hgo, fun w2 => ⟨i16, fun z => ⟨fun w => absurd ⟨w1, w2, ⟨fun y => absurd y z, fun y => by omega⟩⟩ hT, fun w => last 1 0 (by decide)⟩, fun z => ⟨fun w => last 0 1 (by decide), fun w => absurd ⟨w1, w2, ⟨fun _ => by omega, fun _ => z⟩⟩ hT⟩⟩⟩⟩⟩
theorem op_remove {k n : Nat} {ls : List Nat} {C M0 : St} {x y d : Int} (hx : nm x = x) (hy : nm y = y) (hd : nm d = d) (h : SimB k n ls none none C M0) : LockW k (k + 1) n ls (wp_X7_remove x y d C) C (fun M => wp_X8_remove x y d M) := by
  delta wp_X7_remove wp_X8_remove
  refine caller_lockW (ic := fun a s po => wp_X7_removeThing (some a) y d s po) (by omega) hx h (fun p hp ex hf hw hnl => ?_)
  subst ex
  have hk1 : k ≤ k + 1 := by omega
  have hr := h.1
  have n1 : nm 1 = 1 := by decide
  have l0 : nmL 0 = 0 := by decide
  have l1 : nmL 1 = 1 := by decide
  have hp16 : p < 16 := by have := hr.1; omega
  have ep : ((p : Int)).toNat = p := by omega
  have np : nm (p : Int) = p := nm_nat (n := 16) hp16 (by omega)
  have i16 : (0 : Int) ≤ p ∧ (p : Int) < 16 := by omega
  by_cases hok : 0 ≤ y ∧ y ≤ 1
  · obtain ⟨o, rfl⟩ : ∃ o : Nat, y = o := ⟨y.toNat, by omega⟩
    have ho : o = 0 ∨ o = 1 := by omega
    have eo : (12 * (o : Int)) = ((12 * o : Nat) : Int) := by omega
    have hb : 12 * o = 0 ∨ 12 * o = 12 := by omega
    have kbo : kb (if o = 0 then 2 else 3) (12 * o) := by
      rcases ho with rfl | rfl
      · exact Or.inl ⟨rfl, rfl⟩
      · exact Or.inr ⟨rfl, rfl⟩
    -- class, to the thing
    have cthing : ∀ po : Option Nat → St → Prop, wp_X7_thingById (if o = 0 then 2 else 3) (some 0) d C (fun o101 s101 => po o101 s101) → wp_X7_thingOf (o : Int) d C po := by
      intro po hpo
      unfold wp_X7_thingOf
      rw [hy]
      rcases ho with rfl | rfl
      · exact ⟨fun z => absurd rfl z, fun _ => hpo⟩
      · exact ⟨fun _ => hpo, fun z => absurd z (by decide)⟩
    rcases id_or C (12 * o) d with ⟨t, ht⟩ | hn
    · obtain ⟨ht24, hid, -, -⟩ := h.id_facts hb ht
      obtain ⟨s, hs, rfl⟩ : ∃ s, s < 12 ∧ t = 12 * o + s := ⟨t - 12 * o, by have := ht.1; have := ht.2.1; omega, by have := ht.1; omega⟩
      have hh : hre C (12 * o + s) := ht.2.2.1
      have ntt : nm ((12 * o + s : Nat) : Int) = ((12 * o + s : Nat) : Int) := nm_nat (n := 24) ht24 (by omega)
      have i24 : (0 : Int) ≤ ((12 * o + s : Nat) : Int) ∧ ((12 * o + s : Nat) : Int) < 24 := by omega
      have facts : ∀ M, SimB k n ls none none C M → gI C 11 p 0 = gI M 110 1 p ∧ gI C 35 (12 * o + s) 0 = gI M 110 27 (12 * o + s) ∧ gI C 37 (12 * o + s) 0 = gI M 110 29 (12 * o + s) := by
        intro M hM
        obtain ⟨-, -, -, -, c5, c6, c7, -⟩ := (hM.thing _ ht24).2.2.2.2.2.2 hh
        exact ⟨(hM.2.2.2.2.2.1 p hp).2.1, c5, c7⟩
      have cls : ∀ po : Int → St → Prop, (rulC C (12 * o + s) p → wp_X7_sendAway (some (12 * o + s)) (uI C 32 (12 * o + s) 0 0) (fun s105 => (nm (o : Int) ≠ 0 → po 0 s105) ∧
 (nm (o : Int) = 0 → wp_X7_admitSenders  s105 (fun s106 => po 0 s106)))) → (¬ rulC C (12 * o + s) p → po (-6) C) → wp_X7_removeThing (some p) (o : Int) d C po := by
        intro po k1 k0
        unfold wp_X7_removeThing
        rw [sp_isWithin hy n1]
        refine ⟨fun _ => cthing _ (sp_thingById_some kbo hd ht hid ⟨fun z => (by cases z), ?_⟩), fun z => absurd hok ((ez_bI _).mp z)⟩
        rintro _ ⟨rfl⟩
        refine sp_isRuledBy (fun z => ⟨fun _ => ?_, fun w => absurd w (by decide)⟩) (fun z => ⟨fun w => absurd n0 w, fun _ => k0 z⟩)
        rintro _ rfl
        exact k1 z
      have mod : ∀ M, SimB k n ls none none C M → ∀ po : Int → St → Prop, (rulC C (12 * o + s) p → ∃ n9, wp_X8_remove_105 po n9 (p : Int) (o : Int) ((12 * o + s : Nat) : Int) 0 (uI (uI M 110 24 (12 * o + s) 0) 110 25 (12 * o + s) (gI M 110 25 (12 * o + s) + 1))) → (¬ rulC C (12 * o + s) p → wp_X8_tells (p : Int) (-6) M (fun r106 s114 => po r106 s114)) → wp_X8_in (nm (o : Int)) 0 1 M (fun r103 s103 => (nm r103 ≠ 0 → wp_X8_slotOf d (12 * (o : Int)) s103 (fun r104 s104 => (nm r104 ≠ nm (-1) → wp_X8_rules (p : Int) r104 s104 (fun r105 s105 => (nm r105 ≠ 0 → (0 ≤ nm r104 ∧ nm r104 < 24) ∧ ∀ s106, s106 = uI s105 110 24 (nm r104).toNat 0 → (0 ≤ nm r104 ∧ nm r104 < 24) ∧ (0 ≤ nm r104 ∧ nm r104 < 24) ∧ ∀ s107, s107 = uI s106 110 25 (nm r104).toNat ((gI s106 110 25 (nm r104).toNat) + 1) → ∃ n9, wp_X8_remove_105 po n9 (p : Int) (o : Int) r104 0 s107) ∧
 (nm r105 = 0 → wp_X8_tells (p : Int) (-6) s105 (fun r106 s114 => po r106 s114)))) ∧
 (nm r104 = nm (-1) → wp_X8_tells (p : Int) (-5) s104 (fun r107 s115 => po r107 s115)))) ∧
 (nm r103 = 0 → wp_X8_tells (p : Int) (-4) s103 (fun r108 s116 => po r108 s116))) := by
        intro M hM po k1 k0
        obtain ⟨-, hid2, g1, g2⟩ := hM.id_facts hb ht
        obtain ⟨f1, f2, f3⟩ := facts M hM
        rw [hy, sp_in (nmL_of hy) l0 l1, eo]
        refine ⟨fun _ => sp_slotOf_some hb hd ht.1 ht.2.1 g1 hid2.1 hid2.2 g2 ⟨fun _ => sp_rules hp16 ht24 f1 f2 f3 (fun z => ⟨fun _ => ?_, fun w => absurd w (by decide)⟩) (fun z => ⟨fun w => absurd n0 w, fun _ => k0 z⟩), fun z => absurd z (by rw [ntt, nm_m1]; omega)⟩, fun z => absurd hok ((ez_bI _).mp z)⟩
        rw [ntt, Int.toNat_natCast]
        refine ⟨i24, ?_⟩
        rintro _ rfl
        rw [gI_uI, if_neg (by omega)]
        refine ⟨i24, i24, ?_⟩
        rintro _ rfl
        exact k1 z
      by_cases hru : rulC C (12 * o + s) p
      · obtain ⟨C1, ls1, g1, g2, g3, g4, g4b, ⟨M1x, hM1x⟩, g6, g7⟩ := sendAway (t := 12 * o + s) h
        have hh1 : hre C1 (12 * o + s) := (hre_ag (fun a b => g4b 2 a b (by decide) (by decide)) (fun a b => g4b 3 a b (by decide) (by decide)) (fun a b => g4 32 a b (by decide) (by decide) (by decide)) _).mpr hh
        have hnl1 : p ∉ ls1 := fun z => hnl (g2.subset z)
        -- the model behind its loop
        have mod2 : ∀ M, SimB k n ls none none C M → ∃ M4, SimB (k + 1) n ls1 (some p) none (uI C1 32 (12 * o + s) 0 0) M4 ∧ CEq M M4 ∧ gI M4 110 4 p = 0 ∧ ∀ po : Int → St → Prop, (o = 1 → po 0 M4) → (o = 0 → wp_X8_lookAtSenders M4 (fun s111 => po 0 s111)) → ∃ n9, wp_X8_remove_105 po n9 (p : Int) (o : Int) ((12 * o + s : Nat) : Int) 0 (uI (uI M 110 24 (12 * o + s) 0) 110 25 (12 * o + s) (gI M 110 25 (12 * o + s) + 1)) := by
          intro M hM
          obtain ⟨Mg, hMg, a2, a3, a4⟩ := g7 M hM
          have hk := (hM.thing _ ht24).2.1
          have hk2 := (hM.thing _ ht24).2.2.1
          have e25 : gI M 110 25 (12 * o + s) + 1 = nm (gI M 110 25 (12 * o + s) + 1) ∨ True := Or.inr trivial
          have c31 : gI C 31 (12 * o + s) 0 = gI M 110 25 (12 * o + s) + 1 := ((hM.thing _ ht24).2.2.2.2.2.2 hh).2.1
          have n25 : nm (gI M 110 25 (12 * o + s) + 1) = gI M 110 25 (12 * o + s) + 1 := by rw [← c31, nm_gI]
          have mf : ∀ a b, a ≠ 24 → a ≠ 25 → gI (uI (uI M 110 24 (12 * o + s) 0) 110 25 (12 * o + s) (gI M 110 25 (12 * o + s) + 1)) 110 a b = gI M 110 a b := fun a b z1 z2 => by rw [gI_uI, if_neg (by omega), gI_uI, if_neg (by omega)]
          have m100 : gI (uI (uI M 110 24 (12 * o + s) 0) 110 25 (12 * o + s) (gI M 110 25 (12 * o + s) + 1)) 100 0 0 = n := by rw [gI_uI, if_neg (by omega), gI_uI, if_neg (by omega)]; exact hM.1.2.2.1
          have tm : ∀ q, Tm (uI (uI M 110 24 (12 * o + s) 0) 110 25 (12 * o + s) (gI M 110 25 (12 * o + s) + 1)) o s q ↔ Tm M o s q := fun q => by
            unfold Tm
            rw [mf 7 q (by decide) (by decide), mf 9 q (by decide) (by decide)]
          obtain ⟨M3, b1, b2, b3, b4⟩ := rem105 (M := uI (uI M 110 24 (12 * o + s) 0) 110 25 (12 * o + s) (gI M 110 25 (12 * o + s) + 1)) (p := p) (t := 12 * o + s) m100 hr.1 hp16 ho hs rfl n 0 _ (by omega) XI.rf (fun q hq => absurd hq (by omega)) (fun q _ => ⟨rfl, rfl⟩)
          simp only [tm, mf 4 _ (by decide) (by decide), mf 7 _ (by decide) (by decide)] at b2 b3
          -- who went on, is who waited on it
          have who : ∀ q, q < n → (Tm M o s q ↔ q ∈ ls ∧ gR C 10 q 0 = some (12 * o + s)) := by
            intro q hq
            have e7 := (hM.2.2.2.2.2.1 q hq).2.2.2.2.2.1
            have ein := hM.2.1.2.2.2.2 q
            have hwt := hM.2.2.2.2.2.2.2.1 q hq
            unfold Tm
            constructor
            · rintro ⟨t1, t2, t3⟩
              refine ⟨ein.mpr ⟨hq, by omega⟩, ?_⟩
              rcases hwt with w | ⟨w, -, s', v2, v3, v4, -⟩ | ⟨w, -, s', v2, v3, v4, -⟩ | ⟨w, s', v2, v3, v4, -⟩
              · omega
              · have : o = 0 := by
                  rcases ho with z | z
                  · exact z
                  · have := t3.mpr z; omega
                rw [v3]; congr 1; omega
              · have : o = 0 := by
                  rcases ho with z | z
                  · exact z
                  · have := t3.mpr z; omega
                rw [v3]; congr 1; omega
              · have := t3.mp (by omega)
                rw [v3]; congr 1; omega
            · rintro ⟨t1, t2⟩
              rcases hwt with w | ⟨w, -, s', v2, v3, v4, -⟩ | ⟨w, -, s', v2, v3, v4, -⟩ | ⟨w, s', v2, v3, v4, -⟩
              · have := (ein.mp t1).2; omega
              · have := Option.some.inj (v3.symm.trans t2)
                exact ⟨by omega, by omega, ⟨fun z => by omega, fun z => by omega⟩⟩
              · have := Option.some.inj (v3.symm.trans t2)
                exact ⟨by omega, by omega, ⟨fun z => by omega, fun z => by omega⟩⟩
              · have := Option.some.inj (v3.symm.trans t2)
                exact ⟨by omega, by omega, ⟨fun z => by omega, fun z => by omega⟩⟩
          have out : ∀ q, n ≤ q → ¬ (q ∈ ls ∧ gR C 10 q 0 = some (12 * o + s)) := fun q hq z => by
            have := ((hM.2.1.2.2.2.2 q).mp z.1).1; omega
          have same47 : ∀ q, gI M3 110 4 q = gI Mg 110 4 q ∧ gI M3 110 7 q = gI Mg 110 7 q := by
            intro q
            rcases Nat.lt_or_ge q n with z | z
            · by_cases w : Tm M o s q
              · have w2 := (who q z).mp w
                rw [(b2 q z w).1, (b2 q z w).2, (a3 q w2).1, (a3 q w2).2]
                exact ⟨rfl, rfl⟩
              · have w2 : ¬ (q ∈ ls ∧ gR C 10 q 0 = some (12 * o + s)) := fun y => w ((who q z).mpr y)
                rw [(b3 q (Or.inr w)).1, (b3 q (Or.inr w)).2, (a4 q w2).1, (a4 q w2).2]
                exact ⟨rfl, rfl⟩
            · rw [(b3 q (Or.inl z)).1, (b3 q (Or.inl z)).2, (a4 q (out q z)).1, (a4 q (out q z)).2]
              exact ⟨rfl, rfl⟩
          -- all the rest of the model
          have rest : ∀ f a b, ¬ (f = 110 ∧ (a = 4 ∨ a = 7)) → ¬ (f = 110 ∧ a = 41 ∧ o = 1 ∧ 8 * s ≤ b % 96 ∧ b % 96 < 8 * s + 8) → gI M3 f a b = gI (uI (uI M 110 24 (12 * o + s) 0) 110 25 (12 * o + s) (gI M 110 25 (12 * o + s) + 1)) f a b := fun f a b z1 z2 => b1.2.1 f a b (by unfold LR; omega)
          have hA := SimB.ahead (p := p) (r := 0) hMg
          have gen : ∀ M4, M4.2.1 = M3.2.1 → (∀ f a b, gL M4 f a b = gL M3 f a b) → (∀ f a b, gR M4 f a b = gR M3 f a b) → (∀ f a b, ¬ (f = 110 ∧ ((a = 4 ∧ b = p) ∨ ((a = 32 ∨ a = 34) ∧ b = 12 * o + s ∧ o = 0))) → gI M4 f a b = gI M3 f a b) → gI M4 110 4 p = 0 → SimB (k + 1) n ls1 (some p) none (uI C1 32 (12 * o + s) 0 0) M4 := by
            intro M4 z0 zL zR zI z4
            refine hA.gone ht24 hh1 g3 ⟨?_, fun f a b hl => ?_, fun f a b => ?_, fun f a b => ?_⟩ ?_ ?_
            · rw [z0, b1.1]; exact a2.1.symm
            · by_cases w4 : f = 110 ∧ a = 4 ∧ b = p
              · obtain ⟨rfl, rfl, rfl⟩ := w4
                rw [z4, gI_uI, if_pos ⟨rfl, rfl, rfl⟩, n0]
              · rw [gI_uI, if_neg w4, zI f a b (by unfold Lg at hl; omega)]
                by_cases w7 : f = 110 ∧ (a = 4 ∨ a = 7)
                · obtain ⟨rfl, w7⟩ := w7
                  rcases w7 with rfl | rfl
                  · exact (same47 b).1
                  · exact (same47 b).2
                · rw [rest f a b w7 (by unfold Lg at hl; omega), a2.2.1 f a b w7, gI_uI, if_neg (by unfold Lg at hl; omega), gI_uI, if_neg (by unfold Lg at hl; omega)]
            · rw [zL, b1.2.2.1]; exact (a2.2.2.1 f a b).symm
            · rw [zR, b1.2.2.2]; exact (a2.2.2.2 f a b).symm
            · rw [zI 110 24 _ (by omega), rest 110 24 _ (by omega) (by omega), gI_uI, if_neg (by omega), gI_uI, if_pos ⟨rfl, rfl, rfl⟩, n0]
            · rw [zI 110 25 _ (by omega), rest 110 25 _ (by omega) (by omega), gI_uI, if_pos ⟨rfl, rfl, rfl⟩, n25, gI_uI, if_neg (by omega), a2.2.1 110 25 _ (by omega)]
          have ce3 : CEq M M3 := ((CEq.rf.uI _ _ _ _ (by decide)).uI _ _ _ _ (by decide)).tr (b1.ceq (by unfold LR; omega))
          rcases ho with rfl | rfl
          · refine ⟨uI (uI (uI M3 110 4 p 0) 110 32 (12 * 0 + s) 0) 110 34 (12 * 0 + s) 0, gen _ rfl (fun _ _ _ => rfl) (fun _ _ _ => rfl) (fun f a b z => ?_) ?_, ((ce3.uI _ _ _ _ (by decide)).uI _ _ _ _ (by decide)).uI _ _ _ _ (by decide), ?_, fun po k1 k0 => ⟨n + 1, b4 po (fun z => absurd z (by decide)) k0⟩⟩
            · rw [gI_uI, if_neg (by omega), gI_uI, if_neg (by omega), gI_uI, if_neg (by omega)]
            · rw [gI_uI, if_neg (by omega), gI_uI, if_neg (by omega), gI_uI, if_pos ⟨rfl, rfl, rfl⟩, n0]
            · rw [gI_uI, if_neg (by omega), gI_uI, if_neg (by omega), gI_uI, if_pos ⟨rfl, rfl, rfl⟩, n0]
          · refine ⟨uI M3 110 4 p 0, gen _ rfl (fun _ _ _ => rfl) (fun _ _ _ => rfl) (fun f a b z => ?_) ?_, ce3.uI _ _ _ _ (by decide), ?_, fun po k1 k0 => ⟨n + 1, b4 po k1 (fun z => absurd z (by decide))⟩⟩
            · rw [gI_uI, if_neg (by omega)]
            · rw [gI_uI, if_pos ⟨rfl, rfl, rfl⟩, n0]
            · rw [gI_uI, if_pos ⟨rfl, rfl, rfl⟩, n0]
        have meG : MEq C (uI C1 32 (12 * o + s) 0 0) := g1.uI _ _ _ _ (by decide)
        intro po hpo
        refine cls po (fun _ => g6 _ ⟨fun z => ?_, fun z => ?_⟩) (fun z => absurd hru z)
        · have ho1 : o = 1 := by rw [hy] at z; omega
          refine hpo 0 _ meG (fun M hM => ?_)
          obtain ⟨M4, q1, q2, q3, q4⟩ := mod2 M hM
          exact ⟨M4, fun po2 hpo2 => mod M hM po2 (fun _ => q4 po2 (fun _ => hpo2) (fun w => by omega)) (fun w => absurd hru w), q2, n, ls1, q1.told (by rw [q3, n0])⟩
        · have ho0 : o = 0 := by rw [hy] at z; omega
          obtain ⟨M40, v1, -, -, -⟩ := mod2 M0 h
          refine letIn v1 (fun C2 ls' hsub hme2 _ rel => hpo 0 C2 (meG.tr hme2) (fun M hM => ?_))
          obtain ⟨M4, q1, q2, q3, q4⟩ := mod2 M hM
          obtain ⟨M5, w1, w2, w3, w4⟩ := rel M4 q1
          exact ⟨M5, fun po2 hpo2 => mod M hM po2 (fun _ => q4 po2 (fun w => by omega) (fun _ => w4 _ hpo2)) (fun w => absurd hru w), q2.tr w2, n, ls', w1.told (by rw [w3 p hnl1, q3, n0])⟩
      · exact MainW.refuse hk1 (-6) (fun po hpo => cls po (fun z => absurd z hru) (fun _ => hpo)) (fun M hM po hpo => mod M hM po (fun z => absurd z hru) (fun _ => sp_tells hp16 hpo))
    · refine MainW.refuse hk1 (-5) (fun po hpo => ?_) (fun M hM po hpo => ?_)
      · unfold wp_X7_removeThing
        rw [sp_isWithin hy n1]
        exact ⟨fun _ => cthing _ (sp_thingById_none kbo hd h.rootT hn ⟨fun _ => hpo, fun a z => (by cases z)⟩), fun z => absurd hok ((ez_bI _).mp z)⟩
      · rw [hy, sp_in (nmL_of hy) l0 l1, eo]
        exact ⟨fun _ => sp_slotOf_none hb hd (hM.id_none hb hn) ⟨fun z => absurd rfl z, fun _ => sp_tells hp16 hpo⟩, fun z => absurd hok ((ez_bI _).mp z)⟩
  · refine MainW.refuse hk1 (-4) (fun po hpo => ?_) (fun M hM po hpo => ?_)
    · unfold wp_X7_removeThing
      rw [sp_isWithin hy n1]
      exact ⟨fun z => absurd ((nz_bI _).mp z) hok, fun _ => hpo⟩
    · rw [hy, sp_in (nmL_of hy) l0 l1]
      exact ⟨fun z => absurd ((nz_bI _).mp z) hok, fun _ => sp_tells hp16 hpo⟩
