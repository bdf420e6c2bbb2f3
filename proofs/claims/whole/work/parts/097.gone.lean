/-! LAYER 2: a thing is removed -/
theorem goOn_u32 {C : St} {ls : List Nat} {q t : Nat} {r : Int} : goOnS (uI C 32 t 0 0) ls q r = uI (goOnS C ls q r) 32 t 0 0 := by
  refine St_ext rfl rfl (fun f a b => ?_) (fun f a b => rfl) (fun f a b => rfl)
  simp only [gI_goOnS, gI_uI]
  by_cases z : f = 32 ∧ a = t ∧ b = 0
  · rw [if_neg (by omega), if_neg (by omega), if_neg (by omega), if_pos z, if_pos z]
  · rw [if_neg z, if_neg z]
theorem line_u32 {n : Nat} {ls : List Nat} {C : St} {t : Nat} (h : lineOK n ls C) : lineOK n ls (uI C 32 t 0 0) :=
  line_ag (M := C) (M' := C) (AgC.rf.uI _ _ _ (by decide)) AgM.rf h
/-- those of S went on with GONE -/
def GA (S : Nat → Prop) (M Mg : St) : Prop := XI (fun f a _ => f = 110 ∧ (a = 4 ∨ a = 7)) M Mg ∧ (∀ q, S q → gI Mg 110 4 q = -14 ∧ gI Mg 110 7 q = 0) ∧ ∀ q, ¬ S q → gI Mg 110 4 q = gI M 110 4 q ∧ gI Mg 110 7 q = gI M 110 7 q
theorem away_loop {k n : Nat} {e e2 : Option Nat} {t : Nat} : ∀ (m : Nat) (l1 l2 : List Nat) (C M0 : St), l1.length = m → SimB k n (l1 ++ l2) e e2 C M0 → (∀ q, q ∈ l2 → gR C 10 q 0 ≠ some t) →
    ∃ (C' : St) (ls' : List Nat), MEq C C' ∧ ls'.Sublist (l1 ++ l2) ∧ (∀ q, q ∈ ls' → gR C' 10 q 0 ≠ some t) ∧ (∀ f a b, f ≠ 2 → f ≠ 14 → f ≠ 15 → gI C' f a b = gI C f a b) ∧ (∀ f a b, f ≠ 4 → f ≠ 10 → gR C' f a b = gR C f a b) ∧ (∃ M1, SimB k n ls' e e2 C' M1) ∧
      (∀ po : St → Prop, po (uI C' 32 t 0 0) → wp_X7_sendAway_3 po (m + 1) (some t) ((m : Int) - 1) (uI C 32 t 0 0)) ∧
      ∀ M, SimB k n (l1 ++ l2) e e2 C M → ∃ Mg, SimB k n ls' e e2 C' Mg ∧ GA (fun q => q ∈ l1 ∧ gR C 10 q 0 = some t) M Mg := by
  intro m
  induction m with
  | zero =>
    intro l1 l2 C M0 hm h h2
    have e1 : l1 = [] := List.length_eq_zero_iff.mp hm
    subst e1
    refine ⟨C, l2, MEq.rf, List.Sublist.refl _, h2, fun _ _ _ _ _ _ => rfl, fun _ _ _ _ _ => rfl, ⟨M0, h⟩, fun po hpo => ?_, fun M hM => ⟨M, hM, XI.rf, fun q hq => absurd hq.1 (by simp), fun q _ => ⟨rfl, rfl⟩⟩⟩
    unfold wp_X7_sendAway_3
    exact ⟨fun _ => hpo, fun z => absurd z (by decide)⟩
  | succ m ih =>
    intro l1 l2 C M0 hm h h2
    obtain ⟨l', q, rfl⟩ : ∃ l' q, l1 = l' ++ [q] := by
      rcases List.eq_nil_or_concat l1 with z | ⟨l', q, z⟩
      · rw [z] at hm; simp at hm
      · exact ⟨l', q, by rw [z]; simp⟩
    have hl' : l'.length = m := by simp at hm; exact hm
    have eL : (l' ++ [q]) ++ l2 = l' ++ q :: l2 := by simp
    rw [eL] at h
    have hlen := h.2.1.2.2.1
    have hm16 : m < 16 := by simp at hlen; omega
    have hnd := h.2.1.2.2.2.1
    have hat : (l' ++ q :: l2)[m]? = some q := by rw [← hl']; simp
    have hqn : q < n := ((h.2.1.2.2.2.2 q).mp (by simp)).1
    have ex : (((m + 1 : Nat) : Int) - 1) = (m : Int) := by omega
    have nmm : nm (m : Int) = m := nm_nat (n := 16) hm16 (by omega)
    have top : ∀ po : St → Prop, (gR C 10 q 0 ≠ some t → wp_X7_sendAway_3 po (m + 1) (some t) ((m : Int) - 1) (uI C 32 t 0 0)) → (gR C 10 q 0 = some t → wp_X7_goOn (some q) (-14) (uI C 32 t 0 0) (fun s102 => wp_X7_sendAway_3 po (m + 1) (some t) ((m : Int) - 1) s102)) → wp_X7_sendAway_3 po (m + 1 + 1) (some t) (((m + 1 : Nat) : Int) - 1) (uI C 32 t 0 0) := by
      intro po k0 k1
      rw [wp_X7_sendAway_3]
      rw [ex, nmm, show ((m : Int) + (-1)) = (m : Int) - 1 by omega]
      refine ⟨fun z => absurd z (by omega), fun _ => sp_inLine_some (line_u32 h.2.1) hat ⟨fun z => (by cases z), ?_⟩⟩
      rintro _ ⟨rfl⟩ _ rfl
      exact ⟨k0, k1⟩
    by_cases hw : gR C 10 q 0 = some t
    · have wo : without (l' ++ q :: l2) q = l' ++ l2 := without_mid hnd
      have hgo : ∀ M, SimB k n (l' ++ q :: l2) e e2 C M → SimB k n (l' ++ l2) e e2 (goOnS C (l' ++ q :: l2) q (-14)) (goM M q (-14)) := fun M hM => by
        rw [← wo]; exact hM.goOn (by decide)
      have hqd : ∀ x, x ∈ l' ++ l2 → x ≠ q := fun x hx z => by
        rw [← wo] at hx
        exact (mem_without.mp hx).2 z
      have gr : ∀ x, x ≠ q → gR (goOnS C (l' ++ q :: l2) q (-14)) 10 x 0 = gR C 10 x 0 := fun x hx => by
        rw [gR_goOnS, if_neg (by omega), if_neg (by omega)]
      obtain ⟨C', ls', g1, g2, g3, g4, g4b, g5, g6, g7⟩ := ih l' l2 (goOnS C (l' ++ q :: l2) q (-14)) (goM M0 q (-14)) hl' (hgo M0 h) (fun x hx => by
        rw [gr x (hqd x (List.mem_append_right _ hx))]; exact h2 x hx)
      have me : MEq C (goOnS C (l' ++ q :: l2) q (-14)) := ⟨fun f a b hf => by rw [gI_goOnS, if_neg (by omega), if_neg (by omega), if_neg (by omega)], fun f a b hf => rfl⟩
      refine ⟨C', ls', me.tr g1, g2.trans (by rw [eL]; exact List.Sublist.append_left (List.sublist_cons_self q l2) l'), g3, fun f a b z1 z2 z3 => by
        rw [g4 f a b z1 z2 z3, gI_goOnS, if_neg (by omega), if_neg (by omega), if_neg (by omega)], fun f a b z1 z2 => by
        rw [g4b f a b z1 z2, gR_goOnS, if_neg (by omega), if_neg (by omega)], g5, fun po hpo => top po (fun z => absurd hw z) (fun _ => ?_), fun M hM => ?_⟩
      · have hl32 := line_u32 (t := t) h.2.1
        refine run_goOn hl32.1 hl32.2.1 hl32.2.2.1 ?_
        rw [goOn_u32]
        exact g6 po hpo
      · rw [eL] at hM
        obtain ⟨Mg, a1, a2, a3, a4⟩ := g7 _ (hgo M hM)
        refine ⟨Mg, a1, ?_, fun x hx => ?_, fun x hx => ?_⟩
        · refine XI.tr ?_ a2
          exact (XI.rf.uI (f := 110) (a := 7) (b := q) 0 ⟨rfl, Or.inr rfl⟩).uI (f := 110) (a := 4) (b := q) (-14) ⟨rfl, Or.inl rfl⟩
        · by_cases z : x = q
          · subst z
            obtain ⟨b1, b2⟩ := a4 x (fun y => hqd x (List.mem_append_left _ y.1) rfl)
            rw [b1, b2, gI_goM, if_pos ⟨rfl, rfl, rfl⟩, gI_goM, if_neg (by omega), if_pos ⟨rfl, rfl, rfl⟩]
            exact ⟨by decide, rfl⟩
          · refine a3 x ⟨?_, by rw [gr x z]; exact hx.2⟩
            rcases List.mem_append.mp hx.1 with y | y
            · exact y
            · exact absurd (List.mem_singleton.mp y) z
        · by_cases z : x = q
          · subst z
            exact absurd ⟨by simp, hw⟩ hx
          · obtain ⟨b1, b2⟩ := a4 x (fun y => hx ⟨List.mem_append_left _ y.1, by rw [← gr x z]; exact y.2⟩)
            rw [b1, b2, gI_goM, if_neg (by omega), if_neg (by omega), gI_goM, if_neg (by omega), if_neg (by omega)]
            exact ⟨rfl, rfl⟩
    · obtain ⟨C', ls', g1, g2, g3, g4, g4b, g5, g6, g7⟩ := ih l' (q :: l2) C M0 hl' h (fun x hx => by
        rcases List.mem_cons.mp hx with z | z
        · rw [z]; exact hw
        · exact h2 x z)
      refine ⟨C', ls', g1, by rw [eL]; exact g2, g3, g4, g4b, g5, fun po hpo => top po (fun _ => g6 po hpo) (fun z => absurd z hw), fun M hM => ?_⟩
      rw [eL] at hM
      obtain ⟨Mg, a1, a2, a3, a4⟩ := g7 M hM
      refine ⟨Mg, a1, a2, fun x hx => ?_, fun x hx => a4 x (fun y => hx ⟨List.mem_append_left _ y.1, y.2⟩)⟩
      refine a3 x ⟨?_, hx.2⟩
      rcases List.mem_append.mp hx.1 with y | y
      · exact y
      · rw [List.mem_singleton.mp y] at hx; exact absurd hx.2 hw
theorem away_idle {n : Nat} {ls : List Nat} {C : St} {po : St → Prop} {o1 : Option Nat} (h : lineOK n ls C) : ∀ d f : Nat, ls.length + d ≤ 16 → wp_X7_sendAway_3 po f o1 ((ls.length : Int) - 1) C → wp_X7_sendAway_3 po (f + d) o1 ((ls.length : Int) + d - 1) C := by
  intro d
  induction d with
  | zero =>
    intro f _ hpo
    rw [show ((ls.length : Int) + ((0 : Nat) : Int) - 1) = (ls.length : Int) - 1 by omega]
    exact hpo
  | succ d ih =>
    intro f hd hpo
    have e : ((ls.length : Int) + ((d + 1 : Nat) : Int) - 1) = ((ls.length + d : Nat) : Int) := by omega
    rw [e]
    show wp_X7_sendAway_3 po (f + d + 1) o1 _ C
    rw [wp_X7_sendAway_3]
    rw [nm_nat (n := 17) (p := ls.length + d) (by omega) (by omega)]
    refine ⟨fun z => absurd z (by omega), fun _ => sp_inLine_none h (by omega) (by omega) ⟨fun _ => ?_, fun a z => (by cases z)⟩⟩
    rw [show (((ls.length + d : Nat) : Int) + (-1)) = (ls.length : Int) + d - 1 by omega]
    exact ih f (by omega) hpo
theorem sendAway {k n : Nat} {e e2 : Option Nat} {t : Nat} {ls : List Nat} {C M0 : St} (h : SimB k n ls e e2 C M0) :
    ∃ (C' : St) (ls' : List Nat), MEq C C' ∧ ls'.Sublist ls ∧ (∀ q, q ∈ ls' → gR C' 10 q 0 ≠ some t) ∧ (∀ f a b, f ≠ 2 → f ≠ 14 → f ≠ 15 → gI C' f a b = gI C f a b) ∧ (∀ f a b, f ≠ 4 → f ≠ 10 → gR C' f a b = gR C f a b) ∧ (∃ M1, SimB k n ls' e e2 C' M1) ∧
      (∀ po : St → Prop, po (uI C' 32 t 0 0) → wp_X7_sendAway (some t) (uI C 32 t 0 0) po) ∧
      ∀ M, SimB k n ls e e2 C M → ∃ Mg, SimB k n ls' e e2 C' Mg ∧ GA (fun q => q ∈ ls ∧ gR C 10 q 0 = some t) M Mg := by
  have h0 : SimB k n (ls ++ []) e e2 C M0 := by rw [List.append_nil]; exact h
  obtain ⟨C', ls', g1, g2, g3, g4, g4b, g5, g6, g7⟩ := away_loop (t := t) ls.length ls [] C M0 rfl h0 (fun q hq => absurd hq (by simp))
  rw [List.append_nil] at g2
  have hl := h.2.1.2.2.1
  refine ⟨C', ls', g1, g2, g3, g4, g4b, g5, fun po hpo => ⟨ls.length + 1 + (16 - ls.length), ?_⟩, fun M hM => g7 M (by rw [List.append_nil]; exact hM)⟩
  have := away_idle (o1 := some t) (line_u32 (t := t) h.2.1) (16 - ls.length) (ls.length + 1) (by omega) (g6 po hpo)
  rw [show ((ls.length : Int) + ((16 - ls.length : Nat) : Int) - 1) = 15 by omega] at this
  exact this
def Lg (t : Nat) : Nat → Nat → Nat → Prop := fun f a b => f = 110 ∧ (((a = 24 ∨ a = 25) ∧ b = t) ∨ ((a = 32 ∨ a = 34) ∧ b = t ∧ t < 12) ∨ (a = 41 ∧ 12 ≤ t ∧ 8 * (t - 12) ≤ b % 96 ∧ b % 96 < 8 * (t - 12) + 8))
theorem SimB.gone {k n : Nat} {ls : List Nat} {e e2 : Option Nat} {C M M' : St} {t : Nat} (h : SimB k n ls e e2 C M) (ht : t < 24) (hh : hre C t) (hno : ∀ q, q ∈ ls → gR C 10 q 0 ≠ some t) (y : XI (Lg t) M M') (h24 : gI M' 110 24 t = 0) (h25 : gI M' 110 25 t = gI M 110 25 t + 1) : SimB (k + 1) n ls e e2 (uI C 32 t 0 0) M' := by
  have h' := h.mono (show k ≤ k + 1 by omega)
  have e32 : ∀ a, gI (uI C 32 t 0 0) 32 a 0 = if a = t then 0 else gI C 32 a 0 := fun a => by
    rw [gI_uI]
    by_cases z : a = t
    · rw [if_pos ⟨rfl, z, rfl⟩, if_pos z, n0]
    · rw [if_neg (by omega), if_neg z]
  have er : ∀ a, rt (uI C 32 t 0 0) a = rt C a := fun a => rfl
  have hre' : ∀ a, hre (uI C 32 t 0 0) a ↔ hre C a ∧ a ≠ t := by
    intro a
    unfold hre
    rw [er, e32]
    by_cases z : a = t
    · rw [if_pos z]; exact ⟨fun q => absurd rfl q.2, fun q => absurd z q.2⟩
    · rw [if_neg z]; exact ⟨fun q => ⟨q, z⟩, fun q => q.1⟩
  have eC : ∀ f a b, f ≠ 32 → gI (uI C 32 t 0 0) f a b = gI C f a b := fun f a b hf => by rw [gI_uI, if_neg (by omega)]
  have hC : AgC [1, 2, 10, 11, 12, 13, 14, 15, 16, 17, 18, 19, 20, 21, 22, 23, 24, 25, 26, 27, 30, 31, 33, 34, 35, 36, 37, 38, 39, 40, 41, 42, 45, 46, 47, 48] [10, 11, 12] [1, 2, 3, 4, 10, 11] C (uI C 32 t 0 0) := AgC.rf.uI _ _ _ (by decide)
  have hM : AgM [1, 2, 3, 4, 5, 7, 8, 9, 11, 12, 13, 14, 16, 17, 18, 19, 20, 21, 22, 23, 26, 27, 28, 29, 30, 31, 33, 35, 36, 37, 38, 39, 40] [6, 10, 35] M M' := y.agM (fun f a b hf => ⟨hf.1, by unfold Lg at hf; simp; omega⟩)
  refine ⟨root_ag (hC.sub (by decide) (by decide) (by decide)) (hM.sub (by decide) (by decide)) (h'.1), line_ag (hC.sub (by decide) (by decide) (by decide)) (hM.sub (by decide) (by decide)) (h'.2.1), turn_ag (hC.sub (by decide) (by decide) (by decide)) (hM.sub (by decide) (by decide)) (h'.2.2.1), tag_ag (hC.sub (by decide) (by decide) (by decide)) (hM.sub (by decide) (by decide)) (h'.2.2.2.1), row_ag (hC.sub (by decide) (by decide) (by decide)) (hM.sub (by decide) (by decide)) (h'.2.2.2.2.1), proc_ag (hC.sub (by decide) (by decide) (by decide)) (hM.sub (by decide) (by decide)) (h'.2.2.2.2.2.1), told_ag (hC.sub (by decide) (by decide) (by decide)) (hM.sub (by decide) (by decide)) (h'.2.2.2.2.2.2.1), fun q hq => ?_, fun a ha => ?_, fun s hs hhs => ?_, fun s hs hhs => ?_, fre_ag (hM.sub (by decide) (by decide)) h'.2.2.2.2.2.2.2.2.2.2.2⟩
  · have hw := h.2.2.2.2.2.2.2.1 q hq
    have nott : ∀ a, gR C 10 q 0 = some a → gI C 15 q 0 ≠ 0 → a ≠ t := fun a h1 h2 z => hno q ((h.2.1.2.2.2.2 q).mpr ⟨hq, h2⟩) (by rw [← z]; exact h1)
    have m : ∀ a b, a ≠ 24 → a ≠ 25 → a ≠ 32 → a ≠ 34 → a ≠ 41 → gI M' 110 a b = gI M 110 a b := fun a b z1 z2 z3 z4 z5 => y.2.1 110 a b (by unfold Lg; omega)
    rcases hw with w | ⟨w, w1, s, w2, w3, w4, w5⟩ | ⟨w, w1, s, w2, w3, w4, w5⟩ | ⟨w, s, w2, w3, w4, w5, w6⟩
    · exact Or.inl ⟨by rw [eC 15 _ _ (by decide)]; exact w.1, w.2⟩
    · refine Or.inr (Or.inl ⟨by rw [eC 15 _ _ (by decide)]; exact w, ?_, s, w2, w3, by rw [m 9 q (by decide) (by decide) (by decide) (by decide) (by decide)]; exact w4, (hre' s).mpr ⟨w5, nott s w3 (by omega)⟩⟩)
      obtain ⟨t1, t2, t3, t4, t5, t6⟩ := w1
      refine ⟨by rw [gL_uI, y.2.2.1]; exact t1, t2, by rw [eC 17 _ _ (by decide), m 11 q (by decide) (by decide) (by decide) (by decide) (by decide)]; exact t3, by rw [eC 17 _ _ (by decide)]; exact t4, by rw [eC 17 _ _ (by decide)]; exact t5, fun j hj => ?_⟩
      rw [eC 17 _ _ (by decide)] at hj
      rw [eC 18 _ _ (by decide), m 13 _ (by decide) (by decide) (by decide) (by decide) (by decide)]
      exact t6 j hj
    · refine Or.inr (Or.inr (Or.inl ⟨by rw [eC 15 _ _ (by decide)]; exact w, ?_, s, w2, w3, by rw [m 9 q (by decide) (by decide) (by decide) (by decide) (by decide)]; exact w4, (hre' s).mpr ⟨w5, nott s w3 (by omega)⟩⟩))
      unfold takeOK at w1 ⊢
      rw [eC 19 _ _ (by decide), eC 20 _ _ (by decide), eC 21 _ _ (by decide), gL_uI, y.2.2.1, m 11 q (by decide) (by decide) (by decide) (by decide) (by decide), m 12 q (by decide) (by decide) (by decide) (by decide) (by decide)]
      exact w1
    · refine Or.inr (Or.inr (Or.inr ⟨by rw [eC 15 _ _ (by decide)]; exact w, s, w2, w3, by rw [m 9 q (by decide) (by decide) (by decide) (by decide) (by decide)]; exact w4, (hre' _).mpr ⟨w5, nott _ w3 (by omega)⟩, ?_⟩))
      obtain ⟨t1, t2, t3, t4, t5, t6, t7, t8⟩ := w6
      refine ⟨by rw [eC 25 _ _ (by decide)]; exact t1, by rw [eC 26 _ _ (by decide)]; exact t2, by rw [eC 26 _ _ (by decide)]; exact t3, by rw [eC 26 _ _ (by decide), m 20 q (by decide) (by decide) (by decide) (by decide) (by decide)]; exact t4, by rw [eC 27 _ _ (by decide)]; exact t5, by rw [eC 27 _ _ (by decide), eC 26 _ _ (by decide)]; exact t6, by rw [eC 27 _ _ (by decide), m 14 q (by decide) (by decide) (by decide) (by decide) (by decide)]; exact t7, fun i hi => ?_⟩
      rw [eC 26 _ _ (by decide)] at hi
      have := t8 i hi
      unfold stepOK at this ⊢
      rw [eC 22 _ _ (by decide), eC 23 _ _ (by decide), eC 24 _ _ (by decide), eC 45 _ _ (by decide), m 21 _ (by decide) (by decide) (by decide) (by decide) (by decide), m 22 _ (by decide) (by decide) (by decide) (by decide) (by decide), m 23 _ (by decide) (by decide) (by decide) (by decide) (by decide)]
      exact this
  · obtain ⟨a1, a2, a3, a4, a5, a6, a7⟩ := h.thing a ha
    by_cases z : a = t
    · subst z
      have b := a7 hh
      refine ⟨a1, by rw [h25]; omega, by rw [h25]; omega, fun q => ?_, fun q => by rw [eC 30 _ _ (by decide)]; exact a5 q, fun q _ => ⟨h24, ?_⟩, fun q => absurd rfl ((hre' a).mp q).2⟩
      · rw [er] at q
        have := hh.1
        rw [q] at this; cases this
      · rw [eC 31 _ _ (by decide), h25]; exact b.2.1
    · have m24 : gI M' 110 24 a = gI M 110 24 a := y.2.1 110 24 a (by unfold Lg; omega)
      have m25 : gI M' 110 25 a = gI M 110 25 a := y.2.1 110 25 a (by unfold Lg; omega)
      refine ⟨a1, by rw [m25]; exact a2, by rw [m25]; omega, fun q => by rw [m24, m25]; exact a4 q, fun q => by rw [eC 30 _ _ (by decide)]; exact a5 q, fun q q2 => ?_, fun q => ?_⟩
      · rw [e32, if_neg z] at q2
        rw [m24, m25, eC 31 _ _ (by decide)]; exact a6 q q2
      · have b := a7 ((hre' a).mp q).1
        have m : ∀ f, f ≠ 24 → f ≠ 25 → f ≠ 32 → f ≠ 34 → f ≠ 41 → gI M' 110 f a = gI M 110 f a := fun f z1 z2 z3 z4 z5 => y.2.1 110 f a (by unfold Lg; omega)
        rw [m24, m25, m 26 (by decide) (by decide) (by decide) (by decide) (by decide), m 27 (by decide) (by decide) (by decide) (by decide) (by decide), m 28 (by decide) (by decide) (by decide) (by decide) (by decide), m 29 (by decide) (by decide) (by decide) (by decide) (by decide), m 30 (by decide) (by decide) (by decide) (by decide) (by decide), m 31 (by decide) (by decide) (by decide) (by decide) (by decide), eC 31 _ _ (by decide), eC 33 _ _ (by decide), eC 34 _ _ (by decide), eC 35 _ _ (by decide), eC 36 _ _ (by decide), eC 37 _ _ (by decide), eC 38 _ _ (by decide), eC 39 _ _ (by decide)]
        exact b
  · obtain ⟨hh1, hst⟩ := (hre' s).mp hhs
    obtain ⟨q1, q2, q3, q4, q5, q6, q7, q8⟩ := h.2.2.2.2.2.2.2.2.2.1 s hs hh1
    rw [eC 40 _ _ (by decide), eC 41 _ _ (by decide), eC 42 _ _ (by decide), y.2.1 110 34 s (by unfold Lg; omega), y.2.1 110 32 s (by unfold Lg; omega), y.2.1 110 33 s (by unfold Lg; omega)]
    refine ⟨q1, q2, q3, q4, q5, q6, q7, fun i hi => ?_⟩
    obtain ⟨u, hu, hm⟩ := q8 i hi
    refine ⟨u, hu, ?_⟩
    unfold msgOK at hm ⊢
    rw [gL_uI, eC 17 _ _ (by decide), y.2.2.1, y.2.1 110 36 _ (by unfold Lg; omega)]
    refine ⟨hm.1, hm.2.1, hm.2.2.1, hm.2.2.2.1, hm.2.2.2.2.1, fun b hb => ?_⟩
    rw [eC 18 _ _ (by decide), y.2.1 110 37 _ (by unfold Lg; omega)]
    exact hm.2.2.2.2.2 b hb
  · obtain ⟨hh1, hst⟩ := (hre' _).mp hhs
    obtain ⟨q1, q2, q3, q4⟩ := h.2.2.2.2.2.2.2.2.2.2.1 s hs hh1
    rw [eC 45 _ _ (by decide), y.2.1 110 38 s (by unfold Lg; omega)]
    refine ⟨q1, q2, q3, fun c hc => ?_⟩
    obtain ⟨k1, k2, k3, k4, k5⟩ := q4 c hc
    rw [eC 46 _ _ (by decide), eC 47 _ _ (by decide), y.2.1 110 39 _ (by unfold Lg; omega), y.2.1 110 40 _ (by unfold Lg; omega)]
    refine ⟨k1, k2, k3, k4, fun p hp => ?_⟩
    rw [eC 48 _ _ (by decide), y.2.1 110 41 _ (by unfold Lg; omega)]
    exact k5 p hp
