/-! LAYER 2: process -/
theorem gI_mkProc (C : St) (p : Nat) (u g : Int) (ad : Nat → Nat) (hp : p < 16) (f a b : Nat) : gI (mkProc C (p : Int) u g ad) f a b = if f = 10 ∧ a = p ∧ b = 0 then (p : Int) else if f = 11 ∧ a = p ∧ b = 0 then nm u else if f = 12 ∧ a = p ∧ b = 0 then nm g else if f = 13 ∧ a = p ∧ b = 0 then 1 else if 14 ≤ f ∧ f ≤ 27 ∧ f ≠ 17 ∧ f ≠ 18 ∧ a = p then 0 else if (f = 17 ∨ f = 18) ∧ a = 2 * p then 0 else gI C f a b := by
  have np : nm (p : Int) = p := nm_nat (n := 16) hp (by omega)
  unfold gI mkProc
  rw [np, Int.toNat_natCast]
  dsimp only
  split
  · exact np
  · split
    · rfl
    · split
      · rfl
      · split
        · decide
        · split
          · decide
          · split
            · decide
            · rfl
theorem gL_mkProc (C : St) (p : Nat) (u g : Int) (ad : Nat → Nat) (hp : p < 16) (f a b : Nat) : gL (mkProc C (p : Int) u g ad) f a b = if (f = 10 ∨ f = 12) ∧ a = p then 0 else if f = 11 ∧ a = 2 * p then 0 else gL C f a b := by
  have np : nm (p : Int) = p := nm_nat (n := 16) hp (by omega)
  unfold gL mkProc
  rw [np, Int.toNat_natCast]
  dsimp only
  split
  · decide
  · split
    · decide
    · rfl
theorem gR_mkProc (C : St) (p : Nat) (u g : Int) (ad : Nat → Nat) (hp : p < 16) (f a b : Nat) : gR (mkProc C (p : Int) u g ad) f a b = if f = 10 ∧ a = p then none else gR C f a b := by
  have np : nm (p : Int) = p := nm_nat (n := 16) hp (by omega)
  unfold gR mkProc
  rw [np, Int.toNat_natCast]
theorem tg_mkProc (C : St) (p : Nat) (u g : Int) (ad : Nat → Nat) (hp : p < 16) : (mkProc C (p : Int) u g ad).2.1 = C.2.1 ++ tgProc p := by
  have np : nm (p : Int) = p := nm_nat (n := 16) hp (by omega)
  unfold mkProc
  rw [np, Int.toNat_natCast]
def npC (C : St) (n : Nat) (u g : Int) (ad : Nat → Nat) : St := uI (uR (mkProc C (n : Int) u g ad) 1 0 n (some n)) 1 0 0 ((n : Int) + 1)
def npM (M : St) (n : Nat) (u g : Int) : St := uI (uI (uI (uI M 110 1 n u) 110 2 n g) 110 3 n 1) 100 0 0 ((n : Int) + 1)
theorem SimB.newp {k n : Nat} {ls : List Nat} {C M : St} {u g : Int} {ad : Nat → Nat} (h : SimB k n ls none none C M) (hn : n < 16) : SimB k (n + 1) ls none none (npC C n u g ad) (npM M n u g) := by
  have nn1 : nm ((n : Int) + 1) = (n : Int) + 1 := nm_id (by omega)
  have eI : ∀ f a b, gI (npC C n u g ad) f a b = if f = 1 ∧ a = 0 ∧ b = 0 then (n : Int) + 1 else gI (mkProc C (n : Int) u g ad) f a b := fun f a b => by
    unfold npC
    rw [gI_uI, nn1, gI_uR]
  have sI : ∀ f a b, ¬ (f = 1 ∧ a = 0 ∧ b = 0) → (f < 10 ∨ 28 ≤ f ∨ (a ≠ n ∧ f ≠ 17 ∧ f ≠ 18) ∨ ((f = 17 ∨ f = 18) ∧ a ≠ 2 * n)) → gI (npC C n u g ad) f a b = gI C f a b := fun f a b h1 h2 => by
    rw [eI, if_neg h1, gI_mkProc C n u g ad hn, if_neg (by omega), if_neg (by omega), if_neg (by omega), if_neg (by omega), if_neg (by omega), if_neg (by omega)]
  have sL : ∀ f a b, ¬ ((f = 10 ∨ f = 12) ∧ a = n) → ¬ (f = 11 ∧ a = 2 * n) → gL (npC C n u g ad) f a b = gL C f a b := fun f a b h1 h2 => by
    show gL (mkProc C (n : Int) u g ad) f a b = _
    rw [gL_mkProc C n u g ad hn, if_neg h1, if_neg h2]
  have eR : ∀ f a b, gR (npC C n u g ad) f a b = if f = 1 ∧ a = 0 ∧ b = n then some n else if f = 10 ∧ a = n then none else gR C f a b := fun f a b => by
    show gR (uR (mkProc C (n : Int) u g ad) 1 0 n (some n)) f a b = _
    rw [gR_uR, gR_mkProc C n u g ad hn]
  have sR : ∀ f a b, f ≠ 1 → ¬ (f = 10 ∧ a = n) → gR (npC C n u g ad) f a b = gR C f a b := fun f a b h1 h2 => by rw [eR, if_neg (by omega), if_neg h2]
  have eT : (npC C n u g ad).2.1 = C.2.1 ++ tgProc n := tg_mkProc C n u g ad hn
  have eM : ∀ a b, gI (npM M n u g) 110 a b = if a = 3 ∧ b = n then 1 else if a = 2 ∧ b = n then nm g else if a = 1 ∧ b = n then nm u else gI M 110 a b := fun a b => by
    unfold npM
    rw [gI_uI, if_neg (by omega), gI_uI, gI_uI, gI_uI]
    by_cases z3 : a = 3 ∧ b = n
    · rw [if_pos ⟨rfl, z3.1, z3.2⟩, if_pos z3]; decide
    · rw [if_neg (fun z => z3 z.2), if_neg z3]
      by_cases z2 : a = 2 ∧ b = n
      · rw [if_pos ⟨rfl, z2.1, z2.2⟩, if_pos z2]
      · rw [if_neg (fun z => z2 z.2), if_neg z2]
        by_cases z1 : a = 1 ∧ b = n
        · rw [if_pos ⟨rfl, z1.1, z1.2⟩, if_pos z1]
        · rw [if_neg (fun z => z1 z.2), if_neg z1]
  have sM : ∀ a b, a ≠ 1 ∧ a ≠ 2 ∧ a ≠ 3 → gI (npM M n u g) 110 a b = gI M 110 a b := fun a b z => by rw [eM, if_neg (by omega), if_neg (by omega), if_neg (by omega)]
  have m100 : gI (npM M n u g) 100 0 0 = (n : Int) + 1 := by unfold npM; rw [gI_uI, if_pos ⟨rfl, rfl, rfl⟩, nn1]
  have m101 : gI (npM M n u g) 101 0 0 = gI M 101 0 0 := by unfold npM; rw [gI_uI, if_neg (by omega), gI_uI, if_neg (by omega), gI_uI, if_neg (by omega), gI_uI, if_neg (by omega)]
  have mL : ∀ a b, gL (npM M n u g) 110 a b = gL M 110 a b := fun _ _ => rfl
  have er : ∀ t, rt (npC C n u g ad) t = rt C t := rt_ag (fun a b => sR 2 a b (by decide) (by omega)) (fun a b => sR 3 a b (by decide) (by omega))
  have hh : ∀ t, hre (npC C n u g ad) t ↔ hre C t := hre_ag (fun a b => sR 2 a b (by decide) (by omega)) (fun a b => sR 3 a b (by decide) (by omega)) (fun a b => sI 32 a b (by omega) (by omega))
  have sC : ∀ f, 28 ≤ f → ∀ a b, gI (npC C n u g ad) f a b = gI C f a b := fun f hf a b => sI f a b (by omega) (by omega)
  have sQ : ∀ q, q ≠ n → ∀ f, 10 ≤ f → f ≠ 17 → f ≠ 18 → ∀ b, gI (npC C n u g ad) f q b = gI C f q b := fun q hq f h1 h2 h3 b => sI f q b (by omega) (by omega)
  have sP : ∀ q, q ≠ n → ∀ f, f = 17 ∨ f = 18 → ∀ b, gI (npC C n u g ad) f (2 * q) b = gI C f (2 * q) b := fun q hq f h1 b => sI f (2 * q) b (by omega) (by omega)
  have sN : ∀ a, a ≠ 1 ∧ a ≠ 2 ∧ a ≠ 3 → ∀ b, gI (npM M n u g) 110 a b = gI M 110 a b := fun a z b => sM a b z
  obtain ⟨h1, h2, h3, h4, h5, h6, h7, h8, h9, h10, h11, h12⟩ := h
  have fr := h12 n (Nat.le_refl _) hn
  -- the new process's own fields
  have z0 : ∀ f b, 14 ≤ f → f ≤ 27 → f ≠ 17 → f ≠ 18 → gI (npC C n u g ad) f n b = 0 := fun f b w1 w2 w3 w4 => by
    rw [eI, if_neg (by omega), gI_mkProc C n u g ad hn, if_neg (by omega), if_neg (by omega), if_neg (by omega), if_neg (by omega), if_pos (by omega)]
  refine ⟨⟨by omega, ?_, m100, fun i => ?_⟩, ⟨fun i => ?_, ?_, h2.2.2.1, h2.2.2.2.1, fun q => ?_⟩, ?_, ?_, ?_, fun q hq => ?_, fun q hq => ?_, fun q hq => ?_, ?_, ?_, ?_, fun q q1 q2 => ?_⟩
  · rw [eI, if_pos ⟨rfl, rfl, rfl⟩]; omega
  · rw [eR]
    by_cases z : i = n
    · rw [if_pos ⟨rfl, rfl, z⟩, if_pos (by omega), z]
    · rw [if_neg (by omega), if_neg (by omega), h1.2.2.2]
      by_cases w : i < n
      · rw [if_pos w, if_pos (by omega)]
      · rw [if_neg w, if_neg (by omega)]
  · rw [sR 4 0 i (by decide) (by omega)]; exact h2.1 i
  · rw [sI 2 0 0 (by omega) (by omega)]; exact h2.2.1
  · rw [h2.2.2.2.2 q]
    by_cases z : q = n
    · subst z
      rw [z0 15 0 (by decide) (by decide) (by decide) (by decide)]
      exact ⟨fun w => absurd w.1 (by omega), fun w => absurd rfl w.2⟩
    · rw [sI 15 q 0 (by omega) (by omega)]
      exact ⟨fun w => ⟨by omega, w.2⟩, fun w => ⟨by omega, w.2⟩⟩
  · unfold turnOK at h3 ⊢
    rw [m101]
    refine ⟨h3.1, h3.2.1, fun q hq => ?_, ?_⟩
    · rw [sM 8 q (by decide)]; exact h3.2.2.1 q hq
    · simp only [sM 8 _ (show 8 ≠ 1 ∧ 8 ≠ 2 ∧ 8 ≠ 3 by decide)]; exact h3.2.2.2
  · intro kk a ha
    rw [eT, List.mem_append] at ha
    rcases ha with ha | ha
    · obtain ⟨t1, t2, t3⟩ := h4 kk a ha
      exact ⟨fun z => by have := t1 z; omega, fun z z2 => by have := t2 z z2; omega, fun z => by rw [er]; exact t3 z⟩
    · unfold tgProc at ha
      simp only [List.mem_cons, Prod.mk.injEq, List.not_mem_nil, or_false] at ha
      refine ⟨fun z => by omega, fun z z2 => by omega, fun z => by omega⟩
  · refine ⟨fun s i v hv => ?_, fun s i s' i' v hv hv' => ?_⟩
    · rw [sR 11 s i (by decide) (by omega)] at hv
      obtain ⟨r1, r2⟩ := h5.1 s i v hv
      exact ⟨r1, by rw [eT]; exact List.mem_append_left _ r2⟩
    · rw [sR 11 s i (by decide) (by omega)] at hv
      rw [sR 11 s' i' (by decide) (by omega)] at hv'
      exact h5.2 s i s' i' v hv hv'
  · by_cases z : q = n
    · subst z
      refine ⟨?_, ?_, ?_, fun _ => ?_, fun _ => ?_, ?_, ?_, fun j hj => ?_⟩
      · rw [eI, if_neg (by omega), gI_mkProc C q u g ad hn, if_pos ⟨rfl, rfl, rfl⟩]
      · rw [eI, if_neg (by omega), gI_mkProc C q u g ad hn, if_neg (by omega), if_pos ⟨rfl, rfl, rfl⟩, eM, if_neg (by omega), if_neg (by omega), if_pos ⟨rfl, rfl⟩]
      · rw [eI, if_neg (by omega), gI_mkProc C q u g ad hn, if_neg (by omega), if_neg (by omega), if_pos ⟨rfl, rfl, rfl⟩, eM, if_neg (by omega), if_pos ⟨rfl, rfl⟩]
      · rw [eI, if_neg (by omega), gI_mkProc C q u g ad hn, if_neg (by omega), if_neg (by omega), if_neg (by omega), if_pos ⟨rfl, rfl, rfl⟩, eM, if_pos ⟨rfl, rfl⟩]
      · rw [z0 14 0 (by decide) (by decide) (by decide) (by decide), sM 4 q (by decide), fr.1]
      · rw [z0 15 0 (by decide) (by decide) (by decide) (by decide), sM 7 q (by decide), fr.2.1]
      · show gL (mkProc C (q : Int) u g ad) 10 q 0 = _
        rw [gL_mkProc C q u g ad hn, if_pos ⟨Or.inl rfl, rfl⟩, mL, fr.2.2.2.1]
      · rw [z0 16 j (by decide) (by decide) (by decide) (by decide), sM 5 _ (by decide), fr.2.2.2.2 j hj]
    · obtain ⟨b1, b2, b3, b4, b5, b6, b7, b8⟩ := h6 q (by omega)
      rw [procOK, sI 10 q 0 (by omega) (by omega), sI 11 q 0 (by omega) (by omega), sI 12 q 0 (by omega) (by omega), sI 13 q 0 (by omega) (by omega), sI 14 q 0 (by omega) (by omega), sI 15 q 0 (by omega) (by omega), sL 10 q 0 (by omega) (by omega), eM 1, if_neg (by omega), if_neg (by omega), if_neg (by omega), eM 2, if_neg (by omega), if_neg (by omega), if_neg (by omega), eM 3, if_neg (by omega), if_neg (by omega), if_neg (by omega), sM 4 q (by decide), sM 7 q (by decide), mL]
      refine ⟨b1, b2, b3, b4, b5, b6, b7, fun j hj => ?_⟩
      rw [sI 16 q j (by omega) (by omega), sM 5 _ (by decide)]; exact b8 j hj
  · by_cases z : q = n
    · subst z
      have e25 := z0 25 0 (by decide) (by decide) (by decide) (by decide)
      refine ⟨by rw [e25]; decide, by rw [e25]; decide, by rw [e25, sM 16 q (by decide), fr.2.2.1], fun i hi => ?_⟩
      rw [e25] at hi; omega
    · have := h7 q (by omega)
      unfold toldOK stepOK at this ⊢
      simp only [sQ q z 25 (by decide) (by decide) (by decide), sQ q z 22 (by decide) (by decide) (by decide), sQ q z 23 (by decide) (by decide) (by decide), sQ q z 24 (by decide) (by decide) (by decide), sN 16 (by decide), sN 17 (by decide), sN 18 (by decide), sN 19 (by decide)]
      exact this
  · by_cases z : q = n
    · subst z
      exact Or.inl ⟨z0 15 0 (by decide) (by decide) (by decide) (by decide), by rw [eR, if_neg (by omega), if_pos ⟨rfl, rfl⟩]⟩
    · have := h8 q (by omega)
      unfold waitOK sendOK takeOK tryOK stepOK at this ⊢
      have r10 : gR (npC C n u g ad) 10 q 0 = gR C 10 q 0 := sR 10 q 0 (by decide) (fun w => z w.2)
      have l11 : gL (npC C n u g ad) 11 (2 * q) 0 = gL C 11 (2 * q) 0 := sL 11 (2 * q) 0 (fun w => absurd w.1 (by decide)) (fun w => z (by omega))
      have l12 : gL (npC C n u g ad) 12 q 0 = gL C 12 q 0 := sL 12 q 0 (fun w => z w.2) (fun w => absurd w.1 (by decide))
      simp only [hh, r10, l11, l12, mL, sQ q z 15 (by decide) (by decide) (by decide), sP q z 17 (by decide), sP q z 18 (by decide), sQ q z 19 (by decide) (by decide) (by decide), sQ q z 20 (by decide) (by decide) (by decide), sQ q z 21 (by decide) (by decide) (by decide), sQ q z 25 (by decide) (by decide) (by decide), sQ q z 26 (by decide) (by decide) (by decide), sQ q z 27 (by decide) (by decide) (by decide), sQ q z 22 (by decide) (by decide) (by decide), sQ q z 23 (by decide) (by decide) (by decide), sQ q z 24 (by decide) (by decide) (by decide), sC 45 (by decide), sN 9 (by decide), sN 11 (by decide), sN 12 (by decide), sN 13 (by decide), sN 14 (by decide), sN 20 (by decide), sN 21 (by decide), sN 22 (by decide), sN 23 (by decide)]
      exact this
  · unfold thingOK at h9 ⊢
    simp only [er, hh, sC 30 (by decide), sC 31 (by decide), sC 32 (by decide), sC 33 (by decide), sC 34 (by decide), sC 35 (by decide), sC 36 (by decide), sC 37 (by decide), sC 38 (by decide), sC 39 (by decide), sN 24 (by decide), sN 25 (by decide), sN 26 (by decide), sN 27 (by decide), sN 28 (by decide), sN 29 (by decide), sN 30 (by decide), sN 31 (by decide)]
    exact h9
  · intro s hs hhs
    obtain ⟨q1, q2, q3, q4, q5, q6, q7, q8⟩ := h10 s hs ((hh s).mp hhs)
    rw [sI 40 s 0 (by omega) (by omega), sI 41 s 0 (by omega) (by omega), sI 42 s 0 (by omega) (by omega), sM 34 s (by decide), sM 32 s (by decide), sM 33 s (by decide)]
    refine ⟨q1, q2, q3, q4, q5, q6, q7, fun i hi => ?_⟩
    obtain ⟨v, hv, hm⟩ := q8 i hi
    have ho := (h5.1 s i v hv).1
    refine ⟨v, by rw [sR 11 s i (by decide) (by omega)]; exact hv, ?_⟩
    unfold msgOK at hm ⊢
    rw [sL 11 v 0 (by omega) (by omega), sI 17 v 0 (by omega) (by omega), mL, sM 36 _ (by decide)]
    refine ⟨hm.1, hm.2.1, hm.2.2.1, hm.2.2.2.1, hm.2.2.2.2.1, fun b hb => ?_⟩
    rw [sI 18 v b (by omega) (by omega), sM 37 _ (by decide)]
    exact hm.2.2.2.2.2 b hb
  · unfold setOK at h11 ⊢
    simp only [hh, sC 45 (by decide), sC 46 (by decide), sC 47 (by decide), sC 48 (by decide), sN 38 (by decide), sN 39 (by decide), sN 40 (by decide), sN 41 (by decide)]
    exact h11
  · obtain ⟨f1, f2, f3, f4, f5⟩ := h12 q (by omega) q2
    rw [sM 4 q (by decide), sM 7 q (by decide), sM 16 q (by decide), mL]
    exact ⟨f1, f2, f3, f4, fun j hj => by rw [sM 5 _ (by decide)]; exact f5 j hj⟩
theorem op_process {k n : Nat} {ls : List Nat} {C M0 : St} {u g : Int} (hu : nm u = u) (hg : nm g = g) (h : SimB k n ls none none C M0) : LockW k k n ls (wp_X7_process u g C) C (fun M => wp_X8_process u g M) := by
  have hr := h.1
  have hn := hr.1
  have n99 : nm 99 = 99 := by decide
  have n16 : nm 16 = 16 := by decide
  have l0 : nmL 0 = 0 := by decide
  have l99 : nmL 99 = 99 := by decide
  have nn : nm (n : Int) = n := nm_nat (n := 17) (by omega) (by omega)
  have cls : ∀ po : Int → St → Prop, (¬ ((0 ≤ u ∧ u ≤ 99) ∧ 0 ≤ g ∧ g ≤ 99) → po (-4) C) → ((0 ≤ u ∧ u ≤ 99) ∧ 0 ≤ g ∧ g ≤ 99 → n = 16 → po (-9) C) → ((0 ≤ u ∧ u ≤ 99) ∧ 0 ≤ g ∧ g ≤ 99 → n < 16 → ∀ ad, po (n : Int) (npC C n u g ad)) → wp_X7_process u g C po := by
    intro po k0 k1 k2
    unfold wp_X7_process
    rw [sp_isWithin hu n99]
    refine ⟨fun z => k0 (fun w => (ez_bI _).mp z w.1), fun z => ?_⟩
    rw [sp_isWithin hg n99]
    refine ⟨fun y => ?_, fun y => k0 (fun w => (ez_bI _).mp y w.2)⟩
    have hok : (0 ≤ u ∧ u ≤ 99) ∧ 0 ≤ g ∧ g ≤ 99 := ⟨(nz_bI _).mp z, (nz_bI _).mp y⟩
    rw [hr.2.1, nn, n16, Int.toNat_natCast]
    refine ⟨fun w => ⟨fun t ht hin => ?_, ?_⟩, fun w => k1 hok (by omega)⟩
    · rw [nn, Int.toNat_natCast] at ht
      obtain ⟨kk, a⟩ := t
      obtain ⟨t1, t2, t3⟩ := h.2.2.2.1 kk a hin
      unfold tgProc at ht
      simp only [List.mem_cons, Prod.mk.injEq, List.not_mem_nil, or_false] at ht
      omega
    · rintro _ ⟨ad, rfl⟩
      refine ⟨by omega, ?_⟩
      rintro _ rfl _ rfl
      have e1 : gI (uR (mkProc C (n : Int) u g ad) 1 0 n (some n)) 1 0 0 = n := by
        rw [gI_uR, gI_mkProc C n u g ad (by omega), if_neg (by omega), if_neg (by omega), if_neg (by omega), if_neg (by omega), if_neg (by omega), if_neg (by omega), hr.2.1]
      rw [e1]
      exact k2 hok (by omega) ad
  have mod : ∀ M, SimB k n ls none none C M → ∀ po : Int → St → Prop, (¬ ((0 ≤ u ∧ u ≤ 99) ∧ 0 ≤ g ∧ g ≤ 99) → po (-4) M) → ((0 ≤ u ∧ u ≤ 99) ∧ 0 ≤ g ∧ g ≤ 99 → n = 16 → po (-9) M) → ((0 ≤ u ∧ u ≤ 99) ∧ 0 ≤ g ∧ g ≤ 99 → n < 16 → po (n : Int) (npM M n u g)) → wp_X8_process u g M po := by
    intro M hM po k0 k1 k2
    have e100 := hM.1.2.2.1
    unfold wp_X8_process
    rw [hu, hg, sp_in (nmL_of hu) l0 l99]
    refine ⟨fun z => k0 (fun w => (ez_bI _).mp z w.1), fun z => ?_⟩
    rw [sp_in (nmL_of hg) l0 l99]
    refine ⟨fun y => ?_, fun y => k0 (fun w => (ez_bI _).mp y w.2)⟩
    have hok : (0 ≤ u ∧ u ≤ 99) ∧ 0 ≤ g ∧ g ≤ 99 := ⟨(nz_bI _).mp z, (nz_bI _).mp y⟩
    rw [e100, nn, n16, Int.toNat_natCast]
    refine ⟨fun w => ⟨by omega, ?_⟩, fun w => k1 hok (by omega)⟩
    rintro _ rfl
    rw [gI_uI, if_neg (by omega), e100, nn, Int.toNat_natCast]
    refine ⟨by omega, ?_⟩
    rintro _ rfl
    rw [gI_uI, if_neg (by omega), gI_uI, if_neg (by omega), e100, nn, Int.toNat_natCast]
    refine ⟨by omega, ?_⟩
    rintro _ rfl _ rfl
    rw [gI_uI, if_pos ⟨rfl, rfl, rfl⟩, gI_uI, if_neg (by omega), gI_uI, if_neg (by omega), gI_uI, if_neg (by omega), e100, nm_id (by omega), show ((n : Int) + 1 - 1) = (n : Int) by omega]
    exact k2 hok (by omega)
  by_cases hok : (0 ≤ u ∧ u ≤ 99) ∧ 0 ≤ g ∧ g ≤ 99
  · by_cases h16 : n < 16
    · intro po hpo
      refine cls po (fun z => absurd hok z) (fun _ z => by omega) (fun _ _ ad => hpo (n : Int) _ ?_ (fun M hM => ⟨npM M n u g, fun po2 hpo2 => mod M hM po2 (fun z => absurd hok z) (fun _ z => by omega) (fun _ _ => hpo2), ?_, n + 1, ls, hM.newp h16⟩))
      · refine (MEq.uR ?_ _ _ _ _).uI _ _ _ _ (by decide)
        refine ⟨fun f a b hf => ?_, fun f a b hf => ?_⟩
        · rw [gI_mkProc C n u g ad h16, if_neg (by omega), if_neg (by omega), if_neg (by omega), if_neg (by omega), if_neg (by omega), if_neg (by omega)]
        · rw [gL_mkProc C n u g ad h16, if_neg (by omega), if_neg (by omega)]
      · exact (((CEq.rf.uI _ _ _ _ (by decide)).uI _ _ _ _ (by decide)).uI _ _ _ _ (by decide)).uI _ _ _ _ (by decide)
    · exact LockB.toW (LockB.read (-9) (fun po hpo => cls po (fun z => absurd hok z) (fun _ _ => hpo) (fun _ z => absurd z h16)) (fun M hM po hpo => mod M hM po (fun z => absurd hok z) (fun _ _ => hpo) (fun _ z => absurd z h16)))
  · exact LockB.toW (LockB.read (-4) (fun po hpo => cls po (fun _ => hpo) (fun z => absurd z hok) (fun z => absurd z hok)) (fun M hM po hpo => mod M hM po (fun _ => hpo) (fun z => absurd z hok) (fun z => absurd z hok)))
