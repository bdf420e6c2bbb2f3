/-! LAYER 2: set -/
def setK (po : Int → St → Prop) (x1 key c way : Int) (M : St) : Prop := wp_X8_withKey key 12 M (fun r108 s108 => (nm r108 = nm (-1) → (nm key = 0 → wp_X8_set_177 po x1 key c way s108) ∧
 (nm key ≠ 0 → (nm (zand way 512) ≠ 0 → wp_X8_set_177 po x1 key c way s108) ∧
 (nm (zand way 512) = 0 → wp_X8_tells x1 (-8) s108 (fun r114 s119 => po r114 s119)))) ∧
 (nm r108 ≠ nm (-1) → (nm (zand way 1536) ≠ nm 1536 → (0 ≤ nm (r108 - 12) ∧ nm (r108 - 12) < 12) ∧ (nm c ≤ nm (gI s108 110 38 (nm (r108 - 12)).toNat) → wp_X8_wanted way s108 (fun r115 s120 => wp_X8_hasAll x1 r108 r115 s120 (fun r116 s121 => (nm r116 = 0 → wp_X8_tells x1 (-6) s121 (fun r117 s122 => po r117 s122)) ∧
 (nm r116 ≠ 0 → wp_X8_idOf r108 s121 (fun r118 s123 => wp_X8_tells x1 r118 s123 (fun r119 s124 => po r119 s124)))))) ∧
 (nm (gI s108 110 38 (nm (r108 - 12)).toNat) < nm c → wp_X8_tells x1 (-5) s108 (fun r120 s125 => po r120 s125))) ∧
 (nm (zand way 1536) = nm 1536 → wp_X8_tells x1 (-7) s108 (fun r121 s126 => po r121 s126))))
def setI (po : Int → St → Prop) (x1 key c way : Int) (M : St) : Prop := wp_X8_in (nm key) 0 1000000 M (fun r103 s103 => (nm r103 = 0 → wp_X8_tells x1 (-4) s103 (fun r104 s104 => po r104 s104)) ∧
 (nm r103 ≠ 0 → wp_X8_in (nm way) 0 2047 s103 (fun r105 s105 => (nm r105 = 0 → wp_X8_tells x1 (-4) s105 (fun r106 s106 => po r106 s106)) ∧
 (nm r105 ≠ 0 → wp_X8_in (nm c) 0 8 s105 (fun r107 s107 => (nm r107 ≠ 0 → setK po x1 key c way s107) ∧
 (nm r107 = 0 → wp_X8_tells x1 (-4) s107 (fun r122 s127 => po r122 s127)))))))
theorem op_set {k n : Nat} {ls : List Nat} {C M0 : St} {x key c way : Int} (hk : k ≤ 65536) (hx : nm x = x) (hkey : nm key = key) (hc : nm c = c) (hway : nm way = way) (h : SimB k n ls none none C M0) : LockW k k n ls (wp_X7_set x key c way C) C (fun M => wp_X8_set x key c way M) := by
  delta wp_X7_set wp_X8_set
  refine caller_lockW (ic := fun a s po => wp_X7_openSet (some a) key c way s po) (im := fun M po => setI po x key c way M) (Nat.le_refl _) hx h (fun p hp ex hf hw hnl => ?_)
  subst ex
  have hr := h.1
  have hp16 : p < 16 := by have := hr.1; omega
  have n1 : nm 1000000 = 1000000 := by decide
  have n2 : nm 2047 = 2047 := by decide
  have n3 : nm 1536 = 1536 := by decide
  have n8 : nm 8 = 8 := by decide
  have l0 : nmL 0 = 0 := by decide
  have l1 : nmL 1000000 = 1000000 := by decide
  have l2 : nmL 2047 = 2047 := by decide
  have l8 : nmL 8 = 8 := by decide
  have kq : kb 3 12 := Or.inr ⟨rfl, rfl⟩
  by_cases hok : (0 ≤ key ∧ key ≤ 1000000) ∧ (0 ≤ c ∧ c ≤ 8) ∧ 0 ≤ way ∧ way ≤ 2047
  · obtain ⟨hok1, hok3, hok2⟩ := hok
    obtain ⟨w, rfl⟩ : ∃ w : Nat, way = w := ⟨way.toNat, by omega⟩
    have hw2 : w < 2048 := by omega
    obtain ⟨hwr, hwm⟩ := bits_w3 w hw2
    -- class and model, to the lookup
    have cls : ∀ po : Int → St → Prop, wp_X7_thingByKey 3 (some 0) key C (fun o101 s104 => (o101 = none → wp_X7_isMade key (w : Int) s104 (fun r104 s105 => (nm r104 = 0 → po (-8) s105) ∧
 (nm r104 ≠ 0 → wp_X7_makeSet (some p) key c (w : Int) s105 (fun r105 s106 => po r105 s106)))) ∧
 (∀ a101, o101 = some a101 → wp_X7_isOnlyNew (w : Int) s104 (fun r106 s107 => (nm r106 = 0 → 12 ≤ a101 ∧ (nm c ≤ nm (gI s107 45 a101 0) → wp_X7_wanted (w : Int) s107 (fun r107 s108 => wp_X5_grantsAll a101 (some p) r107 s108 (fun r108 s109 => (nm r108 = 0 → po (-6) s109) ∧
 (nm r108 ≠ 0 → po (gI s109 33 a101 0) s109)))) ∧
 (nm (gI s107 45 a101 0) < nm c → po (-5) s107)) ∧
 (nm r106 ≠ 0 → po (-7) s107)))) → wp_X7_openSet (some p) key c (w : Int) C po := by
      intro po hgo
      unfold wp_X7_openSet
      rw [sp_isWithin hkey n1]
      refine ⟨fun z => absurd hok1 ((ez_bI _).mp z), fun _ => ?_⟩
      rw [sp_isWithin hc n8]
      refine ⟨fun z => absurd hok3 ((ez_bI _).mp z), fun _ => ?_⟩
      rw [sp_isWithin hway n2]
      exact ⟨fun _ => hgo, fun z => absurd hok2 ((ez_bI _).mp z)⟩
    have mod : ∀ M, SimB k n ls none none C M → ∀ po : Int → St → Prop, setK po (p : Int) key c (w : Int) M → setI po (p : Int) key c (w : Int) M := by
      intro M hM po hgo
      unfold setI
      rw [hkey, hway, hc, sp_in (nmL_of hkey) l0 l1]
      refine ⟨fun z => absurd hok1 ((ez_bI _).mp z), fun _ => ?_⟩
      rw [sp_in (nmL_of hway) l0 l2]
      refine ⟨fun z => absurd hok2 ((ez_bI _).mp z), fun _ => ?_⟩
      rw [sp_in (nmL_of hc) l0 l8]
      exact ⟨fun _ => hgo, fun z => absurd hok3 ((ez_bI _).mp z)⟩
    rcases least_or (PK C 12 key) with ⟨s, hL⟩ | hnone
    · -- one is there
      have hs := hL.1
      have hh : hre C (12 + s) := hL.2.1.2.1
      have ns : nm ((12 + s : Nat) : Int) = ((12 + s : Nat) : Int) := nm_nat (n := 24) (by omega) (by omega)
      have es : nm (((12 + s : Nat) : Int) - 12) = (s : Int) := by rw [nm_id (by omega)]; omega
      have lM : ∀ M, SimB k n ls none none C M → Least (PKM M 12 key) s := fun M hM => ⟨hs, (pk_M hM (Or.inr rfl) s hs).mp hL.2.1, fun s' hs' w => hL.2.2 s' hs' ((pk_M hM (Or.inr rfl) s' (by omega)).mpr w)⟩
      have cls2 : ∀ po : Int → St → Prop, wp_X7_isOnlyNew (w : Int) C (fun r106 s107 => (nm r106 = 0 → 12 ≤ 12 + s ∧ (nm c ≤ nm (gI s107 45 (12 + s) 0) → wp_X7_wanted (w : Int) s107 (fun r107 s108 => wp_X5_grantsAll (12 + s) (some p) r107 s108 (fun r108 s109 => (nm r108 = 0 → po (-6) s109) ∧
 (nm r108 ≠ 0 → po (gI s109 33 (12 + s) 0) s109)))) ∧
 (nm (gI s107 45 (12 + s) 0) < nm c → po (-5) s107)) ∧
 (nm r106 ≠ 0 → po (-7) s107)) → wp_X7_openSet (some p) key c (w : Int) C po := by
        intro po hgo
        refine cls po (sp_byKey kq h.rootT hkey (fun s' hL' => ?_) (fun z => absurd hL.2.1 (z s hs)))
        have es : s' = s := least_uniq hL' hL (fun _ _ => Iff.rfl)
        subst es
        refine ⟨fun z => (by cases z), ?_⟩
        rintro _ ⟨rfl⟩
        exact hgo
      have mod2 : ∀ M, SimB k n ls none none C M → ∀ po : Int → St → Prop, ((nm (zand (w : Int) 1536) ≠ nm 1536 → (0 ≤ (s : Int) ∧ (s : Int) < 12) ∧ (nm c ≤ nm (gI M 110 38 s) → wp_X8_wanted (w : Int) M (fun r115 s120 => wp_X8_hasAll (p : Int) ((12 + s : Nat) : Int) r115 s120 (fun r116 s121 => (nm r116 = 0 → wp_X8_tells (p : Int) (-6) s121 (fun r117 s122 => po r117 s122)) ∧
 (nm r116 ≠ 0 → wp_X8_idOf ((12 + s : Nat) : Int) s121 (fun r118 s123 => wp_X8_tells (p : Int) r118 s123 (fun r119 s124 => po r119 s124)))))) ∧
 (nm (gI M 110 38 s) < nm c → wp_X8_tells (p : Int) (-5) M (fun r120 s125 => po r120 s125))) ∧
 (nm (zand (w : Int) 1536) = nm 1536 → wp_X8_tells (p : Int) (-7) M (fun r121 s126 => po r121 s126))) → setI po (p : Int) key c (w : Int) M := by
        intro M hM po hgo
        refine mod M hM po (sp_withKey (b := 12) (Or.inr rfl) hkey (fun s' hL' => ?_) (fun z => absurd (lM M hM).2.1 (z s hs)))
        have es' : s' = s := least_uniq hL' (lM M hM) (fun _ _ => Iff.rfl)
        subst es'
        refine ⟨fun z => absurd z (by rw [ns, nm_m1]; omega), fun _ => ?_⟩
        rw [es, Int.toNat_natCast]
        exact hgo
      have i12 : (0 : Int) ≤ s ∧ (s : Int) < 12 := by omega
      have m38 : ∀ M, SimB k n ls none none C M → gI C 45 (12 + s) 0 = gI M 110 38 s := fun M hM => (hM.2.2.2.2.2.2.2.2.2.2.1 s hs hh).1
      by_cases hon : zand (w : Int) 1536 = 1536
      · refine MainW.refuse (Nat.le_refl _) (-7) (fun po hpo => cls2 po (sp_onlyNew hw2 (fun _ => ⟨fun z => absurd z (by decide), fun _ => hpo⟩) (fun z => absurd hon z))) (fun M hM po hpo => mod2 M hM po ⟨fun z => ?_, fun _ => sp_tells hp16 hpo⟩)
        rw [nm_zand, n3] at z; exact absurd hon z
      · by_cases hn : c ≤ gI C 45 (12 + s) 0
        · by_cases hg : graC C (12 + s) p (zand (zor (zor (zshr (w : Int) 6) (zshr (w : Int) 3)) (w : Int)) 7)
          · refine MainW.refuse (Nat.le_refl _) (gI C 33 (12 + s) 0) (fun po hpo => cls2 po (sp_onlyNew hw2 (fun z => absurd z hon) (fun _ => ⟨fun _ => ⟨by omega, fun _ => ?_, fun z => ?_⟩, fun z => absurd n0 z⟩))) (fun M hM po hpo => mod2 M hM po ⟨fun _ => ⟨i12, fun _ => ?_, fun z => ?_⟩, fun z => ?_⟩)
            · unfold wp_X7_wanted
              exact sp_grantsAll hwr (h.md (by omega) hh) (fun _ => ⟨fun z => absurd z (by decide), fun _ => hpo⟩) (fun z => absurd hg z)
            · rw [nm_gI, hc] at z; omega
            · unfold wp_X8_wanted
              refine sp_hasAll hp16 (by omega) (mayCM hM (by omega) hp hh) (fun _ => ⟨fun z => absurd z (by decide), fun _ => sp_idOf (by omega) (sp_tells hp16 ?_)⟩) (fun z => absurd hg z)
              have e33 := ((hM.thing (12 + s) (by omega)).2.2.2.2.2.2 hh).2.2.1
              rw [← e33]; exact hpo
            · rw [nm_gI, hc, ← m38 M hM] at z; omega
            · rw [nm_zand, n3] at z; exact absurd z hon
          · refine MainW.refuse (Nat.le_refl _) (-6) (fun po hpo => cls2 po (sp_onlyNew hw2 (fun z => absurd z hon) (fun _ => ⟨fun _ => ⟨by omega, fun _ => ?_, fun z => ?_⟩, fun z => absurd n0 z⟩))) (fun M hM po hpo => mod2 M hM po ⟨fun _ => ⟨i12, fun _ => ?_, fun z => ?_⟩, fun z => ?_⟩)
            · unfold wp_X7_wanted
              exact sp_grantsAll hwr (h.md (by omega) hh) (fun z => absurd z hg) (fun _ => ⟨fun _ => hpo, fun z => absurd n0 z⟩)
            · rw [nm_gI, hc] at z; omega
            · unfold wp_X8_wanted
              exact sp_hasAll hp16 (by omega) (mayCM hM (by omega) hp hh) (fun z => absurd z hg) (fun _ => ⟨fun _ => sp_tells hp16 hpo, fun z => absurd n0 z⟩)
            · rw [nm_gI, hc, ← m38 M hM] at z; omega
            · rw [nm_zand, n3] at z; exact absurd z hon
        · refine MainW.refuse (Nat.le_refl _) (-5) (fun po hpo => cls2 po (sp_onlyNew hw2 (fun z => absurd z hon) (fun _ => ⟨fun _ => ⟨by omega, fun z => ?_, fun _ => hpo⟩, fun z => absurd n0 z⟩))) (fun M hM po hpo => mod2 M hM po ⟨fun _ => ⟨i12, fun z => ?_, fun _ => sp_tells hp16 hpo⟩, fun z => ?_⟩)
          · rw [nm_gI, hc] at z; exact absurd z hn
          · rw [nm_gI, hc, ← m38 M hM] at z; exact absurd z hn
          · rw [nm_zand, n3] at z; exact absurd z hon
    · -- none is there
      have nM : ∀ M, SimB k n ls none none C M → ∀ s, s < 12 → ¬ PKM M 12 key s := fun M hM s hs z => hnone s hs ((pk_M hM (Or.inr rfl) s hs).mpr z)
      have cls2 : ∀ po : Int → St → Prop, (¬ (key = 0 ∨ zand (w : Int) 512 ≠ 0) → po (-8) C) → ((key = 0 ∨ zand (w : Int) 512 ≠ 0) → wp_X7_makeSet (some p) key c (w : Int) C (fun r104 s105 => po r104 s105)) → wp_X7_openSet (some p) key c (w : Int) C po := by
        intro po k0 k1
        refine cls po (sp_byKey kq h.rootT hkey (fun s hL => absurd hL.2.1 (hnone s hL.1)) (fun _ => ⟨fun _ => sp_isMade hkey (fun z => ⟨fun y => absurd y (by decide), fun _ => k1 z⟩) (fun z => ⟨fun _ => k0 z, fun y => absurd n0 y⟩), fun a z => (by cases z)⟩))
      have mod2 : ∀ M, SimB k n ls none none C M → ∀ po : Int → St → Prop, (¬ (key = 0 ∨ zand (w : Int) 512 ≠ 0) → wp_X8_tells (p : Int) (-8) M (fun r111 s115 => po r111 s115)) → ((key = 0 ∨ zand (w : Int) 512 ≠ 0) → wp_X8_set_177 po (p : Int) key c (w : Int) M) → setI po (p : Int) key c (w : Int) M := by
        intro M hM po k0 k1
        refine mod M hM po (sp_withKey (b := 12) (Or.inr rfl) hkey (fun s hL => absurd hL.2.1 (nM M hM s hL.1)) (fun _ => ⟨fun _ => ?_, fun z => absurd rfl z⟩))
        rw [hkey]
        refine ⟨fun z => k1 (Or.inl z), fun z => ⟨fun y => k1 (Or.inr (by rwa [nm_zand] at y)), fun y => k0 (fun v => ?_)⟩⟩
        rw [nm_zand] at y
        exact v.elim z (fun u => u y)
      by_cases hmk : key = 0 ∨ zand (w : Int) 512 ≠ 0
      · by_cases hc0 : c = 0
        · refine MainW.refuse (Nat.le_refl _) (-5) (fun po hpo => cls2 po (fun z => absurd hmk z) (fun _ => ?_)) (fun M hM po hpo => mod2 M hM po (fun z => absurd hmk z) (fun _ => ?_))
          · unfold wp_X7_makeSet
            rw [hc]
            exact ⟨fun z => absurd hc0 z, fun _ => hpo⟩
          · unfold wp_X8_set_177
            rw [hc]
            exact ⟨fun z => absurd hc0 z, fun _ => sp_tells hp16 hpo⟩
        · rcases least_or (fun x => ¬ hre C (12 + x)) with ⟨s, hL⟩ | hall
          · -- a slot is free
            have hs := hL.1
            have hno : ¬ hre C (12 + s) := hL.2.1
            have ns : nm (s : Int) = s := nm_nat (n := 12) hs (by omega)
            have lM : ∀ M, SimB k n ls none none C M → Least (fun x => gI M 110 24 (12 + x) = 0) s := fun M hM => ⟨hs, (fr_M hM (Or.inr rfl) s hs).mp hL.2.1, fun s' hs' w => hL.2.2 s' hs' ((fr_M hM (Or.inr rfl) s' (by omega)).mpr w)⟩
            intro po hpo
            have fin : ∀ (D : St) (tg : List (Nat × Nat)), D.2.1 = C.2.1 ++ tg → (∀ kk a, (kk, a) ∈ tg → 20 ≤ kk ∧ kk ≤ 26 ∧ a = 12 + s) → (∀ f a b, ¬ ((30 ≤ f ∧ f ≤ 51) ∧ a = 12 + s) → gI D f a b = gI C f a b) → (∀ f a b, gL D f a b = gL C f a b) → (∀ f a b, gR D f a b = gR C f a b) → gI D 30 (12 + s) 0 = s → (∀ M, SimB k n ls none none C M → gI D 31 (12 + s) 0 = gI M 110 25 (12 + s)) → wp_X7_makeSet_69 po (some p) key c (w : Int) (s : Int) (some (12 + s)) D := by
              intro D tg hT htg hI hLL hR h30 h31
              have e31 := h31 M0 h
              have b0 := (h.thing (12 + s) (by omega)).2.1
              have b1 := (h.thing (12 + s) (by omega)).2.2.1
              obtain ⟨C', c1, c2, c3, c4, v33, v31, v32, v34, v35, v36, v37, v38, v39, v45, v46, v48, run⟩ := s69 (D := D) (s := s) (p := p) (key := key) (way := (w : Int)) (c := c) hs hkey hc h30 (by omega)
              have cI : ∀ f a b, ¬ ((30 ≤ f ∧ f ≤ 51) ∧ a = 12 + s) → gI C' f a b = gI C f a b := fun f a b hf => by rw [c2 f a b (by omega), hI f a b hf]
              refine run po (hpo _ C' ⟨fun f a b hf => cI f a b (by omega), fun f a b _ => by rw [c3, hLL]⟩ (fun M hM => ?_))
              obtain ⟨M', x, m24, m26, m27, m28, m29, m30, m31, m38, mrow, runM⟩ := s177 (M := M) (s := s) (p := p) (key := key) (way := (w : Int)) (c := c) hp16 hkey hc hc0 (lM M hM)
              have hpr := hM.2.2.2.2.2.1 p hp
              have hT31 := h31 M hM
              have d11 : gI D 11 p 0 = gI M 110 1 p := by rw [hI 11 p 0 (by omega)]; exact hpr.2.1
              have d12 : gI D 12 p 0 = gI M 110 2 p := by rw [hI 12 p 0 (by omega)]; exact hpr.2.2.1
              have m25 : gI M' 110 25 (12 + s) = gI M 110 25 (12 + s) := x.2.1 110 25 _ (by unfold Lop; omega)
              obtain ⟨th1, th2, th3, -⟩ := hM.thing (12 + s) (by omega)
              have hrt : ∀ a, rt C' a = if a = 12 + s then some (12 + s) else rt C a := by
                intro a
                unfold rt
                by_cases za : a < 12
                · rw [if_pos za, if_pos za, c4, hR, if_neg (by omega), if_neg (by omega)]
                · rw [if_neg za, if_neg za, c4, hR]
                  by_cases zs : a = 12 + s
                  · rw [if_pos ⟨rfl, rfl, by omega⟩, if_pos zs]
                  · rw [if_neg (by omega), if_neg zs]
              have hsim : SimB k n ls none none C' M' := by
                refine hM.opened (by omega) hno (by rw [c1, hT]) htg (fun f a b hf => cI f a b (by omega)) (fun f a b => by rw [c3, hLL]) (fun f a b hf => by rw [c4, hR, if_neg (by omega)]) (fun s' i => Or.inl (by rw [c4, hR, if_neg (by omega)])) hrt x ⟨Or.inr (by rw [hrt, if_pos rfl]), by rw [m25]; exact th2, by rw [m25]; exact th3, fun z => ?_, fun _ => ?_, fun _ z => ?_, fun _ => ?_⟩ (fun z => by omega) (fun _ => ?_)
                · rw [hrt, if_pos rfl] at z; cases z
                · rw [c2 30 _ 0 (by omega), h30, show (12 + s) % 12 = s by omega]
                · rw [v32] at z; exact absurd z (by decide)
                · rw [m24, m25, m26, m27, m28, m29, m30, m31, v31, v33, v34, v35, v36, v37, v38, v39, hT31, d11, d12, show (12 + s) % 12 = s by omega]
                  exact ⟨rfl, rfl, rfl, rfl, rfl, rfl, rfl, rfl, rfl, hwm.1, hwm.2⟩
                · rw [show 12 + s - 12 = s by omega]
                  intro _
                  rw [v45, m38]
                  refine ⟨rfl, by omega, by omega, fun y hy => ?_⟩
                  obtain ⟨q1, q2, q3⟩ := mrow y (by omega)
                  rw [(v46 y (by omega)).1, (v46 y (by omega)).2, q1, q2]
                  refine ⟨rfl, by decide, by decide, rfl, fun q hq => ?_⟩
                  rw [v48 _ (by omega), q3 q hq]
                  exact ⟨rfl, by decide, by decide⟩
              rw [hT31]
              exact ⟨uI M' 110 4 p ((s : Int) + 12 * gI M 110 25 (12 + s)), fun po2 hpo2 => mod2 M hM po2 (fun z => absurd hmk z) (fun _ => runM po2 hpo2), (x.ceq (by unfold Lop; omega)).uI _ _ _ _ (by decide), n, ls, SimB.tell hsim (Or.inl rfl)⟩
            refine cls2 po (fun z => absurd hmk z) (fun _ => ?_)
            unfold wp_X7_makeSet
            rw [hc]
            refine ⟨fun _ => sp_free kq h.rootT (fun s' hL' => ?_) (fun z => absurd (z s hs) hL.2.1), fun z => absurd z hc0⟩
            have es : s' = s := least_uniq hL' hL (fun _ _ => Iff.rfl)
            subst es
            rw [ns, Int.toNat_natCast, show nm 12 = 12 by decide]
            refine ⟨fun z => absurd z (by omega), fun _ => ⟨fun _ => ⟨by omega, ?_⟩, fun z => absurd z (by omega)⟩⟩
            rintro _ rfl
            have hrs := h.rootT (12 + s') (by omega)
            rw [rt_hi C s'] at hrs
            refine ⟨fun z => ⟨?_, ?_⟩, fun a z => ?_⟩
            · intro tt htt hin
              rw [ns, Int.toNat_natCast] at htt
              obtain ⟨kk, a⟩ := tt
              have hkk : (20 ≤ kk ∧ kk ≤ 26) ∧ a = 12 + s' := by
                unfold tgSet at htt
                simp only [List.mem_cons, Prod.mk.injEq, List.not_mem_nil, or_false] at htt
                omega
              have := ((h.2.2.2.1 kk a hin).2.2 hkk.1).2
              rw [hkk.2, rt_hi C s', z] at this; cases this
            · rintro _ ⟨ad, rfl⟩
              refine fin _ (tgSet (12 + s')) (tg_mkCounterSet C s' ad hs) (fun kk a ha => ?_) (fun f a b hf => ?_) (fun _ _ _ => rfl) (fun f a b => rfl) ?_ (fun M hM => ?_)
              · unfold tgSet at ha
                simp only [List.mem_cons, Prod.mk.injEq, List.not_mem_nil, or_false] at ha; omega
              · rw [gI_mkCounterSet C s' ad hs, if_neg (by omega), if_neg (by omega)]
              · rw [gI_mkCounterSet C s' ad hs, if_pos ⟨rfl, rfl, rfl⟩]
              · rw [gI_mkCounterSet C s' ad hs, if_neg (by omega), if_pos ⟨by decide, by decide, rfl⟩]
                exact (((hM.thing (12 + s') (by omega)).2.2.2.1 (by rw [rt_hi C s']; exact z)).2).symm
            · have ha : a = 12 + s' := by
                rcases hrs with y | y
                · rw [y] at z; cases z
                · rw [y] at z; exact (Option.some.inj z).symm
              subst ha
              refine ⟨by omega, fin C [] (by simp) (fun kk a ha => absurd ha (by simp)) (fun _ _ _ _ => rfl) (fun _ _ _ => rfl) (fun f a b => rfl) ?_ (fun M hM => ?_)⟩
              · have := (h.thing (12 + s') (by omega)).2.2.2.2.1 (by rw [rt_hi C s']; exact z)
                rw [this, show (12 + s') % 12 = s' by omega]
              · have h32 : gI C 32 (12 + s') 0 = 0 := by
                  rcases Classical.em (gI C 32 (12 + s') 0 = 0) with y | y
                  · exact y
                  · exact absurd ⟨by rw [rt_hi C s']; exact z, y⟩ hno
                exact ((hM.thing (12 + s') (by omega)).2.2.2.2.2.1 (by rw [rt_hi C s']; exact z) h32).2
          · -- no slot is free
            have hall' : ∀ s, s < 12 → hre C (12 + s) := fun s hs => Classical.not_not.mp (hall s hs)
            refine MainW.refuse (Nat.le_refl _) (-9) (fun po hpo => cls2 po (fun z => absurd hmk z) (fun _ => ?_)) (fun M hM po hpo => mod2 M hM po (fun z => absurd hmk z) (fun _ => ?_))
            · unfold wp_X7_makeSet
              rw [hc]
              exact ⟨fun _ => sp_free kq h.rootT (fun s hL => absurd (hall' s hL.1) hL.2.1) (fun _ => ⟨fun _ => hpo, fun z => absurd z (by decide)⟩), fun z => absurd z hc0⟩
            · unfold wp_X8_set_177
              rw [hc]
              exact ⟨fun _ => sp_freeM (b := 12) (Or.inr rfl) (fun s hL => absurd hL.2.1 (fun y => absurd (hall' s hL.1) ((fr_M hM (Or.inr rfl) s hL.1).mpr y))) (fun _ => ⟨fun z => absurd rfl z, fun _ => sp_tells hp16 hpo⟩), fun z => absurd z hc0⟩
      · exact MainW.refuse (Nat.le_refl _) (-8) (fun po hpo => cls2 po (fun _ => hpo) (fun z => absurd z hmk)) (fun M hM po hpo => mod2 M hM po (fun _ => sp_tells hp16 hpo) (fun z => absurd z hmk))
  · refine MainW.refuse (Nat.le_refl _) (-4) (fun po hpo => ?_) (fun M hM po hpo => ?_)
    · unfold wp_X7_openSet
      rw [sp_isWithin hkey n1]
      refine ⟨fun _ => hpo, fun z1 => ?_⟩
      rw [sp_isWithin hc n8]
      refine ⟨fun _ => hpo, fun z2 => ?_⟩
      rw [sp_isWithin hway n2]
      exact ⟨fun z3 => absurd ⟨(nz_bI _).mp z1, (nz_bI _).mp z2, (nz_bI _).mp z3⟩ hok, fun _ => hpo⟩
    · show setI po (p : Int) key c way M
      unfold setI
      rw [hkey, hway, hc, sp_in (nmL_of hkey) l0 l1]
      refine ⟨fun _ => sp_tells hp16 hpo, fun z1 => ?_⟩
      rw [sp_in (nmL_of hway) l0 l2]
      refine ⟨fun _ => sp_tells hp16 hpo, fun z2 => ?_⟩
      rw [sp_in (nmL_of hc) l0 l8]
      exact ⟨fun z3 => absurd ⟨(nz_bI _).mp z1, (nz_bI _).mp z3, (nz_bI _).mp z2⟩ hok, fun _ => sp_tells hp16 hpo⟩
