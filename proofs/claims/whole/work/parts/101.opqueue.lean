/-! LAYER 2: queue -/
theorem sp_onlyNew {w : Nat} {C : St} {po : Int → St → Prop} (hw : w < 2048) (h1 : zand (w : Int) 1536 = 1536 → po 1 C) (h0 : zand (w : Int) 1536 ≠ 1536 → po 0 C) : wp_X7_isOnlyNew (w : Int) C po := by
  have b := bits_w2 w hw
  unfold wp_X7_isOnlyNew
  rw [nm_zand, nm_zand]
  exact ⟨fun z => h0 (fun y => (b.mp y).1 z), fun z => ⟨fun y => h0 (fun v => (b.mp v).2 y), fun y => h1 (b.mpr ⟨z, y⟩)⟩⟩
theorem sp_isMade {key way : Int} {C : St} {po : Int → St → Prop} (hkey : nm key = key) (h1 : (key = 0 ∨ zand way 512 ≠ 0) → po 1 C) (h0 : ¬ (key = 0 ∨ zand way 512 ≠ 0) → po 0 C) : wp_X7_isMade key way C po := by
  unfold wp_X7_isMade
  rw [hkey, nm_zand]
  exact ⟨fun z => h1 (Or.inl z), fun z => ⟨fun y => h0 (fun v => v.elim z (fun u => u y)), fun y => h1 (Or.inr y)⟩⟩
/-- a queue of the class begins, at a slot where its object is -/
theorem q62 {D : St} {s p : Nat} {key way : Int} (hs : s < 12) (hkey : nm key = key) (h30 : gI D 30 s 0 = s) (h31 : 0 ≤ gI D 31 s 0 ∧ gI D 31 s 0 ≤ 65536) :
    ∃ C', C'.2.1 = D.2.1 ∧ (∀ f a b, ¬ ((31 ≤ f ∧ f ≤ 42) ∧ a = s) → gI C' f a b = gI D f a b) ∧ (∀ f a b, gL C' f a b = gL D f a b) ∧ (∀ f a b, gR C' f a b = if f = 2 ∧ a = 0 ∧ b = s then some s else gR D f a b) ∧
      gI C' 33 s 0 = (s : Int) + 12 * gI D 31 s 0 ∧ gI C' 31 s 0 = gI D 31 s 0 + 1 ∧ gI C' 32 s 0 = 1 ∧ gI C' 34 s 0 = key ∧ gI C' 35 s 0 = gI D 11 p 0 ∧ gI C' 36 s 0 = gI D 12 p 0 ∧ gI C' 37 s 0 = gI D 11 p 0 ∧ gI C' 38 s 0 = gI D 12 p 0 ∧ gI C' 39 s 0 = zand way 511 ∧ gI C' 40 s 0 = 0 ∧ gI C' 41 s 0 = 0 ∧ gI C' 42 s 0 = 256 ∧
      ∀ po : Int → St → Prop, po ((s : Int) + 12 * gI D 31 s 0) C' → wp_X7_makeQueue_62 po (some p) key way (s : Int) (some s) D := by
  have ns : nm (s : Int) = s := nm_nat (n := 12) hs (by omega)
  have eD : ∀ f a b, gI (uR D 2 0 s (some s)) f a b = gI D f a b := fun _ _ _ => rfl
  obtain ⟨C1, x, v33, v31, v32, v34, v35, v36, v37, v38, v39, run⟩ := sp_begin (D := uR D 2 0 s (some s)) (t := s) (p := p) (key := key) (md := zand way 511) hkey (nm_zand _ _) (by rw [eD, eD, h30]; exact nm_id (by omega)) (by rw [eD]; exact nm_id (by omega))
  simp only [eD] at v33 v31 v35 v36 v37 v38 run
  rw [h30] at v33
  have e : ∀ f b, f < 40 → gI (uI (uI (uI C1 40 s 0 0) 41 s 0 0) 42 s 0 256) f s b = gI C1 f s b := fun f b hf => by rw [gI_uI, if_neg (by omega), gI_uI, if_neg (by omega), gI_uI, if_neg (by omega)]
  refine ⟨uI (uI (uI C1 40 s 0 0) 41 s 0 0) 42 s 0 256, x.1, fun f a b hf => ?_, fun f a b => ?_, fun f a b => ?_, ?_, ?_, ?_, ?_, ?_, ?_, ?_, ?_, ?_, ?_, ?_, ?_, fun po hpo => ?_⟩
  · rw [gI_uI, if_neg (by omega), gI_uI, if_neg (by omega), gI_uI, if_neg (by omega), x.2.1 f a b (by unfold Lbg; omega)]; rfl
  · rw [gL_uI, gL_uI, gL_uI, x.2.2.1]; rfl
  · rw [gR_uI, gR_uI, gR_uI, x.2.2.2]; rfl
  · rw [e 33 0 (by decide)]; exact v33
  · rw [e 31 0 (by decide)]; exact v31
  · rw [e 32 0 (by decide)]; exact v32
  · rw [e 34 0 (by decide)]; exact v34
  · rw [e 35 0 (by decide)]; exact v35
  · rw [e 36 0 (by decide)]; exact v36
  · rw [e 37 0 (by decide)]; exact v37
  · rw [e 38 0 (by decide)]; exact v38
  · rw [e 39 0 (by decide)]; exact v39
  · rw [gI_uI, if_neg (by omega), gI_uI, if_neg (by omega), gI_uI, if_pos ⟨rfl, rfl, rfl⟩, n0]
  · rw [gI_uI, if_neg (by omega), gI_uI, if_pos ⟨rfl, rfl, rfl⟩, n0]
  · rw [gI_uI, if_pos ⟨rfl, rfl, rfl⟩]; decide
  · unfold wp_X7_makeQueue_62
    rw [ns, Int.toNat_natCast]
    refine ⟨by omega, ?_⟩
    rintro _ rfl
    refine ⟨s, rfl, hs, run _ ?_⟩
    unfold wp_X3_empty
    refine ⟨hs, ?_⟩
    rintro _ rfl _ rfl _ rfl
    rw [e 33 0 (by decide), v33]
    exact hpo
theorem gI_mkQueue (C : St) (s q1 q2 : Nat) (hs : s < 12) (f a b : Nat) : gI (mkQueue C (s : Int) q1 q2) f a b = if f = 30 ∧ a = s ∧ b = 0 then (s : Int) else if f = 42 ∧ a = s ∧ b = 0 then 256 else if 30 ≤ f ∧ f ≤ 42 ∧ a = s then 0 else gI C f a b := by
  have ns : nm (s : Int) = s := nm_nat (n := 12) hs (by omega)
  unfold gI mkQueue
  rw [ns, Int.toNat_natCast]
  dsimp only
  split
  · exact ns
  · split
    · decide
    · split
      · decide
      · rfl
theorem gR_mkQueue (C : St) (s q1 q2 : Nat) (hs : s < 12) (f a b : Nat) : gR (mkQueue C (s : Int) q1 q2) f a b = if f = 11 ∧ a = s then none else gR C f a b := by
  have ns : nm (s : Int) = s := nm_nat (n := 12) hs (by omega)
  unfold gR mkQueue
  rw [ns, Int.toNat_natCast]
theorem tg_mkQueue (C : St) (s q1 q2 : Nat) (hs : s < 12) : (mkQueue C (s : Int) q1 q2).2.1 = C.2.1 ++ [(20, s), (21, s)] := by
  have ns : nm (s : Int) = s := nm_nat (n := 12) hs (by omega)
  unfold mkQueue
  rw [ns, Int.toNat_natCast]
/-- the model makes a queue -/
theorem q138 {M : St} {s p : Nat} {key way : Int} (hp : p < 16) (hkey : nm key = key) (hL : Least (fun x => gI M 110 24 (0 + x) = 0) s) :
    ∃ M', XI (Lop s) M M' ∧ gI M' 110 24 s = 1 ∧ gI M' 110 26 s = key ∧ gI M' 110 27 s = gI M 110 1 p ∧ gI M' 110 28 s = gI M 110 2 p ∧ gI M' 110 29 s = gI M 110 1 p ∧ gI M' 110 30 s = gI M 110 2 p ∧ gI M' 110 31 s = zand way 511 ∧ gI M' 110 32 s = 0 ∧ gI M' 110 33 s = 256 ∧ gI M' 110 34 s = 0 ∧
      ∀ po : Int → St → Prop, po ((s : Int) + 12 * gI M 110 25 s) (uI M' 110 4 p ((s : Int) + 12 * gI M 110 25 s)) → wp_X8_queue_138 po (p : Int) key way M := by
  have hs : s < 12 := hL.1
  have ns : nm (s : Int) = s := nm_nat (n := 12) hs (by omega)
  obtain ⟨M1, x, v24, v26, v27, v28, v29, v30, v31, run⟩ := sp_make (M := M) (t := s) (p := p) (key := key) (way := way) hp (by omega) hkey
  have e : ∀ a, a ≠ 32 → a ≠ 33 → a ≠ 34 → gI (uI (uI (uI M1 110 32 s 0) 110 33 s 256) 110 34 s 0) 110 a s = gI M1 110 a s := fun a h1 h2 h3 => by rw [gI_uI, if_neg (by omega), gI_uI, if_neg (by omega), gI_uI, if_neg (by omega)]
  have xx : XI (Lop s) M (uI (uI (uI M1 110 32 s 0) 110 33 s 256) 110 34 s 0) := (((x.mono (by unfold LmkM Lop; omega)).uI _ (by unfold Lop; omega)).uI _ (by unfold Lop; omega)).uI _ (by unfold Lop; omega)
  refine ⟨uI (uI (uI M1 110 32 s 0) 110 33 s 256) 110 34 s 0, xx, by rw [e 24 (by decide) (by decide) (by decide)]; exact v24, by rw [e 26 (by decide) (by decide) (by decide)]; exact v26, by rw [e 27 (by decide) (by decide) (by decide)]; exact v27, by rw [e 28 (by decide) (by decide) (by decide)]; exact v28, by rw [e 29 (by decide) (by decide) (by decide)]; exact v29, by rw [e 30 (by decide) (by decide) (by decide)]; exact v30, by rw [e 31 (by decide) (by decide) (by decide)]; exact v31, ?_, ?_, ?_, fun po hpo => ?_⟩
  · rw [gI_uI, if_neg (by omega), gI_uI, if_neg (by omega), gI_uI, if_pos ⟨rfl, rfl, rfl⟩, n0]
  · rw [gI_uI, if_neg (by omega), gI_uI, if_pos ⟨rfl, rfl, rfl⟩]; decide
  · rw [gI_uI, if_pos ⟨rfl, rfl, rfl⟩, n0]
  · unfold wp_X8_queue_138
    refine sp_freeM (b := 0) (Or.inl rfl) (fun s' hL' => ?_) (fun z => absurd hL.2.1 (z s hs))
    have es : s' = s := least_uniq hL' hL (fun x _ => Iff.rfl)
    subst es
    rw [Nat.zero_add]
    refine ⟨fun _ => run _ ?_, fun z => absurd z (by rw [ns, nm_m1]; omega)⟩
    rw [ns, Int.toNat_natCast]
    refine ⟨by omega, ?_⟩
    rintro _ rfl
    refine ⟨by omega, ?_⟩
    rintro _ rfl
    refine ⟨by omega, ?_⟩
    rintro _ rfl
    refine sp_idOf (by omega) (sp_tells hp ?_)
    rw [xx.2.1 110 25 s' (by unfold Lop; omega), show s' % 12 = s' by omega]
    exact hpo
theorem op_queue {k n : Nat} {ls : List Nat} {C M0 : St} {x key way : Int} (hk : k ≤ 65536) (hx : nm x = x) (hkey : nm key = key) (hway : nm way = way) (h : SimB k n ls none none C M0) : LockW k k n ls (wp_X7_queue x key way C) C (fun M => wp_X8_queue x key way M) := by
  delta wp_X7_queue wp_X8_queue
  refine caller_lockW (ic := fun a s po => wp_X7_openQueue (some a) key way s po) (Nat.le_refl _) hx h (fun p hp ex hf hw hnl => ?_)
  subst ex
  have hr := h.1
  have hp16 : p < 16 := by have := hr.1; omega
  have n1 : nm 1000000 = 1000000 := by decide
  have n2 : nm 2047 = 2047 := by decide
  have n3 : nm 1536 = 1536 := by decide
  have l0 : nmL 0 = 0 := by decide
  have l1 : nmL 1000000 = 1000000 := by decide
  have l2 : nmL 2047 = 2047 := by decide
  have kq : kb 2 0 := Or.inl ⟨rfl, rfl⟩
  by_cases hok1 : 0 ≤ key ∧ key ≤ 1000000
  · by_cases hok2 : 0 ≤ way ∧ way ≤ 2047
    · obtain ⟨w, rfl⟩ : ∃ w : Nat, way = w := ⟨way.toNat, by omega⟩
      have hw2 : w < 2048 := by omega
      obtain ⟨hwr, hwm⟩ := bits_w3 w hw2
      -- class and model, to the lookup
      have cls : ∀ po : Int → St → Prop, wp_X7_thingByKey 2 (some 0) key C (fun o101 s103 => (o101 = none → wp_X7_isMade key (w : Int) s103 (fun r103 s104 => (nm r103 = 0 → po (-8) s104) ∧
 (nm r103 ≠ 0 → wp_X7_makeQueue (some p) key (w : Int) s104 (fun r104 s105 => po r104 s105)))) ∧
 (∀ a101, o101 = some a101 → wp_X7_isOnlyNew (w : Int) s103 (fun r105 s106 => (nm r105 = 0 → wp_X7_wanted (w : Int) s106 (fun r106 s107 => wp_X5_grantsAll a101 (some p) r106 s107 (fun r107 s108 => (nm r107 = 0 → po (-6) s108) ∧
 (nm r107 ≠ 0 → po (gI s108 33 a101 0) s108)))) ∧
 (nm r105 ≠ 0 → po (-7) s106)))) → wp_X7_openQueue (some p) key (w : Int) C po := by
        intro po hgo
        unfold wp_X7_openQueue
        rw [sp_isWithin hkey n1]
        refine ⟨fun z => absurd hok1 ((ez_bI _).mp z), fun _ => ?_⟩
        rw [sp_isWithin hway n2]
        exact ⟨fun _ => hgo, fun z => absurd hok2 ((ez_bI _).mp z)⟩
      have mod : ∀ M, SimB k n ls none none C M → ∀ po : Int → St → Prop, (wp_X8_withKey key 0 M (fun r106 s106 => (nm r106 = nm (-1) → (key = 0 → wp_X8_queue_138 po (p : Int) key (w : Int) s106) ∧
 (key ≠ 0 → (nm (zand (w : Int) 512) ≠ 0 → wp_X8_queue_138 po (p : Int) key (w : Int) s106) ∧
 (nm (zand (w : Int) 512) = 0 → wp_X8_tells (p : Int) (-8) s106 (fun r111 s115 => po r111 s115)))) ∧
 (nm r106 ≠ nm (-1) → (nm (zand (w : Int) 1536) ≠ nm 1536 → wp_X8_wanted (w : Int) s106 (fun r112 s116 => wp_X8_hasAll (p : Int) r106 r112 s116 (fun r113 s117 => (nm r113 = 0 → wp_X8_tells (p : Int) (-6) s117 (fun r114 s118 => po r114 s118)) ∧
 (nm r113 ≠ 0 → wp_X8_idOf r106 s117 (fun r115 s119 => wp_X8_tells (p : Int) r115 s119 (fun r116 s120 => po r116 s120)))))) ∧
 (nm (zand (w : Int) 1536) = nm 1536 → wp_X8_tells (p : Int) (-7) s106 (fun r117 s121 => po r117 s121))))) → wp_X8_in (nm key) 0 1000000 M (fun r103 s103 => (nm r103 = 0 → wp_X8_tells (p : Int) (-4) s103 (fun r104 s104 => po r104 s104)) ∧
 (nm r103 ≠ 0 → wp_X8_in (nm (w : Int)) 0 2047 s103 (fun r105 s105 => (nm r105 ≠ 0 → wp_X8_withKey key 0 s105 (fun r106 s106 => (nm r106 = nm (-1) → (nm key = 0 → wp_X8_queue_138 po (p : Int) key (w : Int) s106) ∧
 (nm key ≠ 0 → (nm (zand (w : Int) 512) ≠ 0 → wp_X8_queue_138 po (p : Int) key (w : Int) s106) ∧
 (nm (zand (w : Int) 512) = 0 → wp_X8_tells (p : Int) (-8) s106 (fun r111 s115 => po r111 s115)))) ∧
 (nm r106 ≠ nm (-1) → (nm (zand (w : Int) 1536) ≠ nm 1536 → wp_X8_wanted (w : Int) s106 (fun r112 s116 => wp_X8_hasAll (p : Int) r106 r112 s116 (fun r113 s117 => (nm r113 = 0 → wp_X8_tells (p : Int) (-6) s117 (fun r114 s118 => po r114 s118)) ∧
 (nm r113 ≠ 0 → wp_X8_idOf r106 s117 (fun r115 s119 => wp_X8_tells (p : Int) r115 s119 (fun r116 s120 => po r116 s120)))))) ∧
 (nm (zand (w : Int) 1536) = nm 1536 → wp_X8_tells (p : Int) (-7) s106 (fun r117 s121 => po r117 s121))))) ∧
 (nm r105 = 0 → wp_X8_tells (p : Int) (-4) s105 (fun r118 s122 => po r118 s122))))) := by
        intro M hM po hgo
        rw [hkey, hway, sp_in (nmL_of hkey) l0 l1]
        refine ⟨fun z => absurd hok1 ((ez_bI _).mp z), fun _ => ?_⟩
        rw [sp_in (nmL_of hway) l0 l2]
        exact ⟨fun _ => hgo, fun z => absurd hok2 ((ez_bI _).mp z)⟩
      rcases least_or (PK C 0 key) with ⟨s, hL⟩ | hnone
      · -- one is there
        have hs := hL.1
        have hh : hre C s := by have := hL.2.1.2.1; rwa [Nat.zero_add] at this
        have ns : nm (s : Int) = s := nm_nat (n := 12) hs (by omega)
        have lM : ∀ M, SimB k n ls none none C M → Least (PKM M 0 key) s := fun M hM => ⟨hs, (pk_M hM (Or.inl rfl) s hs).mp hL.2.1, fun s' hs' w => hL.2.2 s' hs' ((pk_M hM (Or.inl rfl) s' (by omega)).mpr w)⟩
        have cls2 : ∀ po : Int → St → Prop, wp_X7_isOnlyNew (w : Int) C (fun r105 s106 => (nm r105 = 0 → wp_X7_wanted (w : Int) s106 (fun r106 s107 => wp_X5_grantsAll s (some p) r106 s107 (fun r107 s108 => (nm r107 = 0 → po (-6) s108) ∧
 (nm r107 ≠ 0 → po (gI s108 33 s 0) s108)))) ∧
 (nm r105 ≠ 0 → po (-7) s106)) → wp_X7_openQueue (some p) key (w : Int) C po := by
          intro po hgo
          refine cls po (sp_byKey kq h.rootT hkey (fun s' hL' => ?_) (fun z => absurd hL.2.1 (z s hs)))
          have es : s' = s := least_uniq hL' hL (fun _ _ => Iff.rfl)
          subst es
          rw [Nat.zero_add]
          refine ⟨fun z => (by cases z), ?_⟩
          rintro _ ⟨rfl⟩
          exact hgo
        have mod2 : ∀ M, SimB k n ls none none C M → ∀ po : Int → St → Prop, ((nm (zand (w : Int) 1536) ≠ nm 1536 → wp_X8_wanted (w : Int) M (fun r112 s116 => wp_X8_hasAll (p : Int) (s : Int) r112 s116 (fun r113 s117 => (nm r113 = 0 → wp_X8_tells (p : Int) (-6) s117 (fun r114 s118 => po r114 s118)) ∧
 (nm r113 ≠ 0 → wp_X8_idOf (s : Int) s117 (fun r115 s119 => wp_X8_tells (p : Int) r115 s119 (fun r116 s120 => po r116 s120)))))) ∧
 (nm (zand (w : Int) 1536) = nm 1536 → wp_X8_tells (p : Int) (-7) M (fun r117 s121 => po r117 s121))) → wp_X8_in (nm key) 0 1000000 M (fun r103 s103 => (nm r103 = 0 → wp_X8_tells (p : Int) (-4) s103 (fun r104 s104 => po r104 s104)) ∧
 (nm r103 ≠ 0 → wp_X8_in (nm (w : Int)) 0 2047 s103 (fun r105 s105 => (nm r105 ≠ 0 → wp_X8_withKey key 0 s105 (fun r106 s106 => (nm r106 = nm (-1) → (nm key = 0 → wp_X8_queue_138 po (p : Int) key (w : Int) s106) ∧
 (nm key ≠ 0 → (nm (zand (w : Int) 512) ≠ 0 → wp_X8_queue_138 po (p : Int) key (w : Int) s106) ∧
 (nm (zand (w : Int) 512) = 0 → wp_X8_tells (p : Int) (-8) s106 (fun r111 s115 => po r111 s115)))) ∧
 (nm r106 ≠ nm (-1) → (nm (zand (w : Int) 1536) ≠ nm 1536 → wp_X8_wanted (w : Int) s106 (fun r112 s116 => wp_X8_hasAll (p : Int) r106 r112 s116 (fun r113 s117 => (nm r113 = 0 → wp_X8_tells (p : Int) (-6) s117 (fun r114 s118 => po r114 s118)) ∧
 (nm r113 ≠ 0 → wp_X8_idOf r106 s117 (fun r115 s119 => wp_X8_tells (p : Int) r115 s119 (fun r116 s120 => po r116 s120)))))) ∧
 (nm (zand (w : Int) 1536) = nm 1536 → wp_X8_tells (p : Int) (-7) s106 (fun r117 s121 => po r117 s121))))) ∧
 (nm r105 = 0 → wp_X8_tells (p : Int) (-4) s105 (fun r118 s122 => po r118 s122))))) := by
          intro M hM po hgo
          refine mod M hM po (sp_withKey (b := 0) (Or.inl rfl) hkey (fun s' hL' => ?_) (fun z => absurd (lM M hM).2.1 (z s hs)))
          have es : s' = s := least_uniq hL' (lM M hM) (fun _ _ => Iff.rfl)
          subst es
          rw [Nat.zero_add]
          exact ⟨fun z => absurd z (by rw [ns, nm_m1]; omega), fun _ => hgo⟩
        by_cases hon : zand (w : Int) 1536 = 1536
        · refine MainW.refuse (Nat.le_refl _) (-7) (fun po hpo => cls2 po (sp_onlyNew hw2 (fun _ => ⟨fun z => absurd z (by decide), fun _ => hpo⟩) (fun z => absurd hon z))) (fun M hM po hpo => mod2 M hM po ⟨fun z => ?_, fun _ => sp_tells hp16 hpo⟩)
          rw [nm_zand, n3] at z; exact absurd hon z
        · by_cases hg : graC C s p (zand (zor (zor (zshr (w : Int) 6) (zshr (w : Int) 3)) (w : Int)) 7)
          · refine MainW.refuse (Nat.le_refl _) (gI C 33 s 0) (fun po hpo => cls2 po (sp_onlyNew hw2 (fun z => absurd z hon) (fun _ => ⟨fun _ => ?_, fun z => absurd n0 z⟩))) (fun M hM po hpo => mod2 M hM po ⟨fun _ => ?_, fun z => ?_⟩)
            · unfold wp_X7_wanted
              exact sp_grantsAll hwr (h.md (by omega) hh) (fun _ => ⟨fun z => absurd z (by decide), fun _ => hpo⟩) (fun z => absurd hg z)
            · unfold wp_X8_wanted
              refine sp_hasAll hp16 (by omega) (mayCM hM (by omega) hp hh) (fun _ => ⟨fun z => absurd z (by decide), fun _ => sp_idOf (by omega) (sp_tells hp16 ?_)⟩) (fun z => absurd hg z)
              have e33 := ((hM.thing s (by omega)).2.2.2.2.2.2 hh).2.2.1
              rw [← e33]; exact hpo
            · rw [nm_zand, n3] at z; exact absurd z hon
          · refine MainW.refuse (Nat.le_refl _) (-6) (fun po hpo => cls2 po (sp_onlyNew hw2 (fun z => absurd z hon) (fun _ => ⟨fun _ => ?_, fun z => absurd n0 z⟩))) (fun M hM po hpo => mod2 M hM po ⟨fun _ => ?_, fun z => ?_⟩)
            · unfold wp_X7_wanted
              exact sp_grantsAll hwr (h.md (by omega) hh) (fun z => absurd z hg) (fun _ => ⟨fun _ => hpo, fun z => absurd n0 z⟩)
            · unfold wp_X8_wanted
              exact sp_hasAll hp16 (by omega) (mayCM hM (by omega) hp hh) (fun z => absurd z hg) (fun _ => ⟨fun _ => sp_tells hp16 hpo, fun z => absurd n0 z⟩)
            · rw [nm_zand, n3] at z; exact absurd z hon
      · -- none is there
        have nM : ∀ M, SimB k n ls none none C M → ∀ s, s < 12 → ¬ PKM M 0 key s := fun M hM s hs z => hnone s hs ((pk_M hM (Or.inl rfl) s hs).mpr z)
        have cls2 : ∀ po : Int → St → Prop, (¬ (key = 0 ∨ zand (w : Int) 512 ≠ 0) → po (-8) C) → ((key = 0 ∨ zand (w : Int) 512 ≠ 0) → wp_X7_makeQueue (some p) key (w : Int) C (fun r104 s105 => po r104 s105)) → wp_X7_openQueue (some p) key (w : Int) C po := by
          intro po k0 k1
          refine cls po (sp_byKey kq h.rootT hkey (fun s hL => absurd hL.2.1 (hnone s hL.1)) (fun _ => ⟨fun _ => sp_isMade hkey (fun z => ⟨fun y => absurd y (by decide), fun _ => k1 z⟩) (fun z => ⟨fun _ => k0 z, fun y => absurd n0 y⟩), fun a z => (by cases z)⟩))
        have mod2 : ∀ M, SimB k n ls none none C M → ∀ po : Int → St → Prop, (¬ (key = 0 ∨ zand (w : Int) 512 ≠ 0) → wp_X8_tells (p : Int) (-8) M (fun r111 s115 => po r111 s115)) → ((key = 0 ∨ zand (w : Int) 512 ≠ 0) → wp_X8_queue_138 po (p : Int) key (w : Int) M) → wp_X8_in (nm key) 0 1000000 M (fun r103 s103 => (nm r103 = 0 → wp_X8_tells (p : Int) (-4) s103 (fun r104 s104 => po r104 s104)) ∧
 (nm r103 ≠ 0 → wp_X8_in (nm (w : Int)) 0 2047 s103 (fun r105 s105 => (nm r105 ≠ 0 → wp_X8_withKey key 0 s105 (fun r106 s106 => (nm r106 = nm (-1) → (nm key = 0 → wp_X8_queue_138 po (p : Int) key (w : Int) s106) ∧
 (nm key ≠ 0 → (nm (zand (w : Int) 512) ≠ 0 → wp_X8_queue_138 po (p : Int) key (w : Int) s106) ∧
 (nm (zand (w : Int) 512) = 0 → wp_X8_tells (p : Int) (-8) s106 (fun r111 s115 => po r111 s115)))) ∧
 (nm r106 ≠ nm (-1) → (nm (zand (w : Int) 1536) ≠ nm 1536 → wp_X8_wanted (w : Int) s106 (fun r112 s116 => wp_X8_hasAll (p : Int) r106 r112 s116 (fun r113 s117 => (nm r113 = 0 → wp_X8_tells (p : Int) (-6) s117 (fun r114 s118 => po r114 s118)) ∧
 (nm r113 ≠ 0 → wp_X8_idOf r106 s117 (fun r115 s119 => wp_X8_tells (p : Int) r115 s119 (fun r116 s120 => po r116 s120)))))) ∧
 (nm (zand (w : Int) 1536) = nm 1536 → wp_X8_tells (p : Int) (-7) s106 (fun r117 s121 => po r117 s121))))) ∧
 (nm r105 = 0 → wp_X8_tells (p : Int) (-4) s105 (fun r118 s122 => po r118 s122))))) := by
          intro M hM po k0 k1
          refine mod M hM po (sp_withKey (b := 0) (Or.inl rfl) hkey (fun s hL => absurd hL.2.1 (nM M hM s hL.1)) (fun _ => ⟨fun _ => ⟨fun z => k1 (Or.inl z), fun z => ⟨fun y => k1 (Or.inr (by rwa [nm_zand] at y)), fun y => k0 (fun v => ?_)⟩⟩, fun z => absurd rfl z⟩))
          rw [nm_zand] at y
          exact v.elim z (fun u => u y)
        by_cases hmk : key = 0 ∨ zand (w : Int) 512 ≠ 0
        · rcases least_or (fun x => ¬ hre C (0 + x)) with ⟨s, hL⟩ | hall
          · -- a slot is free
            have hs := hL.1
            have hno : ¬ hre C s := by have := hL.2.1; dsimp only at this; rwa [Nat.zero_add] at this
            have ns : nm (s : Int) = s := nm_nat (n := 12) hs (by omega)
            have lM : ∀ M, SimB k n ls none none C M → Least (fun x => gI M 110 24 (0 + x) = 0) s := fun M hM => ⟨hs, (fr_M hM (Or.inl rfl) s hs).mp hL.2.1, fun s' hs' w => hL.2.2 s' hs' ((fr_M hM (Or.inl rfl) s' (by omega)).mpr w)⟩
            intro po hpo
            -- what the class does with the object that is there, or with a new one
            have fin : ∀ (D : St) (tg : List (Nat × Nat)), D.2.1 = C.2.1 ++ tg → (∀ kk a, (kk, a) ∈ tg → 20 ≤ kk ∧ kk ≤ 26 ∧ a = s) → (∀ f a b, ¬ ((30 ≤ f ∧ f ≤ 42) ∧ a = s) → gI D f a b = gI C f a b) → (∀ f a b, gL D f a b = gL C f a b) → (∀ f a b, gR D f a b = if f = 11 ∧ a = s ∧ tg ≠ [] then none else gR C f a b) → gI D 30 s 0 = s → (∀ M, SimB k n ls none none C M → gI D 31 s 0 = gI M 110 25 s) → wp_X7_makeQueue_62 po (some p) key (w : Int) (s : Int) (some s) D := by
              intro D tg hT htg hI hLL hR h30 h31
              have e31 := h31 M0 h
              have b0 := (h.thing s (by omega)).2.1
              have b1 := (h.thing s (by omega)).2.2.1
              obtain ⟨C', c1, c2, c3, c4, v33, v31, v32, v34, v35, v36, v37, v38, v39, v40, v41, v42, run⟩ := q62 (D := D) (s := s) (p := p) (key := key) (way := (w : Int)) hs hkey h30 (by omega)
              have cI : ∀ f a b, ¬ ((30 ≤ f ∧ f ≤ 42) ∧ a = s) → gI C' f a b = gI C f a b := fun f a b hf => by rw [c2 f a b (by omega), hI f a b hf]
              refine run po (hpo _ C' ⟨fun f a b hf => cI f a b (by omega), fun f a b _ => by rw [c3, hLL]⟩ (fun M hM => ?_))
              obtain ⟨M', x, m24, m26, m27, m28, m29, m30, m31, m32, m33, m34, runM⟩ := q138 (M := M) (s := s) (p := p) (key := key) (way := (w : Int)) hp16 hkey (lM M hM)
              have hpr := hM.2.2.2.2.2.1 p hp
              have hT31 := h31 M hM
              have d11 : gI D 11 p 0 = gI M 110 1 p := by rw [hI 11 p 0 (by omega)]; exact hpr.2.1
              have d12 : gI D 12 p 0 = gI M 110 2 p := by rw [hI 12 p 0 (by omega)]; exact hpr.2.2.1
              have m25 : gI M' 110 25 s = gI M 110 25 s := x.2.1 110 25 s (by unfold Lop; omega)
              obtain ⟨th1, th2, th3, -⟩ := hM.thing s (by omega)
              have hrt : ∀ a, rt C' a = if a = s then some s else rt C a := by
                intro a
                unfold rt
                by_cases za : a < 12
                · rw [if_pos za, if_pos za, c4, hR]
                  by_cases zs : a = s
                  · rw [if_pos ⟨rfl, rfl, zs⟩, if_pos zs]
                  · rw [if_neg (by omega), if_neg (by omega), if_neg zs]
                · rw [if_neg za, if_neg za, c4, hR, if_neg (by omega), if_neg (by omega), if_neg (by omega)]
              have hsim : SimB k n ls none none C' M' := by
                refine hM.opened (by omega) hno (by rw [c1, hT]) htg (fun f a b hf => cI f a b (by omega)) (fun f a b => by rw [c3, hLL]) (fun f a b hf => by rw [c4, hR, if_neg (by omega), if_neg (by omega)]) (fun s' i => ?_) hrt x ⟨Or.inr (by rw [hrt, if_pos rfl]), by rw [m25]; exact th2, by rw [m25]; exact th3, fun z => ?_, fun _ => ?_, fun _ z => ?_, fun _ => ?_⟩ (fun _ _ => ?_) (fun z => by omega)
                · rw [c4, hR, if_neg (by omega)]
                  by_cases z : (11 : Nat) = 11 ∧ s' = s ∧ tg ≠ []
                  · rw [if_pos z]; exact Or.inr ⟨z.2.1, rfl⟩
                  · rw [if_neg z]; exact Or.inl rfl
                · rw [hrt, if_pos rfl] at z; cases z
                · rw [c2 30 s 0 (by omega), h30, show s % 12 = s by omega]
                · rw [v32] at z; exact absurd z (by decide)
                · rw [m24, m25, m26, m27, m28, m29, m30, m31, v31, v33, v34, v35, v36, v37, v38, v39, hT31, d11, d12, show s % 12 = s by omega]
                  exact ⟨rfl, rfl, rfl, rfl, rfl, rfl, rfl, rfl, rfl, hwm.1, hwm.2⟩
                · rw [v40, v41, v42, m34, m32, m33]
                  exact ⟨rfl, by decide, by decide, rfl, rfl, by decide, by decide, fun i hi => by omega⟩
              rw [hT31]
              exact ⟨uI M' 110 4 p ((s : Int) + 12 * gI M 110 25 s), fun po2 hpo2 => mod2 M hM po2 (fun z => absurd hmk z) (fun _ => runM po2 hpo2), (x.ceq (by unfold Lop; omega)).uI _ _ _ _ (by decide), n, ls, SimB.tell hsim (Or.inl rfl)⟩
            refine cls2 po (fun z => absurd hmk z) (fun _ => ?_)
            unfold wp_X7_makeQueue
            refine sp_free kq h.rootT (fun s' hL' => ?_) (fun z => absurd (z s hs) hL.2.1)
            have es : s' = s := least_uniq hL' hL (fun _ _ => Iff.rfl)
            subst es
            rw [ns, Int.toNat_natCast, show nm 12 = 12 by decide]
            refine ⟨fun z => absurd z (by omega), fun _ => ⟨fun _ => ⟨by omega, ?_⟩, fun z => absurd z (by omega)⟩⟩
            rintro _ rfl
            have hrs := h.rootT s' (by omega)
            rw [rt_lo C hs] at hrs
            refine ⟨fun z => ⟨?_, ?_⟩, fun a z => ?_⟩
            · unfold freeQueue
              rw [ns, Int.toNat_natCast]
              have nt : ∀ kk, 20 ≤ kk → kk ≤ 26 → (kk, s') ∉ C.2.1 := fun kk q1 q2 hin => by
                have := ((h.2.2.2.1 kk s' hin).2.2 ⟨q1, q2⟩).2
                rw [rt_lo C hs, z] at this; cases this
              exact ⟨hs, nt 20 (by decide) (by decide), nt 21 (by decide) (by decide)⟩
            · rintro _ ⟨q1, q2, rfl⟩
              refine fin _ [(20, s'), (21, s')] (tg_mkQueue C s' q1 q2 hs) (fun kk a ha => ?_) (fun f a b hf => ?_) (fun _ _ _ => rfl) (fun f a b => ?_) ?_ (fun M hM => ?_)
              · simp only [List.mem_cons, Prod.mk.injEq, List.not_mem_nil, or_false] at ha; omega
              · rw [gI_mkQueue C s' q1 q2 hs, if_neg (by omega), if_neg (by omega), if_neg (by omega)]
              · rw [gR_mkQueue C s' q1 q2 hs]
                by_cases y : f = 11 ∧ a = s'
                · rw [if_pos y, if_pos ⟨y.1, y.2, by simp⟩]
                · rw [if_neg y, if_neg (fun v => y ⟨v.1, v.2.1⟩)]
              · rw [gI_mkQueue C s' q1 q2 hs, if_pos ⟨rfl, rfl, rfl⟩]
              · rw [gI_mkQueue C s' q1 q2 hs, if_neg (by omega), if_neg (by omega), if_pos ⟨by decide, by decide, rfl⟩]
                exact (((hM.thing s' (by omega)).2.2.2.1 (by rw [rt_lo C hs]; exact z)).2).symm
            · have ha : a = s' := by
                rcases hrs with y | y
                · rw [y] at z; cases z
                · rw [y] at z; exact (Option.some.inj z).symm
              subst ha
              refine ⟨hs, fin C [] (by simp) (fun kk a ha => absurd ha (by simp)) (fun _ _ _ _ => rfl) (fun _ _ _ => rfl) (fun f a b => by rw [if_neg (fun v => v.2.2 rfl)]) ?_ (fun M hM => ?_)⟩
              · have := (h.thing a (by omega)).2.2.2.2.1 (by rw [rt_lo C hs]; exact z)
                rw [this, show a % 12 = a by omega]
              · have h32 : gI C 32 a 0 = 0 := by
                  rcases Classical.em (gI C 32 a 0 = 0) with y | y
                  · exact y
                  · exact absurd ⟨by rw [rt_lo C hs]; exact z, y⟩ hno
                exact ((hM.thing a (by omega)).2.2.2.2.2.1 (by rw [rt_lo C hs]; exact z) h32).2
          · -- no slot is free
            have hall' : ∀ s, s < 12 → hre C (0 + s) := fun s hs => Classical.not_not.mp (hall s hs)
            refine MainW.refuse (Nat.le_refl _) (-9) (fun po hpo => cls2 po (fun z => absurd hmk z) (fun _ => ?_)) (fun M hM po hpo => mod2 M hM po (fun z => absurd hmk z) (fun _ => ?_))
            · unfold wp_X7_makeQueue
              exact sp_free kq h.rootT (fun s hL => absurd (hall' s hL.1) hL.2.1) (fun _ => ⟨fun _ => hpo, fun z => absurd z (by decide)⟩)
            · unfold wp_X8_queue_138
              exact sp_freeM (b := 0) (Or.inl rfl) (fun s hL => absurd hL.2.1 (fun y => absurd (hall' s hL.1) ((fr_M hM (Or.inl rfl) s hL.1).mpr y))) (fun _ => ⟨fun z => absurd rfl z, fun _ => sp_tells hp16 hpo⟩)
        · exact MainW.refuse (Nat.le_refl _) (-8) (fun po hpo => cls2 po (fun _ => hpo) (fun z => absurd z hmk)) (fun M hM po hpo => mod2 M hM po (fun _ => sp_tells hp16 hpo) (fun z => absurd z hmk))
    · refine MainW.refuse (Nat.le_refl _) (-4) (fun po hpo => ?_) (fun M hM po hpo => ?_)
      · unfold wp_X7_openQueue
        rw [sp_isWithin hkey n1]
        refine ⟨fun z => absurd hok1 ((ez_bI _).mp z), fun _ => ?_⟩
        rw [sp_isWithin hway n2]
        exact ⟨fun z => absurd ((nz_bI _).mp z) hok2, fun _ => hpo⟩
      · rw [hkey, hway, sp_in (nmL_of hkey) l0 l1]
        refine ⟨fun z => absurd hok1 ((ez_bI _).mp z), fun _ => ?_⟩
        rw [sp_in (nmL_of hway) l0 l2]
        exact ⟨fun z => absurd ((nz_bI _).mp z) hok2, fun _ => sp_tells hp16 hpo⟩
  · refine MainW.refuse (Nat.le_refl _) (-4) (fun po hpo => ?_) (fun M hM po hpo => ?_)
    · unfold wp_X7_openQueue
      rw [sp_isWithin hkey n1]
      exact ⟨fun _ => hpo, fun z => absurd ((nz_bI _).mp z) hok1⟩
    · rw [hkey, sp_in (nmL_of hkey) l0 l1]
      exact ⟨fun _ => sp_tells hp16 hpo, fun z => absurd ((nz_bI _).mp z) hok1⟩
