/-! LAYER 2: value -/
def L46 (a0 : Nat) : Nat → Nat → Nat → Prop := fun f a _ => (f = 46 ∨ f = 47 ∨ f = 48) ∧ a = a0
theorem put44 {D : St} {a0 c : Nat} {x4 : Int} (h12 : 12 ≤ a0) (hc : c < 8) (h4 : x4 = 0 ∨ x4 = 1) : ∀ (m i : Nat) (σ : St), i + m = 16 → XI (L46 a0) D σ → (∀ f b, f ≠ 48 → gI σ f a0 b = gI D f a0 b) → (∀ b, gI σ 48 a0 b = if b % 8 = c ∧ b < 8 * i then 0 else gI D 48 a0 b) →
    ∃ C1, XI (L46 a0) D C1 ∧ (∀ f b, f ≠ 48 → gI C1 f a0 b = gI D f a0 b) ∧ (∀ b, gI C1 48 a0 b = if b % 8 = c ∧ b < 128 then 0 else gI D 48 a0 b) ∧ ∀ po : Int → St → Prop, po x4 C1 → wp_X0_put_44 po (m + 1) a0 (c : Int) x4 (i : Int) σ := by
  intro m
  induction m with
  | zero =>
    intro i σ hi hx h1 h2
    have e : i = 16 := by omega
    subst e
    refine ⟨σ, hx, h1, h2, fun po hpo => ?_⟩
    unfold wp_X0_put_44
    exact ⟨fun _ => ⟨h4, hpo⟩, fun z => absurd z (by decide)⟩
  | succ m ih =>
    intro i σ hi hx h1 h2
    have ni : nm (i : Int) = i := nm_nat (n := 17) (by omega) (by omega)
    obtain ⟨C1, g1, g2, g3, g4⟩ := ih (i + 1) (uI σ 48 a0 (8 * i + c) 0) (by omega) (hx.uI _ (by unfold L46; omega)) (fun f b hf => by rw [gI_uI, if_neg (by omega)]; exact h1 f b hf) (fun b => by
      rw [gI_uI]
      by_cases z : b = 8 * i + c
      · rw [if_pos ⟨rfl, rfl, z⟩, if_pos (by omega), n0]
      · rw [if_neg (by omega), h2]
        by_cases w : b % 8 = c ∧ b < 8 * i
        · rw [if_pos w, if_pos (by omega)]
        · rw [if_neg w, if_neg (by omega)])
    refine ⟨C1, g1, g2, g3, fun po hpo => ?_⟩
    rw [wp_X0_put_44]
    rw [ni, show nm 16 = 16 by decide, show ((i : Int) + 1) = ((i + 1 : Nat) : Int) by omega]
    exact ⟨fun z => absurd z (by omega), fun _ => ⟨h12, sp_putUndo h12 (by omega) hc (g4 po hpo)⟩⟩
theorem put_C {C : St} {a0 c p : Nat} {v : Int} (h12 : 12 ≤ a0) (h45 : gI C 45 a0 0 ≤ 8) (hc : (c : Int) < gI C 45 a0 0) (hp : p < 16) (hv : nm v = v) :
    ∃ C1, XI (L46 a0) C C1 ∧ (∀ b, gI C1 46 a0 b = if b = c then v else gI C 46 a0 b) ∧ (∀ b, gI C1 47 a0 b = if b = c then (p : Int) else gI C 47 a0 b) ∧ (∀ b, gI C1 48 a0 b = if b % 8 = c ∧ b < 128 then 0 else gI C 48 a0 b) ∧ ∀ po : Int → St → Prop, po (if gI C 46 a0 c = v then 0 else 1) C1 → wp_X0_put a0 (c : Int) v (p : Int) C po := by
  have nc : nm (c : Int) = c := nm_nat (n := 8) (by omega) (by omega)
  have np : nm (p : Int) = p := nm_nat (n := 16) hp (by omega)
  have x0 : XI (L46 a0) C (uI (uI C 46 a0 c v) 47 a0 c (p : Int)) := (XI.rf.uI _ (by unfold L46; omega)).uI _ (by unfold L46; omega)
  obtain ⟨C1, g1, g2, g3, g4⟩ := put44 (D := uI (uI C 46 a0 c v) 47 a0 c (p : Int)) (a0 := a0) (c := c) (x4 := if gI C 46 a0 c = v then 0 else 1) h12 (by omega) (by split; exact Or.inl rfl; exact Or.inr rfl) 16 0 (uI (uI C 46 a0 c v) 47 a0 c (p : Int)) (by omega) XI.rf (fun _ _ _ => rfl) (fun b => by rw [if_neg (by omega)])
  refine ⟨C1, x0.tr g1, fun b => ?_, fun b => ?_, fun b => ?_, fun po hpo => ?_⟩
  · rw [g2 46 b (by decide), gI_uI, if_neg (by omega), gI_uI]
    by_cases z : b = c
    · rw [if_pos ⟨rfl, rfl, z⟩, if_pos z, hv]
    · rw [if_neg (by omega), if_neg z]
  · rw [g2 47 b (by decide), gI_uI]
    by_cases z : b = c
    · rw [if_pos ⟨rfl, rfl, z⟩, if_pos z, np]
    · rw [if_neg (by omega), if_neg z, gI_uI, if_neg (by omega)]
  · rw [g3]
    by_cases w : b % 8 = c ∧ b < 128
    · rw [if_pos w, if_pos w]
    · rw [if_neg w, if_neg w, gI_uI, if_neg (by omega), gI_uI, if_neg (by omega)]
  · unfold wp_X0_put
    refine ⟨h12, sp_hasCounter h12 nc h45 (fun z => ⟨fun _ => ?_, fun y => absurd y (by decide)⟩) (fun z => absurd ⟨by omega, hc⟩ z)⟩
    rw [nc, Int.toNat_natCast, nm_gI, hv]
    refine ⟨by omega, fun z => ⟨by omega, ?_⟩, fun z => ⟨by omega, ?_⟩⟩
    · rintro _ rfl
      refine ⟨by omega, ?_⟩
      rintro _ rfl
      refine ⟨17, ?_⟩
      rw [if_pos z] at hpo
      have := g4 po (by rw [if_pos z]; exact hpo)
      rw [if_pos z] at this
      exact this
    · rintro _ rfl
      refine ⟨by omega, ?_⟩
      rintro _ rfl
      refine ⟨17, ?_⟩
      rw [if_neg z] at hpo
      have := g4 po (by rw [if_neg z]; exact hpo)
      rw [if_neg z] at this
      exact this
def L39 : Nat → Nat → Nat → Prop := fun f a _ => f = 110 ∧ (a = 39 ∨ a = 40 ∨ a = 41)
theorem val158 {N : St} {p k t : Nat} {x7 : Int} (hp : p < 16) (hk : k < 96) (h7 : x7 = 0 ∨ x7 = 1) : ∀ (m i : Nat) (σ : St), i + m = 16 → XI L39 N σ → (∀ a b, a ≠ 41 → gI σ 110 a b = gI N 110 a b) → (∀ b, gI σ 110 41 b = if b % 96 = k ∧ b < 96 * i then 0 else gI N 110 41 b) →
    ∃ N1, XI L39 N N1 ∧ (∀ a b, a ≠ 41 → gI N1 110 a b = gI N 110 a b) ∧ (∀ b, gI N1 110 41 b = if b % 96 = k ∧ b < 1536 then 0 else gI N 110 41 b) ∧ ∀ po : Int → St → Prop, (x7 = 0 → po 0 (uI N1 110 4 p 0)) → (x7 = 1 → wp_X8_serve ((t : Int) - 12) (uI N1 110 4 p 0) (fun s111 => po 0 s111)) → wp_X8_value_158 po (m + 1) (p : Int) (t : Int) (k : Int) x7 (i : Int) σ := by
  have np : nm (p : Int) = p := nm_nat (n := 16) hp (by omega)
  intro m
  induction m with
  | zero =>
    intro i σ hi hx h1 h2
    have e : i = 16 := by omega
    subst e
    refine ⟨σ, hx, h1, h2, fun po k0 k1 => ?_⟩
    unfold wp_X8_value_158
    rw [np, Int.toNat_natCast]
    refine ⟨fun _ => ⟨by omega, ?_⟩, fun z => absurd z (by decide)⟩
    rintro _ rfl
    rcases h7 with rfl | rfl
    · exact ⟨fun _ => k0 rfl, fun z => absurd n0 z⟩
    · exact ⟨fun z => absurd z (by decide), fun _ => k1 rfl⟩
  | succ m ih =>
    intro i σ hi hx h1 h2
    have ni : nm (i : Int) = i := nm_nat (n := 17) (by omega) (by omega)
    have ek : nm (96 * (i : Int) + (k : Int)) = ((96 * i + k : Nat) : Int) := by rw [nm_id (by omega)]; omega
    obtain ⟨N1, g1, g2, g3, g4⟩ := ih (i + 1) (uI σ 110 41 (96 * i + k) 0) (by omega) (hx.uI _ (by unfold L39; omega)) (fun a b ha => by rw [gI_uI, if_neg (by omega)]; exact h1 a b ha) (fun b => by
      rw [gI_uI]
      by_cases z : b = 96 * i + k
      · rw [if_pos ⟨rfl, rfl, z⟩, if_pos (by omega), n0]
      · rw [if_neg (by omega), h2]
        by_cases w : b % 96 = k ∧ b < 96 * i
        · rw [if_pos w, if_pos (by omega)]
        · rw [if_neg w, if_neg (by omega)])
    refine ⟨N1, g1, g2, g3, fun po k0 k1 => ?_⟩
    rw [wp_X8_value_158]
    rw [ni, ek, Int.toNat_natCast, show nm 16 = 16 by decide, show ((i : Int) + 1) = ((i + 1 : Nat) : Int) by omega]
    refine ⟨fun z => absurd z (by omega), fun _ => ⟨by omega, ?_⟩⟩
    rintro _ rfl
    exact g4 po k0 k1
theorem op_value {k n : Nat} {ls : List Nat} {C M0 : St} {x d y v : Int} (hx : nm x = x) (hd : nm d = d) (hy : nm y = y) (hv : nm v = v) (h : SimB k n ls none none C M0) : LockW k k n ls (wp_X7_value x d y v C) C (fun M => wp_X8_value x d y v M) := by
  delta wp_X7_value wp_X8_value
  refine caller_lockW (ic := fun a s po => wp_X7_changeValue (some a) d y v s po) (Nat.le_refl _) hx h (fun p hp ex hf hw hnl => ?_)
  subst ex
  have hr := h.1
  have hp16 : p < 16 := by have := hr.1; omega
  have ep : ((p : Int)).toNat = p := by omega
  have np : nm (p : Int) = p := nm_nat (n := 16) hp16 (by omega)
  have i16 : (0 : Int) ≤ p ∧ (p : Int) < 16 := by omega
  have nhi : nm 32767 = 32767 := by decide
  have l0 : nmL 0 = 0 := by decide
  have lhi : nmL 32767 = 32767 := by decide
  by_cases hok : 0 ≤ v ∧ v ≤ 32767
  · rcases id_or C 12 d with ⟨t, ht⟩ | hn
    · obtain ⟨ht24, hid, -, -⟩ := h.id_facts (Or.inr rfl) ht
      obtain ⟨s, rfl⟩ : ∃ s, t = 12 + s := ⟨t - 12, by have := ht.1; omega⟩
      have hs : s < 12 := by omega
      have h12 : 12 ≤ 12 + s := by omega
      have hh : hre C (12 + s) := ht.2.2.1
      obtain ⟨-, c1, c8, -⟩ := h.2.2.2.2.2.2.2.2.2.2.1 s hs hh
      obtain ⟨cnt, h45⟩ : ∃ cnt : Nat, gI C 45 (12 + s) 0 = cnt := ⟨(gI C 45 (12 + s) 0).toNat, by omega⟩
      have m38 : ∀ M, SimB k n ls none none C M → gI M 110 38 s = cnt := fun M hM => by rw [← (hM.2.2.2.2.2.2.2.2.2.2.1 s hs hh).1]; exact h45
      have ntt : nm (((12 + s : Nat)) : Int) = ((12 + s : Nat) : Int) := nm_nat (n := 24) (by omega) (by omega)
      have es : (((12 + s : Nat) : Int) - 12) = (s : Int) := by omega
      have nsl : nm (s : Int) = s := nm_nat (n := 12) hs (by omega)
      have ncnt : nm ((cnt : Int) - 1) = (cnt : Int) - 1 := nm_id (by omega)
      -- class, to the counter
      have cls : ∀ po : Int → St → Prop, (0 ≤ y ∧ y < cnt → wp_X5_grantsAll (12 + s) (some p) 2 C (fun r103 s104 => (nm r103 ≠ 0 → ∃ a102, some p = some a102 ∧ wp_X0_put (12 + s) y v (gI s104 10 a102 0) s104 (fun r104 s105 => (nm r104 = 0 → po 0 s105) ∧
 (nm r104 ≠ 0 → wp_X7_serveAll (some (12 + s)) s105 (fun s106 => po 0 s106)))) ∧
 (nm r103 = 0 → po (-6) s104))) → (¬ (0 ≤ y ∧ y < cnt) → po (-5) C) → wp_X7_changeValue (some p) d y v C po := by
        intro po k1 k0
        unfold wp_X7_changeValue
        rw [sp_isWithin hv nhi]
        refine ⟨fun _ => sp_setById_some hd ht hid ⟨fun z => (by cases z), ?_⟩, fun z => absurd hok ((ez_bI _).mp z)⟩
        rintro _ ⟨rfl⟩
        refine ⟨h12, sp_hasCounter h12 hy c8 (fun z => ⟨fun _ => k1 (by omega), fun w => absurd w (by decide)⟩) (fun z => ⟨fun w => absurd n0 w, fun _ => k0 (by omega)⟩)⟩
      -- model, to the counter
      have mod : ∀ M, SimB k n ls none none C M → ∀ po : Int → St → Prop, (0 ≤ y ∧ y < cnt → wp_X8_hasAll (p : Int) ((12 + s : Nat) : Int) 2 M (fun r107 s107 => (nm r107 ≠ 0 → (0 ≤ nm (8 * (s : Int) + y) ∧ nm (8 * (s : Int) + y) < 96) ∧ (nm (gI s107 110 39 (nm (8 * (s : Int) + y)).toNat) = v → (0 ≤ nm (8 * (s : Int) + y) ∧ nm (8 * (s : Int) + y) < 96) ∧ ∀ s108, s108 = uI s107 110 39 (nm (8 * (s : Int) + y)).toNat v → (0 ≤ nm (8 * (s : Int) + y) ∧ nm (8 * (s : Int) + y) < 96) ∧ ∀ s109, s109 = uI s108 110 40 (nm (8 * (s : Int) + y)).toNat (p : Int) → ∃ n9, wp_X8_value_158 po n9 (p : Int) ((12 + s : Nat) : Int) (8 * (s : Int) + y) 0 0 s109) ∧
 (nm (gI s107 110 39 (nm (8 * (s : Int) + y)).toNat) ≠ v → (0 ≤ nm (8 * (s : Int) + y) ∧ nm (8 * (s : Int) + y) < 96) ∧ ∀ s113, s113 = uI s107 110 39 (nm (8 * (s : Int) + y)).toNat v → (0 ≤ nm (8 * (s : Int) + y) ∧ nm (8 * (s : Int) + y) < 96) ∧ ∀ s114, s114 = uI s113 110 40 (nm (8 * (s : Int) + y)).toNat (p : Int) → ∃ n9, wp_X8_value_158 po n9 (p : Int) ((12 + s : Nat) : Int) (8 * (s : Int) + y) 1 0 s114)) ∧
 (nm r107 = 0 → wp_X8_tells (p : Int) (-6) s107 (fun r108 s115 => po r108 s115)))) → (¬ (0 ≤ y ∧ y < cnt) → wp_X8_tells (p : Int) (-5) M (fun r108 s115 => po r108 s115)) → wp_X8_in (nm v) 0 32767 M (fun r103 s103 => (nm r103 ≠ 0 → wp_X8_slotOf d 12 s103 (fun r104 s104 => (nm r104 = nm (-1) → wp_X8_tells (p : Int) (-5) s104 (fun r105 s105 => po r105 s105)) ∧
 (nm r104 ≠ nm (-1) → (0 ≤ nm (r104 - 12) ∧ nm (r104 - 12) < 12) ∧ wp_X8_in (nm y) 0 (nm ((gI s104 110 38 (nm (r104 - 12)).toNat) - 1)) s104 (fun r106 s106 => (nm r106 ≠ 0 → wp_X8_hasAll (p : Int) r104 2 s106 (fun r107 s107 => (nm r107 ≠ 0 → (0 ≤ nm ((8 * (r104 - 12)) + y) ∧ nm ((8 * (r104 - 12)) + y) < 96) ∧ (nm (gI s107 110 39 (nm ((8 * (r104 - 12)) + y)).toNat) = nm v → (0 ≤ nm ((8 * (r104 - 12)) + y) ∧ nm ((8 * (r104 - 12)) + y) < 96) ∧ ∀ s108, s108 = uI s107 110 39 (nm ((8 * (r104 - 12)) + y)).toNat v → (0 ≤ nm ((8 * (r104 - 12)) + y) ∧ nm ((8 * (r104 - 12)) + y) < 96) ∧ ∀ s109, s109 = uI s108 110 40 (nm ((8 * (r104 - 12)) + y)).toNat (p : Int) → ∃ n9, wp_X8_value_158 po n9 (p : Int) r104 ((8 * (r104 - 12)) + y) 0 0 s109) ∧
 (nm (gI s107 110 39 (nm ((8 * (r104 - 12)) + y)).toNat) ≠ nm v → (0 ≤ nm ((8 * (r104 - 12)) + y) ∧ nm ((8 * (r104 - 12)) + y) < 96) ∧ ∀ s113, s113 = uI s107 110 39 (nm ((8 * (r104 - 12)) + y)).toNat v → (0 ≤ nm ((8 * (r104 - 12)) + y) ∧ nm ((8 * (r104 - 12)) + y) < 96) ∧ ∀ s114, s114 = uI s113 110 40 (nm ((8 * (r104 - 12)) + y)).toNat (p : Int) → ∃ n9, wp_X8_value_158 po n9 (p : Int) r104 ((8 * (r104 - 12)) + y) 1 0 s114)) ∧
 (nm r107 = 0 → wp_X8_tells (p : Int) (-6) s107 (fun r108 s115 => po r108 s115)))) ∧
 (nm r106 = 0 → wp_X8_tells (p : Int) (-5) s106 (fun r109 s116 => po r109 s116)))))) ∧
 (nm r103 = 0 → wp_X8_tells (p : Int) (-4) s103 (fun r110 s117 => po r110 s117))) := by
        intro M hM po k1 k0
        obtain ⟨-, hid2, g1, g2⟩ := hM.id_facts (Or.inr rfl) ht
        rw [hv, sp_in (nmL_of hv) l0 lhi]
        refine ⟨fun _ => sp_slotOf_some (b := 12) (Or.inr rfl) hd ht.1 ht.2.1 g1 hid2.1 hid2.2 g2 ⟨fun z => absurd z (by rw [ntt, nm_m1]; omega), fun _ => ?_⟩, fun z => absurd hok ((ez_bI _).mp z)⟩
        rw [es, nsl, Int.toNat_natCast, hy, m38 M hM, ncnt]
        refine ⟨by omega, ?_⟩
        rw [sp_in (nmL_of hy) l0 (nmL_of ncnt)]
        exact ⟨fun z => k1 (by have := (nz_bI _).mp z; omega), fun z => k0 (by have := (ez_bI _).mp z; omega)⟩
      by_cases hc : 0 ≤ y ∧ y < cnt
      · obtain ⟨c, rfl⟩ : ∃ c : Nat, y = c := ⟨y.toNat, by omega⟩
        have hc8 : c < 8 := by omega
        have ek : nm (8 * (s : Int) + (c : Int)) = ((8 * s + c : Nat) : Int) := by rw [nm_id (by omega)]; omega
        have ek2 : (8 * (s : Int) + (c : Int)) = ((8 * s + c : Nat) : Int) := by omega
        by_cases hg : graC C (12 + s) p 2
        · obtain ⟨C1, x1, v46, v47, v48, run1⟩ := put_C (C := C) (a0 := 12 + s) (c := c) (p := p) (v := v) h12 c8 (by omega) hp16 hv
          have me1 : MEq C C1 := x1.meq (by unfold L46; omega)
          have hh1 : hre C1 (12 + s) := (hre_xi x1 (by unfold L46; omega) _).mpr hh
          intro po hpo
          -- the model behind its writing
          have mod2 : ∀ M, SimB k n ls none none C M → ∃ M1, SimB k n ls none none C1 M1 ∧ CEq M M1 ∧ ∀ po : Int → St → Prop, (gI C 46 (12 + s) c = v → po 0 (uI M1 110 4 p 0)) → (gI C 46 (12 + s) c ≠ v → wp_X8_serve (s : Int) (uI M1 110 4 p 0) (fun s111 => po 0 s111)) → wp_X8_hasAll (p : Int) ((12 + s : Nat) : Int) 2 M (fun r107 s107 => (nm r107 ≠ 0 → (0 ≤ nm (8 * (s : Int) + (c : Int)) ∧ nm (8 * (s : Int) + (c : Int)) < 96) ∧ (nm (gI s107 110 39 (nm (8 * (s : Int) + (c : Int))).toNat) = v → (0 ≤ nm (8 * (s : Int) + (c : Int)) ∧ nm (8 * (s : Int) + (c : Int)) < 96) ∧ ∀ s108, s108 = uI s107 110 39 (nm (8 * (s : Int) + (c : Int))).toNat v → (0 ≤ nm (8 * (s : Int) + (c : Int)) ∧ nm (8 * (s : Int) + (c : Int)) < 96) ∧ ∀ s109, s109 = uI s108 110 40 (nm (8 * (s : Int) + (c : Int))).toNat (p : Int) → ∃ n9, wp_X8_value_158 po n9 (p : Int) ((12 + s : Nat) : Int) (8 * (s : Int) + (c : Int)) 0 0 s109) ∧
 (nm (gI s107 110 39 (nm (8 * (s : Int) + (c : Int))).toNat) ≠ v → (0 ≤ nm (8 * (s : Int) + (c : Int)) ∧ nm (8 * (s : Int) + (c : Int)) < 96) ∧ ∀ s113, s113 = uI s107 110 39 (nm (8 * (s : Int) + (c : Int))).toNat v → (0 ≤ nm (8 * (s : Int) + (c : Int)) ∧ nm (8 * (s : Int) + (c : Int)) < 96) ∧ ∀ s114, s114 = uI s113 110 40 (nm (8 * (s : Int) + (c : Int))).toNat (p : Int) → ∃ n9, wp_X8_value_158 po n9 (p : Int) ((12 + s : Nat) : Int) (8 * (s : Int) + (c : Int)) 1 0 s114)) ∧
 (nm r107 = 0 → wp_X8_tells (p : Int) (-6) s107 (fun r108 s115 => po r108 s115))) := by
            intro M hM
            have e39 : gI C 46 (12 + s) c = gI M 110 39 (8 * s + c) := ((hM.2.2.2.2.2.2.2.2.2.2.1 s hs hh).2.2.2 c (by omega)).1
            have x0 : XI L39 M (uI (uI M 110 39 (8 * s + c) v) 110 40 (8 * s + c) (p : Int)) := (XI.rf.uI _ (by unfold L39; omega)).uI _ (by unfold L39; omega)
            obtain ⟨M1, g1, g2, g3, g4⟩ := val158 (N := uI (uI M 110 39 (8 * s + c) v) 110 40 (8 * s + c) (p : Int)) (p := p) (k := 8 * s + c) (t := 12 + s) (x7 := if gI C 46 (12 + s) c = v then 0 else 1) hp16 (by omega) (by split; exact Or.inl rfl; exact Or.inr rfl) 16 0 (uI (uI M 110 39 (8 * s + c) v) 110 40 (8 * s + c) (p : Int)) (by omega) XI.rf (fun _ _ _ => rfl) (fun b => by rw [if_neg (by omega)])
            have y1 := x0.tr g1
            have w39 : ∀ b, gI M1 110 39 b = if b = 8 * s + c then v else gI M 110 39 b := fun b => by
              rw [g2 39 b (by decide), gI_uI, if_neg (by omega), gI_uI]
              by_cases z : b = 8 * s + c
              · rw [if_pos ⟨rfl, rfl, z⟩, if_pos z, hv]
              · rw [if_neg (by omega), if_neg z]
            have w40 : ∀ b, gI M1 110 40 b = if b = 8 * s + c then (p : Int) else gI M 110 40 b := fun b => by
              rw [g2 40 b (by decide), gI_uI]
              by_cases z : b = 8 * s + c
              · rw [if_pos ⟨rfl, rfl, z⟩, if_pos z, np]
              · rw [if_neg (by omega), if_neg z, gI_uI, if_neg (by omega)]
            have w41 : ∀ b, gI M1 110 41 b = if b % 96 = 8 * s + c ∧ b < 1536 then 0 else gI M 110 41 b := fun b => by
              rw [g3]
              by_cases w : b % 96 = 8 * s + c ∧ b < 1536
              · rw [if_pos w, if_pos w]
              · rw [if_neg w, if_neg w, gI_uI, if_neg (by omega), gI_uI, if_neg (by omega)]
            refine ⟨M1, ?_, y1.ceq (by unfold L39; omega), fun po k1 k2 => ?_⟩
            · refine hM.vals (x1.agC (fun f a b hf => by unfold L46 at hf; simp; omega)) (y1.agM (fun f a b hf => ⟨hf.1, by unfold L39 at hf; simp; omega⟩)) (fun t ht' hht => ?_)
              have hht' : hre C (12 + t) := (hre_xi x1 (by unfold L46; omega) _).mp hht
              obtain ⟨q1, q2, q3, q4⟩ := hM.2.2.2.2.2.2.2.2.2.2.1 t ht' hht'
              have e45 : gI C1 45 (12 + t) 0 = gI C 45 (12 + t) 0 := x1.2.1 45 _ 0 (by unfold L46; omega)
              refine ⟨by rw [e45, y1.2.1 110 38 t (by unfold L39; omega)]; exact q1, by rw [e45]; exact q2, by rw [e45]; exact q3, fun b hb => ?_⟩
              rw [e45] at hb
              obtain ⟨k1, k2, k3, k4, k5⟩ := q4 b hb
              have hb8 : b < 8 := by omega
              by_cases z : t = s
              · subst z
                by_cases zc : b = c
                · subst zc
                  rw [v46, if_pos rfl, v47, if_pos rfl, w39, if_pos rfl, w40, if_pos rfl]
                  refine ⟨rfl, hok.1, hok.2, rfl, fun q hq => ?_⟩
                  rw [v48, if_pos (by omega), w41, if_pos (by omega)]
                  exact ⟨rfl, by decide, by decide⟩
                · rw [v46, if_neg zc, v47, if_neg zc, w39, if_neg (by omega), w40, if_neg (by omega)]
                  refine ⟨k1, k2, k3, k4, fun q hq => ?_⟩
                  rw [v48, if_neg (by omega), w41, if_neg (by omega)]
                  exact k5 q hq
              · rw [x1.2.1 46 _ _ (by unfold L46; omega), x1.2.1 47 _ _ (by unfold L46; omega), w39, if_neg (by omega), w40, if_neg (by omega)]
                refine ⟨k1, k2, k3, k4, fun q hq => ?_⟩
                rw [x1.2.1 48 _ _ (by unfold L46; omega), w41, if_neg (by omega)]
                exact k5 q hq
            · refine sp_hasAll hp16 (by omega) (mayCM hM (by omega) hp hh) (fun _ => ⟨fun _ => ?_, fun w => absurd w (by decide)⟩) (fun w => absurd hg w)
              rw [ek, Int.toNat_natCast, nm_gI, ek2, ← e39]
              have i96 : (0 : Int) ≤ ((8 * s + c : Nat) : Int) ∧ ((8 * s + c : Nat) : Int) < 96 := by omega
              rw [es] at g4
              by_cases z : gI C 46 (12 + s) c = v
              · rw [if_pos z] at g4
                refine ⟨i96, fun _ => ⟨i96, ?_⟩, fun w => absurd z w⟩
                rintro _ rfl
                refine ⟨i96, ?_⟩
                rintro _ rfl
                exact ⟨17, g4 po (fun _ => k1 z) (fun w => absurd w (by decide))⟩
              · rw [if_neg z] at g4
                refine ⟨i96, fun w => absurd w z, fun _ => ⟨i96, ?_⟩⟩
                rintro _ rfl
                refine ⟨i96, ?_⟩
                rintro _ rfl
                exact ⟨17, g4 po (fun w => absurd w (by decide)) (fun _ => k2 z)⟩
          obtain ⟨M01, h1, -, -⟩ := mod2 M0 h
          refine cls po (fun _ => sp_grantsAll (by decide) (h.md ht24 hh) (fun _ => ⟨fun _ => ⟨p, rfl, ?_⟩, fun w => absurd w (by decide)⟩) (fun w => absurd hg w)) (fun w => absurd hc w)
          rw [(h.2.2.2.2.2.1 p hp).1]
          refine run1 _ ?_
          by_cases z : gI C 46 (12 + s) c = v
          · rw [if_pos z]
            refine ⟨fun _ => hpo 0 C1 me1 (fun M hM => ?_), fun w => absurd n0 w⟩
            obtain ⟨M1, a1, a2, a3⟩ := mod2 M hM
            exact ⟨uI M1 110 4 p 0, fun po2 hpo2 => mod M hM po2 (fun _ => a3 po2 (fun _ => hpo2) (fun w => absurd z w)) (fun w => absurd hc w), a2.uI _ _ _ _ (by decide), n, ls, SimB.tell a1 (Or.inl rfl)⟩
          · rw [if_neg z]
            refine ⟨fun w => absurd w (by decide), fun _ => ?_⟩
            have hA0 : SimB k n ls (some p) none C1 (uI M01 110 4 p 0) := SimB.ahead h1
            obtain ⟨C3, ls', u1, u2, u3, u4, u5, u6⟩ := serve hs hA0 hh1
            refine u5 _ (hpo 0 C3 (me1.tr u1) (fun M hM => ?_))
            obtain ⟨M1, a1, a2, a3⟩ := mod2 M hM
            obtain ⟨M3, w1, w2, w3, w4⟩ := u6 (uI M1 110 4 p 0) (SimB.ahead a1)
            refine ⟨M3, fun po2 hpo2 => mod M hM po2 (fun _ => a3 po2 (fun w => absurd w z) (fun _ => w4 _ hpo2)) (fun w => absurd hc w), (a2.uI _ _ _ _ (by decide)).tr w2, n, ls', w1.told ?_⟩
            rw [w3.1 p hnl, gI_uI, if_pos ⟨rfl, rfl, rfl⟩]
        · refine MainW.refuse (Nat.le_refl _) (-6) (fun po hpo => cls po (fun _ => sp_grantsAll (by decide) (h.md ht24 hh) (fun w => absurd w hg) (fun _ => ⟨fun w => absurd n0 w, fun _ => hpo⟩)) (fun w => absurd hc w)) (fun M hM po hpo => ?_)
          rw [np, ep] at *
          exact mod M hM po (fun _ => sp_hasAll hp16 (by omega) (mayCM hM (by omega) hp hh) (fun w => absurd w hg) (fun _ => ⟨fun w => absurd n0 w, fun _ => sp_tells hp16 hpo⟩)) (fun w => absurd hc w)
      · refine MainW.refuse (Nat.le_refl _) (-5) (fun po hpo => cls po (fun w => absurd w hc) (fun _ => hpo)) (fun M hM po hpo => ?_)
        exact mod M hM po (fun w => absurd w hc) (fun _ => sp_tells hp16 hpo)
    · refine MainW.refuse (Nat.le_refl _) (-5) (fun po hpo => ?_) (fun M hM po hpo => ?_)
      · unfold wp_X7_changeValue
        rw [sp_isWithin hv nhi]
        exact ⟨fun _ => sp_setById_none hd h.rootT hn ⟨fun _ => hpo, fun a z => (by cases z)⟩, fun z => absurd hok ((ez_bI _).mp z)⟩
      · rw [hv, sp_in (nmL_of hv) l0 lhi]
        exact ⟨fun _ => sp_slotOf_none (b := 12) (Or.inr rfl) hd (hM.id_none (Or.inr rfl) hn) ⟨fun _ => sp_tells hp16 hpo, fun z => absurd rfl z⟩, fun z => absurd hok ((ez_bI _).mp z)⟩
  · refine MainW.refuse (Nat.le_refl _) (-4) (fun po hpo => ?_) (fun M hM po hpo => ?_)
    · unfold wp_X7_changeValue
      rw [sp_isWithin hv nhi]
      exact ⟨fun z => absurd ((nz_bI _).mp z) hok, fun _ => hpo⟩
    · rw [hv, sp_in (nmL_of hv) l0 lhi]
      exact ⟨fun z => absurd ((nz_bI _).mp z) hok, fun _ => sp_tells hp16 hpo⟩
