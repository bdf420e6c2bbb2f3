/-! LAYER 2: exit -/
def clp (x : Int) : Int := if x < 0 then 0 else if 32767 < x then 32767 else x
theorem clp_rng (x : Int) : 0 ≤ clp x ∧ clp x ≤ 32767 := by unfold clp; split <;> (try split) <;> omega
theorem clp_zz {x : Int} (h : nm x = x) : zmax 0 (zmin 32767 x) = clp x := by
  have n1 : nm 32767 = 32767 := by decide
  unfold zmax zmin clp
  rw [h, n1]
  by_cases a : x < 32767
  · rw [if_pos a, h, n0]
    by_cases b : 0 < x
    · rw [if_pos b, if_neg (by omega), if_neg (by omega)]
    · rw [if_neg b]
      by_cases c : x < 0
      · rw [if_pos c]
      · rw [if_neg c, if_neg (by omega)]; omega
  · rw [if_neg a, n1, n0, if_pos (by decide), if_neg (by omega)]
    by_cases c : 32767 < x
    · rw [if_pos c]
    · rw [if_neg c]; omega
def tbC (C : St) (a0 p c : Nat) (v : Int) : St := uI (uI (uI C 46 a0 c v) 47 a0 c (p : Int)) 48 a0 (8 * p + c) 0
def tbM (M : St) (s p c : Nat) (v : Int) : St := uI (uI (uI M 110 39 (8 * s + c) v) 110 40 (8 * s + c) (p : Int)) 110 41 (96 * p + (8 * s + c)) 0
theorem SimB.tb {k n : Nat} {ls : List Nat} {e e2 : Option Nat} {C M : St} {p s c cnt : Nat} {v : Int} (h : SimB k n ls e e2 C M) (hs : s < 12) (hp : p < 16) (hh : hre C (12 + s)) (h45 : gI C 45 (12 + s) 0 = cnt) (hc : c < cnt) (hv : 0 ≤ v ∧ v ≤ 32767) : SimB k n ls e e2 (tbC C (12 + s) p c v) (tbM M s p c v) := by
  obtain ⟨-, -, c8, hk⟩ := h.2.2.2.2.2.2.2.2.2.2.1 s hs hh
  have nv : nm v = v := nm_id (by omega)
  have np : nm (p : Int) = p := nm_nat (n := 16) hp (by omega)
  have x : XI (LV s) C (tbC C (12 + s) p c v) := ((XI.rf.uI _ (by unfold LV; omega)).uI _ (by unfold LV; omega)).uI _ (by unfold LV; omega)
  have y : XI (LVM p s) M (tbM M s p c v) := ((XI.rf.uI _ (by unfold LVM; omega)).uI _ (by unfold LVM; omega)).uI _ (by unfold LVM; omega)
  refine h.kept hs hp h45 x y (fun b hb => ?_) (fun _ b hb => ?_)
  · unfold tbC
    rw [gI_uI, if_neg (by omega), gI_uI, if_neg (by omega), gI_uI, if_neg (by omega)]
  · obtain ⟨k1, k2, k3, k4, k5⟩ := hk b (by omega)
    unfold tbC tbM
    by_cases z : b = c
    · subst z
      have a1 : gI (uI (uI (uI C 46 (12 + s) b v) 47 (12 + s) b (p : Int)) 48 (12 + s) (8 * p + b) 0) 46 (12 + s) b = v := by rw [gI_uI, if_neg (by omega), gI_uI, if_neg (by omega), gI_uI, if_pos ⟨rfl, rfl, rfl⟩, nv]
      have a2 : gI (uI (uI (uI C 46 (12 + s) b v) 47 (12 + s) b (p : Int)) 48 (12 + s) (8 * p + b) 0) 47 (12 + s) b = p := by rw [gI_uI, if_neg (by omega), gI_uI, if_pos ⟨rfl, rfl, rfl⟩, np]
      have a3 : gI (uI (uI (uI C 46 (12 + s) b v) 47 (12 + s) b (p : Int)) 48 (12 + s) (8 * p + b) 0) 48 (12 + s) (8 * p + b) = 0 := by rw [gI_uI, if_pos ⟨rfl, rfl, rfl⟩, n0]
      have b1 : gI (uI (uI (uI M 110 39 (8 * s + b) v) 110 40 (8 * s + b) (p : Int)) 110 41 (96 * p + (8 * s + b)) 0) 110 39 (8 * s + b) = v := by rw [gI_uI, if_neg (by omega), gI_uI, if_neg (by omega), gI_uI, if_pos ⟨rfl, rfl, rfl⟩, nv]
      have b2 : gI (uI (uI (uI M 110 39 (8 * s + b) v) 110 40 (8 * s + b) (p : Int)) 110 41 (96 * p + (8 * s + b)) 0) 110 40 (8 * s + b) = p := by rw [gI_uI, if_neg (by omega), gI_uI, if_pos ⟨rfl, rfl, rfl⟩, np]
      have b3 : gI (uI (uI (uI M 110 39 (8 * s + b) v) 110 40 (8 * s + b) (p : Int)) 110 41 (96 * p + (8 * s + b)) 0) 110 41 (96 * p + (8 * s + b)) = 0 := by rw [gI_uI, if_pos ⟨rfl, rfl, rfl⟩, n0]
      rw [a1, a2, a3, b1, b2, b3]
      exact ⟨rfl, hv, rfl, rfl, by decide, by decide⟩
    · rw [gI_uI, if_neg (by omega), gI_uI, if_neg (by omega), gI_uI, if_neg (by omega), gI_uI, if_neg (by omega), gI_uI, if_neg (by omega), gI_uI, if_neg (by omega), gI_uI, if_neg (by omega), gI_uI, if_neg (by omega), gI_uI, if_neg (by omega), gI_uI, if_neg (by omega), gI_uI, if_neg (by omega), gI_uI, if_neg (by omega)]
      have e1 : gI (uI (uI (uI C 46 (12 + s) c v) 47 (12 + s) c (p : Int)) 48 (12 + s) (8 * p + c) 0) 48 (12 + s) (8 * p + b) = gI C 48 (12 + s) (8 * p + b) := by rw [gI_uI, if_neg (by omega), gI_uI, if_neg (by omega), gI_uI, if_neg (by omega)]
      have e2 : gI (uI (uI (uI M 110 39 (8 * s + c) v) 110 40 (8 * s + c) (p : Int)) 110 41 (96 * p + (8 * s + c)) 0) 110 41 (96 * p + (8 * s + b)) = gI M 110 41 (96 * p + (8 * s + b)) := by rw [gI_uI, if_neg (by omega), gI_uI, if_neg (by omega), gI_uI, if_neg (by omega)]
      simp only [e1, e2]
      exact ⟨k1, ⟨k2, k3⟩, k4, k5 p hp⟩
theorem back_loop {k n : Nat} {ls : List Nat} {e e2 : Option Nat} {p s cnt : Nat} (hs : s < 12) (hp : p < 16) : ∀ (m i : Nat) (C M0 : St) (x : Int), i + m = cnt → SimB k n ls e e2 C M0 → hre C (12 + s) → gI C 45 (12 + s) 0 = cnt → (x = 0 ∨ x = 1) →
    ∃ (r : Int) (C' : St), (r = 0 ∨ r = 1) ∧ XI (LV s) C C' ∧ (∃ M1, SimB k n ls e e2 C' M1) ∧ (∀ po : Int → St → Prop, po r C' → wp_X0_takeBack_4 po (m + 1) (12 + s) (p : Int) x (i : Int) C) ∧
      ∀ M, SimB k n ls e e2 C M → ∃ M', SimB k n ls e e2 C' M' ∧ CEq M M' ∧ K34 ls M M' ∧ ∀ (po : Int → St → Prop) (X48 : Int → Int → St → Prop), (r = 0 → X48 (p : Int) ((s + 1 : Nat) : Int) M') → (r = 1 → wp_X8_serve (s : Int) M' (fun s103 => X48 (p : Int) ((s + 1 : Nat) : Int) s103)) → wp_X8_exit_71 po X48 (m + 1) (p : Int) (s : Int) x (i : Int) M := by
  have h12 : 12 ≤ 12 + s := by omega
  have nsl : nm (s : Int) = s := nm_nat (n := 12) hs (by omega)
  intro m
  induction m with
  | zero =>
    intro i C M0 x hi h hh h45 hx
    have e : i = cnt := by omega
    subst e
    obtain ⟨-, -, c8, -⟩ := h.2.2.2.2.2.2.2.2.2.2.1 s hs hh
    have nx : nm x = x := by rcases hx with rfl | rfl <;> decide
    refine ⟨x, C, hx, XI.rf, ⟨M0, h⟩, fun po hpo => ?_, fun M hM => ⟨M, hM, CEq.rf, K34.rf, fun po X48 k0 k1 => ?_⟩⟩
    · unfold wp_X0_takeBack_4
      rw [h45]
      exact ⟨h12, fun _ => ⟨hx, hpo⟩, fun z => absurd z (by omega)⟩
    · unfold wp_X8_exit_71
      have e38 : gI M 110 38 s = i := by rw [← (hM.2.2.2.2.2.2.2.2.2.2.1 s hs hh).1]; exact h45
      rw [nsl, Int.toNat_natCast, e38, nx, show ((s : Int) + 1) = ((s + 1 : Nat) : Int) by omega]
      exact ⟨by omega, fun _ => ⟨k0, fun z => k1 (by omega)⟩, fun z => absurd z (by omega)⟩
  | succ m ih =>
    intro i C M0 x hi h hh h45 hx
    obtain ⟨-, -, c8, hk⟩ := h.2.2.2.2.2.2.2.2.2.2.1 s hs hh
    have hic : i < cnt := by omega
    have nx : nm x = x := by rcases hx with rfl | rfl <;> decide
    have ni : nm (i : Int) = i := nm_nat (n := 9) (by omega) (by omega)
    have nk : nm (cnt : Int) = cnt := nm_nat (n := 9) (by omega) (by omega)
    have ea : nm (8 * (s : Int) + i) = ((8 * s + i : Nat) : Int) := by rw [nm_id (by omega)]; omega
    have eb : nm (96 * (p : Int) + 8 * (s : Int) + i) = ((96 * p + (8 * s + i) : Nat) : Int) := by rw [nm_id (by omega)]; omega
    have i96 : (0 : Int) ≤ ((8 * s + i : Nat) : Int) ∧ ((8 * s + i : Nat) : Int) < 96 := by omega
    have i1536 : (0 : Int) ≤ ((96 * p + (8 * s + i) : Nat) : Int) ∧ ((96 * p + (8 * s + i) : Nat) : Int) < 1536 := by omega
    obtain ⟨k1, k2, k3, k4, k5⟩ := hk i (by omega)
    obtain ⟨-, k6, k7⟩ := k5 p hp
    have nsum : nm (gI C 46 (12 + s) i + gI C 48 (12 + s) (8 * p + i)) = gI C 46 (12 + s) i + gI C 48 (12 + s) (8 * p + i) := nm_id (by omega)
    have vals : ∀ M, SimB k n ls e e2 C M → gI M 110 38 s = cnt ∧ gI M 110 39 (8 * s + i) = gI C 46 (12 + s) i ∧ gI M 110 41 (96 * p + (8 * s + i)) = gI C 48 (12 + s) (8 * p + i) := by
      intro M hM
      obtain ⟨q1, -, -, q4⟩ := hM.2.2.2.2.2.2.2.2.2.2.1 s hs hh
      obtain ⟨w1, -, -, -, w5⟩ := q4 i (by omega)
      exact ⟨by rw [← q1]; exact h45, w1.symm, (w5 p hp).1.symm⟩
    by_cases hu : gI C 48 (12 + s) (8 * p + i) = 0
    · obtain ⟨r, C', g1, g2, g3, g4, g5⟩ := ih (i + 1) C M0 x (by omega) h hh h45 hx
      refine ⟨r, C', g1, g2, g3, fun po hpo => ?_, fun M hM => ?_⟩
      · rw [wp_X0_takeBack_4]
        rw [h45, ni, nk, show nm 8 = 8 by decide, show ((i : Int) + 1) = ((i + 1 : Nat) : Int) by omega]
        refine ⟨h12, fun z => absurd z (by omega), fun _ => ⟨fun z => absurd z (by omega), fun _ => sp_undoOf h12 c8 hp (by omega) (fun _ => ⟨fun _ => g4 po hpo, fun z => ?_⟩) (fun _ => ⟨fun _ => g4 po hpo, fun z => absurd n0 z⟩)⟩⟩
        rw [hu] at z; exact absurd n0 z
      · obtain ⟨M', a1, a2, a3, a4⟩ := g5 M hM
        obtain ⟨v1, v2, v3⟩ := vals M hM
        refine ⟨M', a1, a2, a3, fun po X48 q0 q1 => ?_⟩
        rw [wp_X8_exit_71]
        rw [nsl, Int.toNat_natCast, v1, nk, ni, eb, Int.toNat_natCast, v3, show ((i : Int) + 1) = ((i + 1 : Nat) : Int) by omega]
        refine ⟨by omega, fun z => absurd z (by omega), fun _ => ⟨i1536, fun _ => a4 po X48 q0 q1, fun z => ?_⟩⟩
        rw [hu] at z; exact absurd n0 z
    · obtain ⟨v, hv⟩ : ∃ v, v = clp (gI C 46 (12 + s) i + gI C 48 (12 + s) (8 * p + i)) := ⟨_, rfl⟩
      have hvr : 0 ≤ v ∧ v ≤ 32767 := by rw [hv]; exact clp_rng _
      have nv : nm v = v := nm_id (by omega)
      obtain ⟨x', hx', hxi⟩ : ∃ x' : Int, (x' = 0 ∨ x' = 1) ∧ (x' = 1 ↔ x = 1 ∨ v ≠ gI C 46 (12 + s) i) := by
        by_cases w : x = 1 ∨ v ≠ gI C 46 (12 + s) i
        · exact ⟨1, Or.inr rfl, fun _ => w, fun _ => rfl⟩
        · exact ⟨0, Or.inl rfl, fun z => absurd z (by decide), fun z => absurd z w⟩
      have xv : XI (LV s) C (tbC C (12 + s) p i v) := ((XI.rf.uI _ (by unfold LV; omega)).uI _ (by unfold LV; omega)).uI _ (by unfold LV; omega)
      have sb : ∀ M, SimB k n ls e e2 C M → SimB k n ls e e2 (tbC C (12 + s) p i v) (tbM M s p i v) := fun M hM => hM.tb hs hp hh h45 hic hvr
      obtain ⟨r, C', g1, g2, g3, g4, g5⟩ := ih (i + 1) (tbC C (12 + s) p i v) (tbM M0 s p i v) x' (by omega) (sb M0 h) ((hre_xi xv (by unfold LV; omega) _).mpr hh) (by rw [xv.2.1 45 _ 0 (by unfold LV; omega)]; exact h45) hx'
      refine ⟨r, C', g1, xv.tr g2, g3, fun po hpo => ?_, fun M hM => ?_⟩
      · have last : ∀ y, y = x' → wp_X0_takeBack_72 po (fun a0 x1 x2 x3 s9 => wp_X0_takeBack_4 po (m + 1) a0 x1 x2 x3 s9) (12 + s) (p : Int) (i : Int) v y C := by
          intro y hy
          subst hy
          unfold wp_X0_takeBack_72
          rw [ni, Int.toNat_natCast, show ((i : Int) + 1) = ((i + 1 : Nat) : Int) by omega]
          refine ⟨h12, by omega, ?_⟩
          rintro _ rfl
          refine ⟨by omega, ?_⟩
          rintro _ rfl
          exact sp_putUndo h12 hp (by omega) (g4 po hpo)
        rw [wp_X0_takeBack_4]
        rw [h45, ni, nk, show nm 8 = 8 by decide]
        refine ⟨h12, fun z => absurd z (by omega), fun _ => ⟨fun z => absurd z (by omega), fun _ => sp_undoOf h12 c8 hp (by omega) (fun _ => ⟨fun z => ?_, fun _ => ?_⟩) (fun z => absurd (by omega) z)⟩⟩
        · rw [nm_gI] at z; exact absurd z hu
        · rw [Int.toNat_natCast, clp_zz nsum, ← hv, nv, nx, nm_gI]
          refine ⟨by omega, fun z => last 1 (hxi.mpr (Or.inl (by omega))).symm, fun z => ⟨by omega, fun w => last 0 ?_, fun w => last 1 (hxi.mpr (Or.inr w)).symm⟩⟩
          rcases hx' with q | q
          · exact q.symm
          · rcases hxi.mp q with y | y
            · omega
            · exact absurd w y
      · obtain ⟨M', a1, a2, a3, a4⟩ := g5 _ (sb M hM)
        obtain ⟨v1, v2, v3⟩ := vals M hM
        have ce : CEq M (tbM M s p i v) := ((CEq.rf.uI _ _ _ _ (by decide)).uI _ _ _ _ (by decide)).uI _ _ _ _ (by decide)
        have k34 : K34 ls M (tbM M s p i v) := ⟨fun q _ => by unfold tbM; rw [gI_uI, if_neg (by omega), gI_uI, if_neg (by omega), gI_uI, if_neg (by omega)], fun q => by unfold tbM; rw [gI_uI, if_neg (by omega), gI_uI, if_neg (by omega), gI_uI, if_neg (by omega)]⟩
        refine ⟨M', a1, ce.tr a2, k34.tr a3 (fun q hq => hq), fun po X48 q0 q1 => ?_⟩
        have last : ∀ y, y = x' → wp_X8_exit_176 po X48 (fun x1 x2 x3 x4 s9 => wp_X8_exit_71 po X48 (m + 1) x1 x2 x3 x4 s9) (p : Int) (s : Int) (i : Int) v y M := by
          intro y hy
          subst hy
          unfold wp_X8_exit_176
          rw [ea, Int.toNat_natCast, eb, Int.toNat_natCast, show ((i : Int) + 1) = ((i + 1 : Nat) : Int) by omega]
          refine ⟨i96, ?_⟩
          rintro _ rfl
          refine ⟨i96, ?_⟩
          rintro _ rfl
          refine ⟨i1536, ?_⟩
          rintro _ rfl
          exact a4 po X48 q0 q1
        have mid : ∀ w, w = v → wp_X8_exit_148 po X48 (fun x1 x2 x3 x4 s9 => wp_X8_exit_71 po X48 (m + 1) x1 x2 x3 x4 s9) (p : Int) (s : Int) x (i : Int) w M := by
          intro w hw
          subst hw
          unfold wp_X8_exit_148
          rw [nx, ea, Int.toNat_natCast, v2, nv, nm_gI]
          refine ⟨fun z => last 1 (hxi.mpr (Or.inl (by omega))).symm, fun z => ⟨i96, fun w => last 0 ?_, fun w => last 1 (hxi.mpr (Or.inr w)).symm⟩⟩
          rcases hx' with q | q
          · exact q.symm
          · rcases hxi.mp q with y | y
            · omega
            · exact absurd w y
        rw [wp_X8_exit_71]
        rw [nsl, Int.toNat_natCast, v1, nk, ni, eb, Int.toNat_natCast, v3, ea, Int.toNat_natCast, v2, nsum, show nm 32767 = 32767 by decide]
        refine ⟨by omega, fun z => absurd z (by omega), fun _ => ⟨i1536, fun z => ?_, fun _ => ⟨i96, fun z => ⟨fun w => mid _ ?_, fun w => mid _ ?_⟩, fun z => mid _ ?_⟩⟩⟩
        · rw [nm_gI] at z; exact absurd z hu
        · rw [hv]; unfold clp; rw [if_neg (by omega), if_neg (by omega)]
        · rw [hv]; unfold clp; rw [if_neg (by omega), if_pos w]
        · rw [hv]; unfold clp; rw [if_pos z]
theorem exit_loop {k n p : Nat} (hpn : p < n) : ∀ (m i : Nat) (ls : List Nat) (C M0 : St), i + m = 12 → SimB k n ls none (some p) C M0 → p ∉ ls →
    ∃ (C' : St) (ls' : List Nat), MEq C C' ∧ ls'.Sublist ls ∧ (∃ M1, SimB k n ls' none (some p) C' M1) ∧ (∀ po : Int → St → Prop, po 1 (uI C' 13 p 0 0) → wp_X7_exit_39 po (m + 1) (some p) (i : Int) C) ∧
      ∀ M, SimB k n ls none (some p) C M → ∃ M', SimB k n ls' none (some p) C' M' ∧ CEq M M' ∧ gI M' 110 3 p = gI M 110 3 p ∧ ∀ po : Int → St → Prop, po 1 M' → wp_X8_exit_48 po (m + 1) (p : Int) (i : Int) M := by
  intro m
  induction m with
  | zero =>
    intro i ls C M0 hi h hnl
    have e : i = 12 := by omega
    subst e
    refine ⟨C, ls, MEq.rf, List.Sublist.refl _, ⟨M0, h⟩, fun po hpo => ?_, fun M hM => ⟨M, hM, CEq.rf, rfl, fun po hpo => ?_⟩⟩
    · unfold wp_X7_exit_39
      refine ⟨fun _ => ⟨p, rfl, ?_⟩, fun z => absurd z (by decide)⟩
      rintro _ rfl
      exact hpo
    · unfold wp_X8_exit_48
      exact ⟨fun _ => hpo, fun z => absurd z (by decide)⟩
  | succ m ih =>
    intro i ls C M0 hi h hnl
    have hp16 : p < 16 := by have := h.1.1; omega
    have hi12 : i < 12 := by omega
    have ni : nm (i : Int) = i := nm_nat (n := 12) hi12 (by omega)
    have e12 : nm (12 + (i : Int)) = ((12 + i : Nat) : Int) := by rw [nm_id (by omega)]; omega
    by_cases hh : hre C (12 + i)
    · obtain ⟨-, c1, c8, -⟩ := h.2.2.2.2.2.2.2.2.2.2.1 i hi12 hh
      obtain ⟨cnt, h45⟩ : ∃ cnt : Nat, gI C 45 (12 + i) 0 = cnt := ⟨(gI C 45 (12 + i) 0).toNat, by omega⟩
      obtain ⟨r, C1, b1, b2, ⟨M1, hM1⟩, b4, b5⟩ := back_loop (p := p) (s := i) (cnt := cnt) hi12 hp16 cnt 0 C M0 0 (by omega) h hh h45 (Or.inl rfl)
      have me1 : MEq C C1 := b2.meq (by unfold LV; omega)
      have hh1 : hre C1 (12 + i) := (hre_xi b2 (by unfold LV; omega) _).mpr hh
      -- class and model to the end of the taking back
      have cls : ∀ po : Int → St → Prop, (r = 0 → wp_X7_exit_39 po (m + 1) (some p) ((i + 1 : Nat) : Int) C1) → (r = 1 → wp_X7_serveAll (some (12 + i)) C1 (fun s105 => wp_X7_exit_39 po (m + 1) (some p) ((i + 1 : Nat) : Int) s105)) → wp_X7_exit_39 po (m + 1 + 1) (some p) (i : Int) C := by
        intro po k0 k1
        rw [wp_X7_exit_39]
        rw [ni, show nm 12 = 12 by decide, show ((i : Int) + 1) = ((i + 1 : Nat) : Int) by omega]
        refine ⟨fun z => absurd z (by omega), fun _ => sp_setIn_some hi12 hh ⟨fun z => (by cases z), ?_⟩⟩
        rintro _ ⟨rfl⟩
        refine ⟨p, rfl, by omega, ?_⟩
        rw [(h.2.2.2.2.2.1 p hpn).1]
        refine ⟨cnt + 1, b4 _ ?_⟩
        rcases b1 with rfl | rfl
        · exact ⟨fun _ => k0 rfl, fun z => absurd n0 z⟩
        · exact ⟨fun z => absurd z (by decide), fun _ => k1 rfl⟩
      have mod : ∀ M, SimB k n ls none (some p) C M → ∃ M1, SimB k n ls none (some p) C1 M1 ∧ CEq M M1 ∧ K34 ls M M1 ∧ ∀ po : Int → St → Prop, (r = 0 → wp_X8_exit_48 po (m + 1) (p : Int) ((i + 1 : Nat) : Int) M1) → (r = 1 → wp_X8_serve (i : Int) M1 (fun s103 => wp_X8_exit_48 po (m + 1) (p : Int) ((i + 1 : Nat) : Int) s103)) → wp_X8_exit_48 po (m + 1 + 1) (p : Int) (i : Int) M := by
        intro M hM
        obtain ⟨M', a1, a2, a3, a4⟩ := b5 M hM
        refine ⟨M', a1, a2, a3, fun po k0 k1 => ?_⟩
        rw [wp_X8_exit_48]
        rw [ni, show nm 12 = 12 by decide, e12, Int.toNat_natCast, nm_gI, hM.is_of (by omega) hh]
        exact ⟨fun z => absurd z (by omega), fun _ => ⟨by omega, fun z => absurd z (by decide), fun _ => ⟨cnt + 1, a4 po _ k0 k1⟩⟩⟩
      rcases b1 with rfl | rfl
      · obtain ⟨C', ls', g1, g2, g3, g4, g5⟩ := ih (i + 1) ls C1 M1 (by omega) hM1 hnl
        refine ⟨C', ls', me1.tr g1, g2, g3, fun po hpo => cls po (fun _ => g4 po hpo) (fun z => absurd z (by decide)), fun M hM => ?_⟩
        obtain ⟨Ma, a1, a2, a3, a4⟩ := mod M hM
        obtain ⟨M', q1, q2, q3, q4⟩ := g5 Ma a1
        exact ⟨M', q1, a2.tr q2, q3.trans (a3.2 p), fun po hpo => a4 po (fun _ => q4 po hpo) (fun z => absurd z (by decide))⟩
      · obtain ⟨C2, ls2, s1, s2, s3, ⟨M2, hM2⟩, s5, s6⟩ := serve hi12 hM1 hh1
        obtain ⟨C', ls', g1, g2, g3, g4, g5⟩ := ih (i + 1) ls2 C2 M2 (by omega) hM2 (fun z => hnl (s2.subset z))
        refine ⟨C', ls', (me1.tr s1).tr g1, g2.trans s2, g3, fun po hpo => cls po (fun z => absurd z (by decide)) (fun _ => s5 _ (g4 po hpo)), fun M hM => ?_⟩
        obtain ⟨Ma, a1, a2, a3, a4⟩ := mod M hM
        obtain ⟨Mb, u1, u2, u3, u4⟩ := s6 Ma a1
        obtain ⟨M', q1, q2, q3, q4⟩ := g5 Mb u1
        exact ⟨M', q1, (a2.tr u2).tr q2, (q3.trans (u3.2 p)).trans (a3.2 p), fun po hpo => a4 po (fun z => absurd z (by decide)) (fun _ => u4 _ (q4 po hpo))⟩
    · obtain ⟨C', ls', g1, g2, g3, g4, g5⟩ := ih (i + 1) ls C M0 (by omega) h hnl
      refine ⟨C', ls', g1, g2, g3, fun po hpo => ?_, fun M hM => ?_⟩
      · rw [wp_X7_exit_39]
        rw [ni, show nm 12 = 12 by decide, show ((i : Int) + 1) = ((i + 1 : Nat) : Int) by omega]
        refine ⟨fun z => absurd z (by omega), fun _ => sp_setIn_none ni h.rootT (fun s hs e => ?_) ⟨fun _ => g4 po hpo, fun a z => (by cases z)⟩⟩
        have : s = i := by omega
        rw [this]; exact hh
      · obtain ⟨M', q1, q2, q3, q4⟩ := g5 M hM
        refine ⟨M', q1, q2, q3, fun po hpo => ?_⟩
        have e24 : gI M 110 24 (12 + i) = 0 := by
          rcases Classical.em (gI M 110 24 (12 + i) = 0) with z | z
          · exact z
          · exact absurd (hM.hre_of (by omega) z) hh
        rw [wp_X8_exit_48]
        rw [ni, show nm 12 = 12 by decide, e12, Int.toNat_natCast, nm_gI, e24, show ((i : Int) + 1) = ((i + 1 : Nat) : Int) by omega]
        exact ⟨fun z => absurd z (by omega), fun _ => ⟨by omega, fun _ => q4 po hpo, fun z => absurd rfl z⟩⟩
theorem SimB.dying {k n : Nat} {ls : List Nat} {C M : St} {p : Nat} (h : SimB k n ls none none C M) : SimB k n ls none (some p) C (uI M 110 3 p 0) := by
  refine h.priv PrivC.rf (PrivM.rf.uI _ _ _ (by simp)) (fun q hq => ?_) (fun hF q h1 h2 => by
    obtain ⟨f1, f2, f3, f4, f5⟩ := hF q h1 h2
    exact ⟨by rw [gI_uI, if_neg (by omega)]; exact f1, by rw [gI_uI, if_neg (by omega)]; exact f2, by rw [gI_uI, if_neg (by omega)]; exact f3, f4, fun i hi => by rw [gI_uI, if_neg (by omega)]; exact f5 i hi⟩)
  obtain ⟨a1, a2, a3, a4, a5, a6, a7, a8⟩ := h.2.2.2.2.2.1 q hq
  refine ⟨a1, by rw [gI_uI, if_neg (by omega)]; exact a2, by rw [gI_uI, if_neg (by omega)]; exact a3, fun z => ?_, fun z => by rw [gI_uI, if_neg (by omega)]; exact a5 z, by rw [gI_uI, if_neg (by omega)]; exact a6, a7, fun j hj => by rw [gI_uI, if_neg (by omega)]; exact a8 j hj⟩
  have : q ≠ p := fun y => z (by rw [y])
  rw [gI_uI, if_neg (by omega)]; exact a4 (by simp)
theorem SimB.dead {k n : Nat} {ls : List Nat} {C M : St} {p : Nat} (h : SimB k n ls none (some p) C M) (h3 : gI M 110 3 p = 0) : SimB k n ls none none (uI C 13 p 0 0) M := by
  refine h.priv (PrivC.rf.uI _ _ _ _ (by simp)) PrivM.rf (fun q hq => ?_) (fun hF => hF)
  obtain ⟨a1, a2, a3, a4, a5, a6, a7, a8⟩ := h.2.2.2.2.2.1 q hq
  refine ⟨by rw [gI_uI, if_neg (by omega)]; exact a1, by rw [gI_uI, if_neg (by omega)]; exact a2, by rw [gI_uI, if_neg (by omega)]; exact a3, fun _ => ?_, fun z => by rw [gI_uI, if_neg (by omega)]; exact a5 z, by rw [gI_uI, if_neg (by omega)]; exact a6, a7, fun j hj => by rw [gI_uI, if_neg (by omega)]; exact a8 j hj⟩
  rw [gI_uI]
  by_cases z : q = p
  · rw [if_pos ⟨rfl, z, rfl⟩, z, h3]; decide
  · rw [if_neg (by omega)]; exact a4 (fun y => z (Option.some.inj y).symm)
theorem op_exit {k n : Nat} {ls : List Nat} {C M0 : St} {x : Int} (hx : nm x = x) (h : SimB k n ls none none C M0) : LockB k k n ls (wp_X7_exit x C) C (fun M => wp_X8_exit x M) := by
  have hr := h.1
  have hn := hr.1
  rcases proc_or x n with ⟨p, hp, rfl⟩ | hp
  · have i1 : (0 : Int) ≤ p ∧ (p : Int) < n := by omega
    have i16 : (0 : Int) ≤ p ∧ (p : Int) < 16 := by omega
    have ep : ((p : Int)).toNat = p := by omega
    have cls : ∀ po : Int → St → Prop, (gI C 13 p 0 = 0 → po (-3) C) → (gI C 13 p 0 ≠ 0 → gI C 15 p 0 = 0 → ∃ n9, wp_X7_exit_39 po n9 (some p) 0 C) → (gI C 13 p 0 ≠ 0 → gI C 15 p 0 ≠ 0 → wp_X7_goOn (some p) (-16) C (fun s106 => ∃ n9, wp_X7_exit_39 po n9 (some p) 0 s106)) → wp_X7_exit (p : Int) C po := by
      intro po k0 k1 k2
      unfold wp_X7_exit
      rw [sp_processAt hx hr.1 hr.2.2.2, if_pos i1, ep]
      refine ⟨fun z => (by cases z), ?_⟩
      rintro _ ⟨rfl⟩
      rw [nm_gI, nm_gI]
      exact ⟨fun z => ⟨k1 z, k2 z⟩, k0⟩
    have mod : ∀ M, SimB k n ls none none C M → ∀ po : Int → St → Prop, (gI C 13 p 0 = 0 → po (-3) M) → (gI C 13 p 0 ≠ 0 → gI C 15 p 0 = 0 → ∃ n9, wp_X8_exit_48 po n9 (p : Int) 0 (uI M 110 3 p 0)) → (gI C 13 p 0 ≠ 0 → gI C 15 p 0 ≠ 0 → ∃ n9, wp_X8_exit_48 po n9 (p : Int) 0 (uI (goM M p (-16)) 110 3 p 0)) → wp_X8_exit (p : Int) M po := by
      intro M hM po k0 k1 k2
      have hm := hM.1
      have hq := hM.2.2.2.2.2.1 p hp
      have e3 := hq.2.2.2.1 (by simp)
      have e7 := hq.2.2.2.2.2.1
      unfold wp_X8_exit
      rw [sp_isProcess hx hm.1 hm.2.2.1, hx, ep]
      refine ⟨fun _ => ⟨i16, fun z => ⟨i16, fun y => ⟨i16, ?_⟩, fun y => run_goesOn (by omega) ⟨i16, ?_⟩⟩, fun z => k0 (by rw [nm_gI] at z; omega)⟩, fun z => absurd i1 ((ez_bI _).mp z)⟩
      · rintro _ rfl
        rw [nm_gI] at z y
        exact k1 (by omega) (by omega)
      · rintro _ rfl
        rw [nm_gI] at z y
        exact k2 (by omega) (by omega)
    by_cases h13 : gI C 13 p 0 = 0
    · exact LockB.read (-3) (fun po hpo => cls po (fun _ => hpo) (fun z => absurd h13 z) (fun z => absurd h13 z)) (fun M hM po hpo => mod M hM po (fun _ => hpo) (fun z => absurd h13 z) (fun z => absurd h13 z))
    · by_cases h15 : gI C 15 p 0 = 0
      · have hnl : p ∉ ls := fun z => ((h.2.1.2.2.2.2 p).mp z).2 h15
        obtain ⟨C', ls', g1, g2, g3, g4, g5⟩ := exit_loop hp 12 0 ls C (uI M0 110 3 p 0) (by omega) h.dying hnl
        refine ⟨1, uI C' 13 p 0 0, fun po hpo => cls po (fun z => absurd z h13) (fun _ _ => ⟨13, g4 po hpo⟩) (fun _ z => absurd h15 z), g1.uI _ _ _ _ (by decide), fun M hM => ?_⟩
        obtain ⟨M', a1, a2, a3, a4⟩ := g5 _ hM.dying
        have e3 : gI M' 110 3 p = 0 := by rw [a3, gI_uI, if_pos ⟨rfl, rfl, rfl⟩, n0]
        exact ⟨M', fun po hpo => mod M hM po (fun z => absurd z h13) (fun _ _ => ⟨13, a4 po hpo⟩) (fun _ z => absurd h15 z), (CEq.rf.uI _ _ _ _ (by decide)).tr a2, n, ls', a1.dead e3⟩
      · have hl := h.2.1
        have hgo : ∀ M, SimB k n ls none none C M → SimB k n (without ls p) none (some p) (goOnS C ls p (-16)) (uI (goM M p (-16)) 110 3 p 0) := fun M hM => (hM.goOn (by decide)).dying
        have hnl : p ∉ without ls p := fun z => (mem_without.mp z).2 rfl
        obtain ⟨C', ls', g1, g2, g3, g4, g5⟩ := exit_loop hp 12 0 (without ls p) (goOnS C ls p (-16)) _ (by omega) (hgo M0 h) hnl
        refine ⟨1, uI C' 13 p 0 0, fun po hpo => cls po (fun z => absurd z h13) (fun _ z => absurd z h15) (fun _ _ => run_goOn hl.1 hl.2.1 hl.2.2.1 ⟨13, g4 po hpo⟩), (MEq.tr (b := goOnS C ls p (-16)) ?_ g1).uI _ _ _ _ (by decide), fun M hM => ?_⟩
        · exact ⟨fun f a b hf => by rw [gI_goOnS, if_neg (by omega), if_neg (by omega), if_neg (by omega)], fun f a b hf => rfl⟩
        · obtain ⟨M', a1, a2, a3, a4⟩ := g5 _ (hgo M hM)
          have e3 : gI M' 110 3 p = 0 := by rw [a3, gI_uI, if_pos ⟨rfl, rfl, rfl⟩, n0]
          exact ⟨M', fun po hpo => mod M hM po (fun z => absurd z h13) (fun _ z => absurd z h15) (fun _ _ => ⟨13, a4 po hpo⟩), (((CEq.rf.uI _ _ _ _ (by decide)).uI _ _ _ _ (by decide)).uI _ _ _ _ (by decide)).tr a2, n, ls', a1.dead e3⟩
  · refine LockB.read (-2) (fun po hpo => ?_) (fun M hM po hpo => ?_)
    · unfold wp_X7_exit
      rw [sp_processAt hx hr.1 hr.2.2.2, if_neg hp]
      exact ⟨fun _ => hpo, fun a z => (by cases z)⟩
    · have hm := hM.1
      unfold wp_X8_exit
      rw [sp_isProcess hx hm.1 hm.2.2.1]
      exact ⟨fun z => absurd ((nz_bI _).mp z) hp, fun _ => hpo⟩
