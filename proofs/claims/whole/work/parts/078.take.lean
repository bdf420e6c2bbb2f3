/-! LAYER 2: take -/
theorem bits_w : ∀ w : Nat, w < 8 → (zand (w : Int) 1 = 0 ∨ zand (w : Int) 1 = 1) := by decide +kernel
theorem nm_zand (x y : Int) : nm (zand x y) = zand x y := by unfold zand nm; rw [i32_of]
def bcmC (C : St) (p : Nat) (sz t a b : Int) : St := uI (uI (uL (uI C 19 p 0 sz) 12 p 0 t) 20 p 0 a) 21 p 0 b
theorem sp_become {C : St} {p : Nat} {sz t way : Int} {po : St → Prop} (h : po (bcmC C p sz t (if zand way 2 = 0 then 0 else 1) (if zand way 4 = 0 then 0 else 1))) : wp_X6_become p sz t way C po := by
  unfold wp_X6_become
  rintro _ rfl _ rfl
  rw [nm_zand, nm_zand]
  refine ⟨fun z => ?_, fun z => ?_⟩
  · rintro _ rfl
    refine ⟨fun y => ?_, fun y => ?_⟩
    · rintro _ rfl; rw [if_pos z, if_pos y] at h; exact h
    · rintro _ rfl; rw [if_pos z, if_neg y] at h; exact h
  · rintro _ rfl
    refine ⟨fun y => ?_, fun y => ?_⟩
    · rintro _ rfl; rw [if_neg z, if_pos y] at h; exact h
    · rintro _ rfl; rw [if_neg z, if_neg y] at h; exact h
theorem gI_bcmC (C : St) (p : Nat) (sz t : Int) (a b : Int) (f x y : Nat) : gI (bcmC C p sz t a b) f x y = if f = 21 ∧ x = p ∧ y = 0 then nm b else if f = 20 ∧ x = p ∧ y = 0 then nm a else if f = 19 ∧ x = p ∧ y = 0 then nm sz else gI C f x y := by
  unfold bcmC
  rw [gI_uI, gI_uI, gI_uL, gI_uI]
theorem gL_bcmC (C : St) (p : Nat) (sz t : Int) (a b : Int) (f x y : Nat) : gL (bcmC C p sz t a b) f x y = if f = 12 ∧ x = p ∧ y = 0 then nmL t else gL C f x y := by
  unfold bcmC
  rw [gL_uI, gL_uI, gL_uL, gL_uI]
theorem gR_bcmC (C : St) (p : Nat) (sz t : Int) (a b : Int) (f x y : Nat) : gR (bcmC C p sz t a b) f x y = gR C f x y := rfl
theorem MEq.bcm (C : St) (p : Nat) (sz t a b : Int) : MEq C (bcmC C p sz t a b) := (((MEq.rf.uI _ _ _ _ (by decide)).uL _ _ _ _ (by decide)).uI _ _ _ _ (by decide)).uI _ _ _ _ (by decide)
def wshM (M : St) (p : Nat) (sz t way : Int) : St := uI (uI (uL M 110 10 p t) 110 11 p sz) 110 12 p way
theorem AgC.bcm (C : St) (p : Nat) (sz t a b : Int) : AgC [1, 2, 10, 11, 12, 13, 14, 15, 16, 17, 18, 22, 23, 24, 25, 26, 27, 30, 31, 32, 33, 34, 35, 36, 37, 38, 39, 40, 41, 42, 45, 46, 47, 48] [10, 11] [1, 2, 3, 4, 10, 11] C (bcmC C p sz t a b) := (((AgC.rf.uI _ _ _ (by decide)).uL _ _ _ (by decide)).uI _ _ _ (by decide)).uI _ _ _ (by decide)
theorem SimB.become {k n : Nat} {ls : List Nat} {e e2 : Option Nat} {C M M' : St} {p : Nat} {sz t a b : Int} (h : SimB k n ls e e2 C M) (hpn : p < n) (h0 : gI C 15 p 0 = 0) (hM' : M' = M ∨ ∃ way, M' = wshM M p sz t way) : SimB k n ls e e2 (bcmC C p sz t a b) M' := by
  refine h.waitw hpn h0 ((AgC.bcm C p sz t a b).sub (by decide) (by decide) (by decide)) (fun f hf x y hne => ?_) (fun x y hne => ?_) (fun f hf x y hne => ?_) (fun x y hne => ?_) ?_ (fun f hf y hne => ?_) (fun y hy => ?_) (fun y hne => ?_)
  · rw [gI_bcmC, if_neg (by omega), if_neg (by omega), if_neg (by omega)]
  · rw [gL_bcmC, if_neg (by omega)]
  · rw [gI_bcmC, if_neg (by omega), if_neg (by omega), if_neg (by omega)]
  · rw [gL_bcmC, if_neg (by omega)]
  · rcases hM' with rfl | ⟨way, rfl⟩
    · exact AgM.rf
    · exact ((AgM.rf.uL _ _ (by decide)).uI _ _ (by decide)).uI _ _ (by decide)
  · rcases hM' with rfl | ⟨way, rfl⟩
    · rfl
    · unfold wshM; rw [gI_uI, if_neg (by omega), gI_uI, if_neg (by omega), gI_uL]
  · rcases hM' with rfl | ⟨way, rfl⟩
    · rfl
    · unfold wshM; rw [gI_uI, if_neg (by omega), gI_uI, if_neg (by omega), gI_uL]
  · rcases hM' with rfl | ⟨way, rfl⟩
    · rfl
    · unfold wshM; rw [gL_uI, gL_uI, gL_uL, if_neg (by omega)]
/-- the model, once it has looked for a message -/
def tkT (x1 x3 x4 x5 r106 r108 : Int) (s108 : St) (po : Int → St → Prop) : Prop := (nm r108 ≠ nm (-1) → (0 ≤ nm r108 ∧ nm r108 < 480) ∧ (nm (gI s108 110 36 (nm r108).toNat) ≤ nm x3 → wp_X8_take_195 po x1 x3 r106 r108 s108) ∧
 (nm x3 < nm (gI s108 110 36 (nm r108).toNat) → (nm (zand x5 2) ≠ 0 → wp_X8_take_195 po x1 x3 r106 r108 s108) ∧
 (nm (zand x5 2) = 0 → wp_X8_tells x1 (-13) s108 (fun r109 s116 => po r109 s116)))) ∧
 (nm r108 = nm (-1) → (nm (zand x5 1) ≠ nm 1 → (0 ≤ nm x1 ∧ nm x1 < 16) ∧ ∀ s117, s117 = uL s108 110 10 (nm x1).toNat x4 → (0 ≤ nm x1 ∧ nm x1 < 16) ∧ ∀ s118, s118 = uI s117 110 11 (nm x1).toNat x3 → (0 ≤ nm x1 ∧ nm x1 < 16) ∧ ∀ s119, s119 = uI s118 110 12 (nm x1).toNat x5 → wp_X8_wait x1 2 r106 s119 (fun s120 => wp_X8_tells x1 (-10) s120 (fun r110 s121 => po r110 s121))) ∧
 (nm (zand x5 1) = nm 1 → wp_X8_tells x1 (-12) s108 (fun r111 s122 => po r111 s122)))
/-- a message is taken: the model -/
theorem sp_take195 {k n : Nat} {ls : List Nat} {C M : St} {p s j c m sz : Nat} {ty : Int} {po : Int → St → Prop} (hp : p < 16) (hs : s < 12) (hc : gI M 110 34 s = c) (hj : j < c) (hc40 : c ≤ 40) (hty : gL M 110 35 (40 * s + j) = ty) (hsz : gI M 110 36 (40 * s + j) = sz) (hsz64 : sz ≤ 64) (hm : m ≤ 64) (hpo : wp_X8_lookAtSenders (drpM (givS M p 37 (64 * (40 * s + j)) ty (min m sz)) s j c (sz : Int)) (fun s => po ((min m sz : Nat) : Int) s)) : wp_X8_take_195 po (p : Int) (m : Int) (s : Int) ((40 * s + j : Nat) : Int) M := by
  have es : ((s : Int)).toNat = s := by omega
  have ns : nm (s : Int) = s := nm_nat (n := 12) hs (by omega)
  have i12 : (0 : Int) ≤ s ∧ (s : Int) < 12 := by omega
  have ep : ((p : Int)).toNat = p := by omega
  have np : nm (p : Int) = p := nm_nat (n := 16) hp (by omega)
  have i16 : (0 : Int) ≤ p ∧ (p : Int) < 16 := by omega
  have nx : nm ((40 * s + j : Nat) : Int) = ((40 * s + j : Nat) : Int) := nm_id (by omega)
  have et : (((40 * s + j : Nat) : Int)).toNat = 40 * s + j := by omega
  have i480 : (0 : Int) ≤ ((40 * s + j : Nat) : Int) ∧ ((40 * s + j : Nat) : Int) < 480 := by omega
  unfold wp_X8_take_195
  rw [nx, et, np, ep, ns, es, hty, hsz, show 64 * ((40 * s + j : Nat) : Int) = ((64 * (40 * s + j) : Nat) : Int) by omega]
  refine ⟨i480, i480, sp_give hp ⟨by omega, by omega⟩ ⟨by omega, by omega⟩ rfl (by show _ ≤ 30720; omega) (by decide) (by decide) ?_⟩
  rw [show min ((m : Int)).toNat ((sz : Int)).toNat = min m sz by omega]
  refine ⟨i16, i12, i480, i12, ?_⟩
  rintro _ rfl
  refine ⟨i12, i12, ?_⟩
  rintro _ rfl
  have g36 : gI (givS M p 37 (64 * (40 * s + j)) ty (min m sz)) 110 36 (40 * s + j) = sz := by rw [gI_givS, if_neg (by omega), if_neg (by omega), hsz]
  have g34 : ∀ v, gI (uI (givS M p 37 (64 * (40 * s + j)) ty (min m sz)) 110 32 s v) 110 34 s = c := fun v => by rw [gI_uI, if_neg (by omega), gI_givS, if_neg (by omega), if_neg (by omega), hc]
  have g4 : gI (givS M p 37 (64 * (40 * s + j)) ty (min m sz)) 110 4 p = ((min m sz : Nat) : Int) := by rw [gI_givS, if_pos ⟨rfl, rfl, rfl⟩]; exact nm_id (by omega)
  rw [g36, g34, g4]
  refine ⟨c - 1 - j + 1, ?_⟩
  have key := sp_shift (M := uI (uI (givS M p 37 (64 * (40 * s + j)) ty (min m sz)) 110 32 s (gI (givS M p 37 (64 * (40 * s + j)) ty (min m sz)) 110 32 s - sz)) 110 34 s ((c : Int) - 1)) (j := j) (x9 := ((min m sz : Nat) : Int)) (po := po) hs (by rw [gI_uI, if_pos ⟨rfl, rfl, rfl⟩]; exact nm_id (by omega)) (by omega) hc40 hpo (c - 1 - j) j (by omega) (Nat.le_refl _)
  have e0 : ∀ X : St, shM X s j j = X := fun X => by
    refine St_ext rfl rfl (fun f a b => ?_) (fun f a b => ?_) (fun _ _ _ => rfl)
    · rw [gI_shM, if_neg (by omega), if_neg (by omega)]
    · rw [gL_shM, if_neg (by omega)]
  rw [e0] at key
  exact key
