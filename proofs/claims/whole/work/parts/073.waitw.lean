/-! LAYER 2: what a free process's wish or parcel is, is its own business -/
theorem SimB.waitw {k n : Nat} {ls : List Nat} {e e2 : Option Nat} {C C' M M' : St} {p : Nat} (h : SimB k n ls e e2 C M) (hpn : p < n) (h0 : gI C 15 p 0 = 0)
    (hC : AgC [1, 2, 10, 11, 12, 13, 14, 15, 16, 22, 23, 24, 25, 26, 27, 30, 31, 32, 33, 34, 35, 36, 37, 38, 39, 40, 41, 42, 45, 46, 47, 48] [10] [1, 2, 3, 4, 10, 11] C C')
    (hI : ∀ f, f = 17 ∨ f = 18 → ∀ a b, a ≠ 2 * p → gI C' f a b = gI C f a b) (hL : ∀ a b, a ≠ 2 * p → gL C' 11 a b = gL C 11 a b) (hI2 : ∀ f, f = 19 ∨ f = 20 ∨ f = 21 → ∀ a b, a ≠ p → gI C' f a b = gI C f a b) (hL2 : ∀ a b, a ≠ p → gL C' 12 a b = gL C 12 a b)
    (hM : AgM [1, 2, 3, 4, 5, 7, 8, 9, 14, 16, 17, 18, 19, 20, 21, 22, 23, 24, 25, 26, 27, 28, 29, 30, 31, 32, 33, 34, 35, 36, 37, 38, 39, 40, 41] [6, 35] M M')
    (hM2 : ∀ f, f = 11 ∨ f = 12 → ∀ b, b ≠ p → gI M' 110 f b = gI M 110 f b) (hM3 : ∀ b, ¬ (64 * p ≤ b ∧ b < 64 * p + 64) → gI M' 110 13 b = gI M 110 13 b) (hM4 : ∀ b, b ≠ p → gL M' 110 10 b = gL M 110 10 b) : SimB k n ls e e2 C' M' := by
  have hr := rt_ag (C := C) (C' := C') (hC.2.2.2 2 (by decide)) (hC.2.2.2 3 (by decide))
  have hh := hre_ag (C := C) (C' := C') (hC.2.2.2 2 (by decide)) (hC.2.2.2 3 (by decide)) (hC.2.1 32 (by decide))
  refine ⟨root_ag (hC.sub (by decide) (by decide) (by decide)) (hM.sub (by decide) (by decide)) (h.1), line_ag (hC.sub (by decide) (by decide) (by decide)) (hM.sub (by decide) (by decide)) (h.2.1), turn_ag (hC.sub (by decide) (by decide) (by decide)) (hM.sub (by decide) (by decide)) (h.2.2.1), tag_ag (hC.sub (by decide) (by decide) (by decide)) (hM.sub (by decide) (by decide)) (h.2.2.2.1), row_ag (hC.sub (by decide) (by decide) (by decide)) (hM.sub (by decide) (by decide)) (h.2.2.2.2.1), proc_ag (hC.sub (by decide) (by decide) (by decide)) (hM.sub (by decide) (by decide)) (h.2.2.2.2.2.1), told_ag (hC.sub (by decide) (by decide) (by decide)) (hM.sub (by decide) (by decide)) (h.2.2.2.2.2.2.1), fun q hq => ?_, thing_ag (hC.sub (by decide) (by decide) (by decide)) (hM.sub (by decide) (by decide)) (h.2.2.2.2.2.2.2.2.1), fun s hs hhs => ?_, set_ag (hC.sub (by decide) (by decide) (by decide)) (hM.sub (by decide) (by decide)) (h.2.2.2.2.2.2.2.2.2.2.1), fre_ag (hM.sub (by decide) (by decide)) h.2.2.2.2.2.2.2.2.2.2.2⟩
  · have hw := h.2.2.2.2.2.2.2.1 q hq
    unfold waitOK
    simp only [hh, hC.2.1 15 (by decide), hC.2.2.2 10 (by decide), hM.1 9 (by decide)]
    by_cases z : q = p
    · subst z
      rcases hw with ⟨w, w1⟩ | ⟨w, -⟩ | ⟨w, -⟩ | ⟨w, -⟩
      · exact Or.inl ⟨w, w1⟩
      all_goals omega
    · rcases hw with w | ⟨w, w1, w2⟩ | ⟨w, w1, w2⟩ | ⟨w, s, w1, w2, w3, w4, w5⟩
      · exact Or.inl w
      · refine Or.inr (Or.inl ⟨w, ?_, w2⟩)
        have z2 : 2 * q ≠ 2 * p := by omega
        unfold sendOK at w1 ⊢
        rw [hL _ _ z2, hM4 q z, hI 17 (Or.inl rfl) _ _ z2, hM2 11 (Or.inl rfl) q z]
        refine ⟨w1.1, w1.2.1, w1.2.2.1, w1.2.2.2.1, w1.2.2.2.2.1, fun j hj => ?_⟩
        rw [hI 18 (Or.inr rfl) _ _ z2, hM3 _ (by have := w1.2.2.2.2.1; omega)]
        exact w1.2.2.2.2.2 j hj
      · refine Or.inr (Or.inr (Or.inl ⟨w, ?_, w2⟩))
        unfold takeOK at w1 ⊢
        rw [hI2 19 (Or.inl rfl) _ _ z, hI2 20 (Or.inr (Or.inl rfl)) _ _ z, hI2 21 (Or.inr (Or.inr rfl)) _ _ z, hL2 _ _ z, hM4 q z, hM2 11 (Or.inl rfl) q z, hM2 12 (Or.inr rfl) q z]
        exact w1
      · refine Or.inr (Or.inr (Or.inr ⟨w, s, w1, w2, w3, w4, ?_⟩))
        unfold tryOK stepOK at w5 ⊢
        simp only [hC.2.1 25 (by decide), hC.2.1 26 (by decide), hC.2.1 27 (by decide), hC.2.1 22 (by decide), hC.2.1 23 (by decide), hC.2.1 24 (by decide), hC.2.1 45 (by decide), hM.1 20 (by decide), hM.1 14 (by decide), hM.1 21 (by decide), hM.1 22 (by decide), hM.1 23 (by decide)]
        exact w5
  · have hq := h.2.2.2.2.2.2.2.2.2.1 s hs ((hh s).mp hhs)
    simp only [hC.2.1 40 (by decide), hC.2.1 41 (by decide), hC.2.1 42 (by decide), hC.2.2.2 11 (by decide), hM.1 32 (by decide), hM.1 33 (by decide), hM.1 34 (by decide)]
    refine ⟨hq.1, hq.2.1, hq.2.2.1, hq.2.2.2.1, hq.2.2.2.2.1, hq.2.2.2.2.2.1, hq.2.2.2.2.2.2.1, fun i hi => ?_⟩
    obtain ⟨u, hu, hm⟩ := hq.2.2.2.2.2.2.2 i hi
    have hodd := (h.2.2.2.2.1.1 s i u hu).1
    refine ⟨u, hu, ?_⟩
    have z2 : u ≠ 2 * p := by omega
    unfold msgOK at hm ⊢
    rw [hL _ _ z2, hI 17 (Or.inl rfl) _ _ z2, hM.2.1 35 (by decide), hM.1 36 (by decide)]
    refine ⟨hm.1, hm.2.1, hm.2.2.1, hm.2.2.2.1, hm.2.2.2.2.1, fun b hb => ?_⟩
    rw [hI 18 (Or.inr rfl) _ _ z2, hM.1 37 (by decide)]
    exact hm.2.2.2.2.2 b hb
def parC (C : St) (p : Nat) (ty : Int) (m : Nat) : St := cpI (uI (uL C 11 (2 * p) 0 ty) 17 (2 * p) 0 (m : Int)) 18 (2 * p) 0 16 p 0 m
def parM (M : St) (p : Nat) (ty : Int) (m : Nat) : St := cpI (uI (uL M 110 10 p ty) 110 11 p (m : Int)) 110 13 (64 * p) 110 5 (64 * p) 64
theorem SimB.parcel {k n : Nat} {ls : List Nat} {e e2 : Option Nat} {C M : St} {p m : Nat} {ty : Int} (h : SimB k n ls e e2 C M) (hpn : p < n) (h0 : gI C 15 p 0 = 0) : SimB k n ls e e2 (parC C p ty m) (parM M p ty m) := by
  refine h.waitw hpn h0 (((AgC.rf.uL _ _ _ (by decide)).uI _ _ _ (by decide)).cp _ _ _ _ _ _ (by decide)) (fun f hf a b hne => ?_) (fun a b hne => ?_) (fun f hf a b hne => ?_) (fun a b hne => ?_) (((AgM.rf.uL _ _ (by decide)).uI _ _ (by decide)).cp _ _ _ _ _ (by decide)) (fun f hf b hne => ?_) (fun b hb => ?_) (fun b hne => ?_)
  · unfold parC
    rw [gI_cpI, if_neg (by omega), gI_uI, if_neg (by omega), gI_uL]
  · unfold parC
    rw [gL_cpI, gL_uI, gL_uL, if_neg (by omega)]
  · unfold parC
    rw [gI_cpI, if_neg (by omega), gI_uI, if_neg (by omega), gI_uL]
  · unfold parC
    rw [gL_cpI, gL_uI, gL_uL, if_neg (by omega)]
  · unfold parM
    rw [gI_cpI, if_neg (by omega), gI_uI, if_neg (by omega), gI_uL]
  · unfold parM
    rw [gI_cpI, if_neg (by omega), gI_uI, if_neg (by omega), gI_uL]
  · unfold parM
    rw [gL_cpI, gL_uI, gL_uL, if_neg (by omega)]
theorem MEq.par (C : St) (p : Nat) (ty : Int) (m : Nat) : MEq C (parC C p ty m) := ((MEq.rf.uL _ _ _ _ (by decide)).uI _ _ _ _ (by decide)).cp _ _ _ _ _ _ _ (by decide)
theorem CEq.par (M : St) (p : Nat) (ty : Int) (m : Nat) : CEq M (parM M p ty m) := ((CEq.rf.uL _ _ _ _ (by decide)).uI _ _ _ _ (by decide)).cp _ _ _ _ _ _ _ (by decide)
theorem parC_msg {C : St} {p m : Nat} {ty : Int} (hty : nmL ty = ty) (hm : m ≤ 64) : msgC (parC C p ty m) (2 * p) ty m := by
  unfold parC
  refine ⟨?_, ?_⟩
  · rw [gL_cpI, gL_uI, gL_uL, if_pos ⟨rfl, rfl, rfl⟩, hty]
  · rw [gI_cpI, if_neg (by omega), gI_uI, if_pos ⟨rfl, rfl, rfl⟩, nm_id (by omega)]
theorem parC_by {C : St} {p m j : Nat} {ty : Int} (hj : j < m) : gI (parC C p ty m) 18 (2 * p) j = gI C 16 p j := by
  unfold parC
  rw [gI_cpI, if_pos ⟨rfl, rfl, by omega, by omega⟩, gI_uI, if_neg (by omega), gI_uL]
  congr 1; omega
theorem parM_by {M : St} {p m j : Nat} {ty : Int} (hj : j < 64) : gI (parM M p ty m) 110 13 (64 * p + j) = gI M 110 5 (64 * p + j) := by
  unfold parM
  rw [gI_cpI, if_pos ⟨rfl, rfl, by omega, by omega⟩, gI_uI, if_neg (by omega), gI_uL]
  congr 1; omega
theorem parM_msg {k n : Nat} {ls : List Nat} {e e2 : Option Nat} {C M : St} {p m : Nat} {ty : Int} (h : SimB k n ls e e2 C M) (hpn : p < n) (hm : m ≤ 64) : msgM (parC C p ty m) (parM M p ty m) (2 * p) p ty m := by
  intro j hj
  rw [parC_by (by omega), parM_by (by omega)]
  exact (h.2.2.2.2.2.1 p hpn).2.2.2.2.2.2.2 j (by omega)
theorem parM_10 {M : St} {p m : Nat} {ty : Int} (hty : nmL ty = ty) : gL (parM M p ty m) 110 10 p = ty := by
  unfold parM
  rw [gL_cpI, gL_uI, gL_uL, if_pos ⟨rfl, rfl, rfl⟩, hty]
theorem parM_11 {M : St} {p m : Nat} {ty : Int} (hm : m ≤ 64) : gI (parM M p ty m) 110 11 p = m := by
  unfold parM
  rw [gI_cpI, if_neg (by omega), gI_uI, if_pos ⟨rfl, rfl, rfl⟩, nm_id (by omega)]
/-- the model's copy of 64 bytes, then the rest -/
theorem sp_send_loop {M0 : St} {p s : Nat} {now : Int} {po : Int → St → Prop} (hp : p < 16) (h : wp_X8_isSent (s : Int) (p : Int) (cpI M0 110 13 (64 * p) 110 5 (64 * p) 64) (fun r108 s110 => (nm r108 = 0 → (nm now = 0 → wp_X8_wait (p : Int) 1 (s : Int) s110 (fun s111 => wp_X8_tells (p : Int) (-10) s111 (fun r109 s112 => po r109 s112))) ∧
 (nm now ≠ 0 → wp_X8_tells (p : Int) (-11) s110 (fun r110 s113 => po r110 s113))) ∧
 (nm r108 ≠ 0 → wp_X8_tells (p : Int) 0 s110 (fun r111 s114 => po r111 s114)))) :
    ∀ m i : Nat, i + m = 64 → wp_X8_send_120 po (m + 1) (p : Int) now (s : Int) (i : Int) (cpI M0 110 13 (64 * p) 110 5 (64 * p) i) := by
  intro m
  induction m with
  | zero =>
    intro i hi
    have e : i = 64 := by omega
    subst e
    unfold wp_X8_send_120
    exact ⟨fun _ => h, fun z => absurd z (by decide)⟩
  | succ m ih =>
    intro i hi
    have ih := ih (i + 1) (by omega)
    have hst := cpI_step (σ := M0) (f := 110) (a := 13) (d := 64 * p) (g := 110) (c := 5) (o := 64 * p) (m := i) (by omega)
    have e1 : nm (64 * (p : Int) + i) = ((64 * p + i : Nat) : Int) := by rw [nm_id (by omega)]; omega
    have e3 : (((64 * p + i : Nat) : Int)).toNat = 64 * p + i := by omega
    unfold wp_X8_send_120
    rw [nm_nat (n := 65) (by omega) (by omega), show nm 64 = 64 by decide, e1, e3]
    refine ⟨fun z => absurd z (by omega), fun _ => ⟨⟨by omega, by omega⟩, ⟨by omega, by omega⟩, ?_⟩⟩
    rintro _ rfl
    rw [hst]
    exact ih
