/-! LAYER 2: a message is put at the end of a queue -/
theorem gI_mkMsg (σ : St) (v q1 q2 f a b : Nat) : gI (mkMsg σ v q1 q2) f a b = if (f = 17 ∨ f = 18) ∧ a = v then 0 else gI σ f a b := by
  unfold gI mkMsg
  show (if (f = 17 ∨ f = 18) ∧ a = v then 0 else σ.2.2.1 f a b).toInt = _
  split <;> rfl
theorem gL_mkMsg (σ : St) (v q1 q2 f a b : Nat) : gL (mkMsg σ v q1 q2) f a b = if f = 11 ∧ a = v then 0 else gL σ f a b := by
  unfold gL mkMsg
  show (if f = 11 ∧ a = v then 0 else σ.2.2.2.1 f a b).toInt = _
  split <;> rfl
theorem gR_mkMsg (σ : St) (v q1 q2 f a b : Nat) : gR (mkMsg σ v q1 q2) f a b = gR σ f a b := rfl
theorem wait_off {n v : Nat} {C C' M M' : St} (hv : v % 2 = 1) (hI : ∀ f, f ∈ [15, 19, 20, 21, 22, 23, 24, 25, 26, 27, 32, 45] → ∀ a b, gI C' f a b = gI C f a b) (hI2 : ∀ f, f = 17 ∨ f = 18 → ∀ a b, a ≠ v → gI C' f a b = gI C f a b) (hL : ∀ a b, gL C' 12 a b = gL C 12 a b) (hL2 : ∀ a b, a ≠ v → gL C' 11 a b = gL C 11 a b) (hR : ∀ f, f ∈ [2, 3, 10] → ∀ a b, gR C' f a b = gR C f a b) (g : AgM [7, 9, 11, 12, 13, 14, 20, 21, 22, 23] [10] M M') (hs : ∀ p, p < n → waitOK C M p) : ∀ p, p < n → waitOK C' M' p := by
  obtain ⟨mI, mL, m0, m1⟩ := g
  have hr := rt_ag (C := C) (C' := C') (hR 2 (by decide)) (hR 3 (by decide))
  have hh := hre_ag (C := C) (C' := C') (hR 2 (by decide)) (hR 3 (by decide)) (hI 32 (by decide))
  have a17 : ∀ p b : Nat, gI C' 17 (2 * p) b = gI C 17 (2 * p) b := fun p b => hI2 17 (Or.inl rfl) _ _ (by omega)
  have a18 : ∀ p b : Nat, gI C' 18 (2 * p) b = gI C 18 (2 * p) b := fun p b => hI2 18 (Or.inr rfl) _ _ (by omega)
  have a11 : ∀ p b : Nat, gL C' 11 (2 * p) b = gL C 11 (2 * p) b := fun p b => hL2 _ _ (by omega)
  unfold waitOK sendOK takeOK tryOK stepOK at hs ⊢
  simp only [hr, hh, hI 15 (by decide), a17, a18, a11, hI 19 (by decide), hI 20 (by decide), hI 21 (by decide), hI 22 (by decide), hI 23 (by decide), hI 24 (by decide), hI 25 (by decide), hI 26 (by decide), hI 27 (by decide), hI 32 (by decide), hI 45 (by decide), hL, hR 10 (by decide), mI 7 (by decide), mI 9 (by decide), mI 11 (by decide), mI 12 (by decide), mI 13 (by decide), mI 14 (by decide), mI 20 (by decide), mI 21 (by decide), mI 22 (by decide), mI 23 (by decide), mL 10 (by decide)]
  exact hs
theorem SimB.tags {k n : Nat} {ls : List Nat} {e e2 : Option Nat} {C M : St} {ad : Nat → Nat → Nat} {tg : List (Nat × Nat)} (h : SimB k n ls e e2 C M) (hT : tagOK n (ad, tg, C.2.2)) (hR : rowOK (ad, tg, C.2.2)) : SimB k n ls e e2 (ad, tg, C.2.2) M :=
  ⟨h.1, h.2.1, h.2.2.1, hT, hR, h.2.2.2.2.2.1, h.2.2.2.2.2.2.1, h.2.2.2.2.2.2.2.1, h.2.2.2.2.2.2.2.2.1, h.2.2.2.2.2.2.2.2.2.1, h.2.2.2.2.2.2.2.2.2.2⟩
theorem SimB.withMsg {k n : Nat} {ls : List Nat} {e e2 : Option Nat} {C M : St} {v q1 q2 : Nat} (h : SimB k n ls e e2 C M) (hv : v % 2 = 1) (hn : (12, v) ∉ C.2.1) : SimB k n ls e e2 (mkMsg C v q1 q2) M := by
  have hsub : ∀ x, x ∈ C.2.1 → x ∈ (mkMsg C v q1 q2).2.1 := fun x hx => List.mem_append_left _ hx
  have ht : tagOK n (mkMsg C v q1 q2) := by
    intro k a hm
    rcases List.mem_append.mp hm with z | z
    · exact h.2.2.2.1 k a z
    · simp at z
      rcases z with ⟨rfl, rfl⟩ | ⟨rfl, rfl⟩
      · exact ⟨fun z => by omega, fun _ z => by omega, fun z => by omega⟩
      · exact ⟨fun z => by omega, fun _ z => by omega, fun z => by omega⟩
  have hrw : rowOK (mkMsg C v q1 q2) := by
    refine ⟨fun s i u hu => ?_, fun s i s' i' u h1 h2 => h.2.2.2.2.1.2 s i s' i' u h1 h2⟩
    obtain ⟨a1, a2⟩ := h.2.2.2.2.1.1 s i u hu
    exact ⟨a1, hsub _ a2⟩
  have g := h.tags (ad := (mkMsg C v q1 q2).1) (tg := (mkMsg C v q1 q2).2.1) ht hrw
  refine g.msgs ⟨rfl, fun f hf a b => ?_, fun f hf a b => ?_, fun f hf a b => rfl⟩ AgM.rf hrw (wait_off (C := C) (v := v) hv (fun f hf a b => ?_) (fun f hf a b hne => ?_) (fun a b => ?_) (fun a b hne => ?_) (fun f hf a b => rfl) AgM.rf h.2.2.2.2.2.2.2.1) (fun s hs hh => ?_)
  · rw [gI_mkMsg, if_neg (by rintro ⟨rfl | rfl, -⟩ <;> revert hf <;> decide)]; rfl
  · rw [gL_mkMsg, if_neg (by rintro ⟨rfl, -⟩; revert hf; decide)]; rfl
  · rw [gI_mkMsg, if_neg (by rintro ⟨rfl | rfl, -⟩ <;> revert hf <;> decide)]
  · rw [gI_mkMsg, if_neg (fun z => hne z.2)]
  · rw [gL_mkMsg, if_neg (by omega)]
  · rw [gL_mkMsg, if_neg (by omega)]
  · have hh' : hre C s := by
      unfold hre at hh ⊢
      rw [gI_mkMsg, if_neg (by omega)] at hh
      exact hh
    have := h.2.2.2.2.2.2.2.2.2.1 s hs hh'
    simp only [gI_mkMsg, show ¬ ((40 = 17 ∨ 40 = 18) ∧ s = v) by omega, show ¬ ((41 = 17 ∨ 41 = 18) ∧ s = v) by omega, show ¬ ((42 = 17 ∨ 42 = 18) ∧ s = v) by omega, if_false]
    refine ⟨this.1, this.2.1, this.2.2.1, this.2.2.2.1, this.2.2.2.2.1, this.2.2.2.2.2.1, this.2.2.2.2.2.2.1, fun i hi => ?_⟩
    obtain ⟨u, hu, hm⟩ := this.2.2.2.2.2.2.2 i hi
    have hne : u ≠ v := fun z => hn (z ▸ (h.2.2.2.2.1.1 s i u hu).2)
    refine ⟨u, hu, ?_⟩
    unfold msgOK at hm ⊢
    simp only [gI_mkMsg, gL_mkMsg, hne, and_false, if_false]
    exact hm
def filC (C : St) (u v m : Nat) : St := cpI (uI (uL C 11 v 0 (gL C 11 u 0)) 17 v 0 (gI C 17 u 0)) 18 v 0 18 u 0 m
def appC (C : St) (s u v i m : Nat) : St := uI (uI (uR (filC C u v m) 11 s i (some v)) 40 s 0 (gI C 40 s 0 + 1)) 41 s 0 (gI C 41 s 0 + gI C 17 u 0)
def appM (M : St) (s p i : Nat) (ty sz : Int) (m : Nat) : St := uI (uI (cpI (uI (uL M 110 35 (40 * s + i) ty) 110 36 (40 * s + i) sz) 110 37 (64 * (40 * s + i)) 110 13 (64 * p) m) 110 34 s (gI M 110 34 s + 1)) 110 32 s (gI M 110 32 s + sz)
def spareS (C : St) (s i v : Nat) (C0 : St) : Prop := (gR C 11 s i = some v ∧ C0 = C) ∨ (gR C 11 s i = none ∧ newMsg C v C0)
theorem sp_append {C : St} {s u i m : Nat} {po : St → Prop} (hs : s < 12) (hi : gI C 40 s 0 = i) (hi40 : i < 40) (hm : gI C 17 u 0 = m) (hm64 : m ≤ 64) (hu : u % 2 = 0) (hrow : rowOK C) (h : ∀ v C0, spareS C s i v C0 → po (appC C0 s u v i m)) : wp_X3_append s (some u) C po := by
  have e40 : nm 40 = 40 := by decide
  have eT : ((i : Int)).toNat = i := by omega
  have fin : ∀ v C0, v % 2 = 1 → gI C0 40 s 0 = i → gI C0 17 u 0 = m → po (appC C0 s u v i m) → wp_X3_append_41 po s (some u) (some v) C0 := by
    intro v C0 hv h40 h17 hpo
    unfold wp_X3_append_41
    refine ⟨u, rfl, v, rfl, ?_⟩
    rw [h17]
    refine sp_fill (g := 18) (len := 64) rfl rfl rfl hm64 hm64 (by decide) (by omega) ?_
    have e1 : ∀ f a b, f ≠ 17 → f ≠ 18 → gI (cpI (uI (uL C0 11 v 0 (gL C0 11 u 0)) 17 v 0 (m : Int)) 18 v 0 18 u 0 m) f a b = gI C0 f a b := by
      intro f a b z1 z2
      rw [gI_cpI, if_neg (by omega), gI_uI, if_neg (by omega), gI_uL]
    rw [e1 40 s 0 (by decide) (by decide), h40, show nm (i : Int) = i from nm_nat (n := 40) hi40 (by decide), eT]
    refine ⟨hs, by omega, ?_⟩
    rintro _ rfl _ rfl _ rfl
    have e3 : gI (uI (uR (cpI (uI (uL C0 11 v 0 (gL C0 11 u 0)) 17 v 0 (m : Int)) 18 v 0 18 u 0 m) 11 s i (some v)) 40 s 0 ((i : Int) + 1)) 41 s 0 = gI C0 41 s 0 := by
      rw [gI_uI, if_neg (by omega), gI_uR, e1 41 s 0 (by decide) (by decide)]
    have e4 : gI (uI (uR (cpI (uI (uL C0 11 v 0 (gL C0 11 u 0)) 17 v 0 (m : Int)) 18 v 0 18 u 0 m) 11 s i (some v)) 40 s 0 ((i : Int) + 1)) 17 u 0 = m := by
      rw [gI_uI, if_neg (by omega), gI_uR, gI_cpI, if_neg (by omega), gI_uI, if_neg (by omega), gI_uL, h17]
    rw [gI_uR, e1 40 s 0 (by decide) (by decide), h40, e3, e4]
    unfold appC filC at hpo
    rw [h40, h17] at hpo
    exact hpo
  unfold wp_X3_append
  rw [nm_gI, hi, e40, eT]
  refine ⟨hs, fun _ => ⟨by omega, ?_⟩, fun z => absurd z (by omega)⟩
  rintro _ rfl
  refine ⟨fun hn v C0 hc => ?_, fun v hv => ⟨by omega, ?_⟩⟩
  · have hsp := h v C0 (Or.inr ⟨hn, hc⟩)
    obtain ⟨_, _, hv, q1, q2, rfl⟩ := hc
    refine fin v _ hv ?_ ?_ hsp
    · rw [gI_mkMsg, if_neg (by omega)]; exact hi
    · rw [gI_mkMsg, if_neg (by omega)]; exact hm
  · rintro _ rfl
    rw [hv]
    exact fin v C (hrow.1 s i v hv).1 hi hm (h v C (Or.inl ⟨hv, rfl⟩))
theorem gv_app {o : Option Nat} {M : St} {s p i m : Nat} {ty sz : Int} : gv o (appM M s p i ty sz m) = appM (gv o M) s p i ty sz m := by
  cases o with
  | none => rfl
  | some q =>
    show goM (appM M s p i ty sz m) q 0 = appM (goM M q 0) s p i ty sz m
    unfold appM
    refine St_ext rfl rfl (fun f a b => ?_) (fun f a b => rfl) (fun f a b => rfl)
    simp only [gI_goM, gI_cpI, gI_uI, gI_uL]
    by_cases h1 : f = 110 ∧ a = 4 ∧ b = q
    · obtain ⟨rfl, rfl, rfl⟩ := h1
      simp
    · rw [if_neg h1]
      by_cases h2 : f = 110 ∧ a = 7 ∧ b = q
      · obtain ⟨rfl, rfl, rfl⟩ := h2
        simp
      · rw [if_neg h2, if_neg h1, if_neg h2]
        simp
theorem sp_sent_loop {M0 : St} {s p c m0 : Nat} {po : Int → St → Prop} (hs : s < 12) (hp : p < 16) (hc : c < 40) (hm : m0 ≤ 64) (h : po 1 (uI (uI (cpI M0 110 37 (64 * (40 * s + c)) 110 13 (64 * p) m0) 110 34 s (gI M0 110 34 s + 1)) 110 32 s (gI M0 110 32 s + m0))) :
    ∀ m i : Nat, i + m = m0 → wp_X8_isSent_183 po (m + 1) (s : Int) (p : Int) (m0 : Int) (40 * (s : Int) + c) (i : Int) (cpI M0 110 37 (64 * (40 * s + c)) 110 13 (64 * p) i) := by
  have es : ((s : Int)).toNat = s := by omega
  have i12 : (0 : Int) ≤ s ∧ (s : Int) < 12 := by omega
  intro m
  induction m with
  | zero =>
    intro i hi
    have e : i = m0 := by omega
    subst e
    unfold wp_X8_isSent_183
    rw [nm_nat (n := 65) (by omega) (by omega), nm_nat (n := 12) hs (by omega), es]
    refine ⟨fun _ => ⟨i12, i12, ?_⟩, fun z => absurd z (by omega)⟩
    rintro _ rfl
    refine ⟨i12, i12, ?_⟩
    rintro _ rfl
    have e1 : gI (cpI M0 110 37 (64 * (40 * s + c)) 110 13 (64 * p) i) 110 34 s = gI M0 110 34 s := by rw [gI_cpI, if_neg (by omega)]
    have e2 : gI (uI (cpI M0 110 37 (64 * (40 * s + c)) 110 13 (64 * p) i) 110 34 s (gI M0 110 34 s + 1)) 110 32 s = gI M0 110 32 s := by rw [gI_uI, if_neg (by omega), gI_cpI, if_neg (by omega)]
    rw [e1, e2]
    exact h
  | succ m ih =>
    intro i hi
    have ih := ih (i + 1) (by omega)
    have hst := cpI_step (σ := M0) (f := 110) (a := 37) (d := 64 * (40 * s + c)) (g := 110) (c := 13) (o := 64 * p) (m := i) (by omega)
    have e1 : nm (64 * (p : Int) + i) = ((64 * p + i : Nat) : Int) := by rw [nm_id (by omega)]; omega
    have e2 : nm (64 * (40 * (s : Int) + c) + i) = ((64 * (40 * s + c) + i : Nat) : Int) := by rw [nm_id (by omega)]; omega
    have e3 : (((64 * p + i : Nat) : Int)).toNat = 64 * p + i := by omega
    have e4 : (((64 * (40 * s + c) + i : Nat) : Int)).toNat = 64 * (40 * s + c) + i := by omega
    unfold wp_X8_isSent_183
    rw [nm_nat (n := 65) (by omega) (by omega), nm_nat (n := 65) (by omega) (by omega), e1, e2, e3, e4]
    refine ⟨fun z => absurd z (by omega), fun _ => ⟨⟨by omega, by omega⟩, ⟨by omega, by omega⟩, ?_⟩⟩
    rintro _ rfl
    rw [hst]
    exact ih
theorem sp_tail {k n : Nat} {ls : List Nat} {e e2 o : Option Nat} {C M : St} {s p c m : Nat} {ty : Int} {po : Int → St → Prop} (h : SimB k n ls e e2 C (gv o M)) (hs : s < 12) (hp : p < 16) (hh : hre C s) (hc : gI C 40 s 0 = c) (hm : m ≤ 64) (h1 : fitC C s (m : Int) → po 1 (appM M s p c ty (m : Int) m)) (h0 : ¬ fitC C s (m : Int) → po 0 M) : wp_X8_isSent_24 po 1 (s : Int) (p : Int) ty (m : Int) (-1) M := by
  have es : ((s : Int)).toNat = s := by omega
  have i12 : (0 : Int) ≤ s ∧ (s : Int) < 12 := by omega
  have hq := h.2.2.2.2.2.2.2.2.2.1 s hs hh
  have q1 := hq.1
  rw [gI_gv o M s (by decide), hc] at q1
  unfold wp_X8_isSent_24
  refine ⟨fun _ => sp_fitsV h hs hh (fun hf => ⟨fun _ => ?_, fun z => absurd z (by decide)⟩) (fun hf => ⟨fun z => absurd n0 z, fun _ => h0 hf⟩), fun z => absurd rfl z⟩
  have hc40 : c < 40 := by have := hf.2.1; omega
  have e1 : nm (40 * (s : Int) + c) = ((40 * s + c : Nat) : Int) := by rw [nm_id (by omega)]; omega
  have e2 : (((40 * s + c : Nat) : Int)).toNat = 40 * s + c := by omega
  rw [nm_nat (n := 12) hs (by omega), es, ← q1, e1, e2]
  refine ⟨i12, ⟨by omega, by omega⟩, ?_⟩
  rintro _ rfl
  refine ⟨⟨by omega, by omega⟩, ?_⟩
  rintro _ rfl
  refine ⟨m + 1, ?_⟩
  have key := sp_sent_loop (M0 := uI (uL M 110 35 (40 * s + c) ty) 110 36 (40 * s + c) (m : Int)) (po := po) hs hp hc40 hm (by
    have := h1 hf
    unfold appM at this
    rw [gI_uI, if_neg (by omega), gI_uL, gI_uI, if_neg (by omega), gI_uL]
    exact this) m 0 (by omega)
  rw [cpI_0] at key
  exact key
