/-! LAYER 2: what stays, part by part -/
def AgC (LI LL LR : List Nat) (C C' : St) : Prop := C'.2.1 = C.2.1 ∧ (∀ f, f ∈ LI → ∀ a b, gI C' f a b = gI C f a b) ∧ (∀ f, f ∈ LL → ∀ a b, gL C' f a b = gL C f a b) ∧ ∀ f, f ∈ LR → ∀ a b, gR C' f a b = gR C f a b
def AgM (LI LL : List Nat) (M M' : St) : Prop := (∀ f, f ∈ LI → ∀ b, gI M' 110 f b = gI M 110 f b) ∧ (∀ f, f ∈ LL → ∀ b, gL M' 110 f b = gL M 110 f b) ∧ gI M' 100 0 0 = gI M 100 0 0 ∧ gI M' 101 0 0 = gI M 101 0 0
theorem AgC.rf {LI LL LR : List Nat} {C : St} : AgC LI LL LR C C := ⟨rfl, fun _ _ _ _ => rfl, fun _ _ _ _ => rfl, fun _ _ _ _ => rfl⟩
theorem AgM.rf {LI LL : List Nat} {M : St} : AgM LI LL M M := ⟨fun _ _ _ => rfl, fun _ _ _ => rfl, rfl, rfl⟩
theorem AgC.tr {LI LL LR : List Nat} {a b c : St} (h : AgC LI LL LR a b) (g : AgC LI LL LR b c) : AgC LI LL LR a c := ⟨g.1.trans h.1, fun f hf x y => (g.2.1 f hf x y).trans (h.2.1 f hf x y), fun f hf x y => (g.2.2.1 f hf x y).trans (h.2.2.1 f hf x y), fun f hf x y => (g.2.2.2 f hf x y).trans (h.2.2.2 f hf x y)⟩
theorem AgM.tr {LI LL : List Nat} {a b c : St} (h : AgM LI LL a b) (g : AgM LI LL b c) : AgM LI LL a c := ⟨fun f hf y => (g.1 f hf y).trans (h.1 f hf y), fun f hf y => (g.2.1 f hf y).trans (h.2.1 f hf y), g.2.2.1.trans h.2.2.1, g.2.2.2.trans h.2.2.2⟩
theorem AgC.uI {LI LL LR : List Nat} {C C1 : St} (h : AgC LI LL LR C C1) {f : Nat} (a b : Nat) (v : Int) (hf : f ∉ LI) : AgC LI LL LR C (uI C1 f a b v) := by
  refine ⟨h.1, fun f' hf' a' b' => ?_, h.2.2.1, h.2.2.2⟩
  rw [gI_uI, if_neg (by rintro ⟨rfl, -⟩; exact hf hf')]; exact h.2.1 f' hf' a' b'
theorem AgC.uL {LI LL LR : List Nat} {C C1 : St} (h : AgC LI LL LR C C1) {f : Nat} (a b : Nat) (v : Int) (hf : f ∉ LL) : AgC LI LL LR C (uL C1 f a b v) := by
  refine ⟨h.1, h.2.1, fun f' hf' a' b' => ?_, h.2.2.2⟩
  rw [gL_uL, if_neg (by rintro ⟨rfl, -⟩; exact hf hf')]; exact h.2.2.1 f' hf' a' b'
theorem AgC.uR {LI LL LR : List Nat} {C C1 : St} (h : AgC LI LL LR C C1) {f : Nat} (a b : Nat) (v : Option Nat) (hf : f ∉ LR) : AgC LI LL LR C (uR C1 f a b v) := by
  refine ⟨h.1, h.2.1, h.2.2.1, fun f' hf' a' b' => ?_⟩
  rw [gR_uR, if_neg (by rintro ⟨rfl, -⟩; exact hf hf')]; exact h.2.2.2 f' hf' a' b'
theorem AgM.uI {LI LL : List Nat} {M M1 : St} (h : AgM LI LL M M1) {a : Nat} (b : Nat) (v : Int) (hf : a ∉ LI) : AgM LI LL M (uI M1 110 a b v) := by
  refine ⟨fun f' hf' b' => ?_, h.2.1, ?_, ?_⟩
  · rw [gI_uI, if_neg (by rintro ⟨-, rfl, -⟩; exact hf hf')]; exact h.1 f' hf' b'
  · rw [gI_uI, if_neg (by rintro ⟨z, -⟩; cases z)]; exact h.2.2.1
  · rw [gI_uI, if_neg (by rintro ⟨z, -⟩; cases z)]; exact h.2.2.2
theorem AgM.uL {LI LL : List Nat} {M M1 : St} (h : AgM LI LL M M1) {a : Nat} (b : Nat) (v : Int) (hf : a ∉ LL) : AgM LI LL M (uL M1 110 a b v) := by
  refine ⟨h.1, fun f' hf' b' => ?_, h.2.2.1, h.2.2.2⟩
  rw [gL_uL, if_neg (by rintro ⟨-, rfl, -⟩; exact hf hf')]; exact h.2.1 f' hf' b'
theorem AgC.sub {LI LL LR LI' LL' LR' : List Nat} {C C' : St} (h : AgC LI LL LR C C') (h1 : ∀ f, f ∈ LI' → f ∈ LI) (h2 : ∀ f, f ∈ LL' → f ∈ LL) (h3 : ∀ f, f ∈ LR' → f ∈ LR) : AgC LI' LL' LR' C C' := ⟨h.1, fun f hf => h.2.1 f (h1 f hf), fun f hf => h.2.2.1 f (h2 f hf), fun f hf => h.2.2.2 f (h3 f hf)⟩
theorem AgM.sub {LI LL LI' LL' : List Nat} {M M' : St} (h : AgM LI LL M M') (h1 : ∀ f, f ∈ LI' → f ∈ LI) (h2 : ∀ f, f ∈ LL' → f ∈ LL) : AgM LI' LL' M M' := ⟨fun f hf => h.1 f (h1 f hf), fun f hf => h.2.1 f (h2 f hf), h.2.2⟩
theorem rt_ag {C C' : St} (h2 : ∀ a b, gR C' 2 a b = gR C 2 a b) (h3 : ∀ a b, gR C' 3 a b = gR C 3 a b) (t : Nat) : rt C' t = rt C t := by unfold rt; rw [h2, h3]
theorem hre_ag {C C' : St} (h2 : ∀ a b, gR C' 2 a b = gR C 2 a b) (h3 : ∀ a b, gR C' 3 a b = gR C 3 a b) (h : ∀ a b, gI C' 32 a b = gI C 32 a b) (t : Nat) : hre C' t ↔ hre C t := by unfold hre; rw [rt_ag h2 h3, h]
theorem root_ag {n : Nat} {C C' M M' : St} (h : AgC [1] [] [1] C C') (g : AgM [] [] M M') (hs : rootOK n C M) : rootOK n C' M' := by
  obtain ⟨htg, hI, hL, hR⟩ := h
  obtain ⟨mI, mL, m0, m1⟩ := g
  unfold rootOK at hs ⊢
  simp only [hI 1 (by decide), hR 1 (by decide), m0]
  exact hs
theorem line_ag {n : Nat} {ls : List Nat} {C C' M M' : St} (h : AgC [2, 15] [] [4] C C') (g : AgM [] [] M M') (hs : lineOK n ls C) : lineOK n ls C' := by
  obtain ⟨htg, hI, hL, hR⟩ := h
  obtain ⟨mI, mL, m0, m1⟩ := g
  unfold lineOK at hs ⊢
  simp only [hI 2 (by decide), hI 15 (by decide), hR 4 (by decide)]
  exact hs
theorem turn_ag {k : Nat} {ls : List Nat} {C C' M M' : St} (h : AgC [] [] [] C C') (g : AgM [8] [] M M') (hs : turnOK k ls M) : turnOK k ls M' := by
  obtain ⟨htg, hI, hL, hR⟩ := h
  obtain ⟨mI, mL, m0, m1⟩ := g
  unfold turnOK at hs ⊢
  simp only [mI 8 (by decide), m1]
  exact hs
theorem tag_ag {n : Nat} {C C' M M' : St} (h : AgC [] [] [2, 3] C C') (g : AgM [] [] M M') (hs : tagOK n C) : tagOK n C' := by
  obtain ⟨htg, hI, hL, hR⟩ := h
  obtain ⟨mI, mL, m0, m1⟩ := g
  have hr := rt_ag (C := C) (C' := C') (hR 2 (by decide)) (hR 3 (by decide))
  unfold tagOK at hs ⊢
  simp only [hr, htg]
  exact hs
theorem row_ag {C C' M M' : St} (h : AgC [] [] [11] C C') (g : AgM [] [] M M') (hs : rowOK C) : rowOK C' := by
  obtain ⟨htg, hI, hL, hR⟩ := h
  obtain ⟨mI, mL, m0, m1⟩ := g
  unfold rowOK at hs ⊢
  simp only [hR 11 (by decide), htg]
  exact hs
theorem proc_ag {n : Nat} {e e2 : Option Nat} {C C' M M' : St} (h : AgC [10, 11, 12, 13, 14, 15, 16] [10] [] C C') (g : AgM [1, 2, 3, 4, 5, 7] [6] M M') (hs : ∀ p, p < n → procOK e e2 C M p) : ∀ p, p < n → procOK e e2 C' M' p := by
  obtain ⟨htg, hI, hL, hR⟩ := h
  obtain ⟨mI, mL, m0, m1⟩ := g
  unfold procOK at hs ⊢
  simp only [hI 10 (by decide), hI 11 (by decide), hI 12 (by decide), hI 13 (by decide), hI 14 (by decide), hI 15 (by decide), hI 16 (by decide), hL 10 (by decide), mI 1 (by decide), mI 2 (by decide), mI 3 (by decide), mI 4 (by decide), mI 5 (by decide), mI 7 (by decide), mL 6 (by decide)]
  exact hs
theorem told_ag {n : Nat} {C C' M M' : St} (h : AgC [22, 23, 24, 25] [] [] C C') (g : AgM [16, 17, 18, 19] [] M M') (hs : ∀ p, p < n → toldOK C M p) : ∀ p, p < n → toldOK C' M' p := by
  obtain ⟨htg, hI, hL, hR⟩ := h
  obtain ⟨mI, mL, m0, m1⟩ := g
  unfold toldOK stepOK at hs ⊢
  simp only [hI 22 (by decide), hI 23 (by decide), hI 24 (by decide), hI 25 (by decide), mI 16 (by decide), mI 17 (by decide), mI 18 (by decide), mI 19 (by decide)]
  exact hs
theorem wait_ag {n : Nat} {C C' M M' : St} (h : AgC [15, 17, 18, 19, 20, 21, 22, 23, 24, 25, 26, 27, 32, 45] [11, 12] [2, 3, 10] C C') (g : AgM [7, 9, 11, 12, 13, 14, 20, 21, 22, 23] [10] M M') (hs : ∀ p, p < n → waitOK C M p) : ∀ p, p < n → waitOK C' M' p := by
  obtain ⟨htg, hI, hL, hR⟩ := h
  obtain ⟨mI, mL, m0, m1⟩ := g
  have hr := rt_ag (C := C) (C' := C') (hR 2 (by decide)) (hR 3 (by decide))
  have hh := hre_ag (C := C) (C' := C') (hR 2 (by decide)) (hR 3 (by decide)) (hI 32 (by decide))
  unfold waitOK sendOK takeOK tryOK stepOK at hs ⊢
  simp only [hr, hh, hI 15 (by decide), hI 17 (by decide), hI 18 (by decide), hI 19 (by decide), hI 20 (by decide), hI 21 (by decide), hI 22 (by decide), hI 23 (by decide), hI 24 (by decide), hI 25 (by decide), hI 26 (by decide), hI 27 (by decide), hI 32 (by decide), hI 45 (by decide), hL 11 (by decide), hL 12 (by decide), hR 10 (by decide), mI 7 (by decide), mI 9 (by decide), mI 11 (by decide), mI 12 (by decide), mI 13 (by decide), mI 14 (by decide), mI 20 (by decide), mI 21 (by decide), mI 22 (by decide), mI 23 (by decide), mL 10 (by decide)]
  exact hs
theorem thing_ag {k : Nat} {C C' M M' : St} (h : AgC [30, 31, 32, 33, 34, 35, 36, 37, 38, 39] [] [2, 3] C C') (g : AgM [24, 25, 26, 27, 28, 29, 30, 31] [] M M') (hs : ∀ t, t < 24 → thingOK k C M t) : ∀ t, t < 24 → thingOK k C' M' t := by
  obtain ⟨htg, hI, hL, hR⟩ := h
  obtain ⟨mI, mL, m0, m1⟩ := g
  have hr := rt_ag (C := C) (C' := C') (hR 2 (by decide)) (hR 3 (by decide))
  have hh := hre_ag (C := C) (C' := C') (hR 2 (by decide)) (hR 3 (by decide)) (hI 32 (by decide))
  unfold thingOK at hs ⊢
  simp only [hr, hh, hI 30 (by decide), hI 31 (by decide), hI 32 (by decide), hI 33 (by decide), hI 34 (by decide), hI 35 (by decide), hI 36 (by decide), hI 37 (by decide), hI 38 (by decide), hI 39 (by decide), mI 24 (by decide), mI 25 (by decide), mI 26 (by decide), mI 27 (by decide), mI 28 (by decide), mI 29 (by decide), mI 30 (by decide), mI 31 (by decide)]
  exact hs
theorem queue_ag {C C' M M' : St} (h : AgC [17, 18, 32, 40, 41, 42] [11] [2, 3, 11] C C') (g : AgM [32, 33, 34, 36, 37] [35] M M') (hs : ∀ s, s < 12 → queueOK C M s) : ∀ s, s < 12 → queueOK C' M' s := by
  obtain ⟨htg, hI, hL, hR⟩ := h
  obtain ⟨mI, mL, m0, m1⟩ := g
  have hr := rt_ag (C := C) (C' := C') (hR 2 (by decide)) (hR 3 (by decide))
  have hh := hre_ag (C := C) (C' := C') (hR 2 (by decide)) (hR 3 (by decide)) (hI 32 (by decide))
  unfold queueOK msgOK at hs ⊢
  simp only [hr, hh, hI 17 (by decide), hI 18 (by decide), hI 32 (by decide), hI 40 (by decide), hI 41 (by decide), hI 42 (by decide), hL 11 (by decide), hR 11 (by decide), mI 32 (by decide), mI 33 (by decide), mI 34 (by decide), mI 36 (by decide), mI 37 (by decide), mL 35 (by decide)]
  exact hs
theorem set_ag {C C' M M' : St} (h : AgC [32, 45, 46, 47, 48] [] [2, 3] C C') (g : AgM [38, 39, 40, 41] [] M M') (hs : ∀ s, s < 12 → setOK C M s) : ∀ s, s < 12 → setOK C' M' s := by
  obtain ⟨htg, hI, hL, hR⟩ := h
  obtain ⟨mI, mL, m0, m1⟩ := g
  have hr := rt_ag (C := C) (C' := C') (hR 2 (by decide)) (hR 3 (by decide))
  have hh := hre_ag (C := C) (C' := C') (hR 2 (by decide)) (hR 3 (by decide)) (hI 32 (by decide))
  unfold setOK at hs ⊢
  simp only [hr, hh, hI 32 (by decide), hI 45 (by decide), hI 46 (by decide), hI 47 (by decide), hI 48 (by decide), mI 38 (by decide), mI 39 (by decide), mI 40 (by decide), mI 41 (by decide)]
  exact hs
theorem fre_ag {n : Nat} {M M' : St} (g : AgM [4, 5, 7, 16] [6] M M') (hs : freM n M) : freM n M' := by
  obtain ⟨mI, mL, m0, m1⟩ := g
  unfold freM at hs ⊢
  simp only [mI 4 (by decide), mI 5 (by decide), mI 7 (by decide), mI 16 (by decide), mL 6 (by decide)]
  exact hs
/-- owners and modes of things were written -/
theorem SimB.own {k n : Nat} {ls : List Nat} {e e2 : Option Nat} {C C' M M' : St} (h : SimB k n ls e e2 C M) (hC : AgC [1, 2, 10, 11, 12, 13, 14, 15, 16, 17, 18, 19, 20, 21, 22, 23, 24, 25, 26, 27, 30, 31, 32, 33, 34, 37, 38, 40, 41, 42, 45, 46, 47, 48] [10, 11, 12] [1, 2, 3, 4, 10, 11] C C') (hM : AgM [1, 2, 3, 4, 5, 7, 8, 9, 11, 12, 13, 14, 16, 17, 18, 19, 20, 21, 22, 23, 24, 25, 26, 29, 30, 32, 33, 34, 35, 36, 37, 38, 39, 40, 41] [6, 10, 35] M M') (h_thing : ∀ t, t < 24 → thingOK k C' M' t) : SimB k n ls e e2 C' M' :=
  ⟨root_ag (hC.sub (by decide) (by decide) (by decide)) (hM.sub (by decide) (by decide)) (h.1), line_ag (hC.sub (by decide) (by decide) (by decide)) (hM.sub (by decide) (by decide)) (h.2.1), turn_ag (hC.sub (by decide) (by decide) (by decide)) (hM.sub (by decide) (by decide)) (h.2.2.1), tag_ag (hC.sub (by decide) (by decide) (by decide)) (hM.sub (by decide) (by decide)) (h.2.2.2.1), row_ag (hC.sub (by decide) (by decide) (by decide)) (hM.sub (by decide) (by decide)) (h.2.2.2.2.1), proc_ag (hC.sub (by decide) (by decide) (by decide)) (hM.sub (by decide) (by decide)) (h.2.2.2.2.2.1), told_ag (hC.sub (by decide) (by decide) (by decide)) (hM.sub (by decide) (by decide)) (h.2.2.2.2.2.2.1), wait_ag (hC.sub (by decide) (by decide) (by decide)) (hM.sub (by decide) (by decide)) (h.2.2.2.2.2.2.2.1), h_thing, queue_ag (hC.sub (by decide) (by decide) (by decide)) (hM.sub (by decide) (by decide)) (h.2.2.2.2.2.2.2.2.2.1), set_ag (hC.sub (by decide) (by decide) (by decide)) (hM.sub (by decide) (by decide)) (h.2.2.2.2.2.2.2.2.2.2.1), fre_ag (hM.sub (by decide) (by decide)) h.2.2.2.2.2.2.2.2.2.2.2⟩
/-- values of counters, their last, undoes were written -/
theorem SimB.vals {k n : Nat} {ls : List Nat} {e e2 : Option Nat} {C C' M M' : St} (h : SimB k n ls e e2 C M) (hC : AgC [1, 2, 10, 11, 12, 13, 14, 15, 16, 17, 18, 19, 20, 21, 22, 23, 24, 25, 26, 27, 30, 31, 32, 33, 34, 35, 36, 37, 38, 39, 40, 41, 42, 45] [10, 11, 12] [1, 2, 3, 4, 10, 11] C C') (hM : AgM [1, 2, 3, 4, 5, 7, 8, 9, 11, 12, 13, 14, 16, 17, 18, 19, 20, 21, 22, 23, 24, 25, 26, 27, 28, 29, 30, 31, 32, 33, 34, 35, 36, 37, 38] [6, 10, 35] M M') (h_set : ∀ s, s < 12 → setOK C' M' s) : SimB k n ls e e2 C' M' :=
  ⟨root_ag (hC.sub (by decide) (by decide) (by decide)) (hM.sub (by decide) (by decide)) (h.1), line_ag (hC.sub (by decide) (by decide) (by decide)) (hM.sub (by decide) (by decide)) (h.2.1), turn_ag (hC.sub (by decide) (by decide) (by decide)) (hM.sub (by decide) (by decide)) (h.2.2.1), tag_ag (hC.sub (by decide) (by decide) (by decide)) (hM.sub (by decide) (by decide)) (h.2.2.2.1), row_ag (hC.sub (by decide) (by decide) (by decide)) (hM.sub (by decide) (by decide)) (h.2.2.2.2.1), proc_ag (hC.sub (by decide) (by decide) (by decide)) (hM.sub (by decide) (by decide)) (h.2.2.2.2.2.1), told_ag (hC.sub (by decide) (by decide) (by decide)) (hM.sub (by decide) (by decide)) (h.2.2.2.2.2.2.1), wait_ag (hC.sub (by decide) (by decide) (by decide)) (hM.sub (by decide) (by decide)) (h.2.2.2.2.2.2.2.1), thing_ag (hC.sub (by decide) (by decide) (by decide)) (hM.sub (by decide) (by decide)) (h.2.2.2.2.2.2.2.2.1), queue_ag (hC.sub (by decide) (by decide) (by decide)) (hM.sub (by decide) (by decide)) (h.2.2.2.2.2.2.2.2.2.1), h_set, fre_ag (hM.sub (by decide) (by decide)) h.2.2.2.2.2.2.2.2.2.2.2⟩
/-- messages were written -/
theorem SimB.msgs {k n : Nat} {ls : List Nat} {e e2 : Option Nat} {C C' M M' : St} (h : SimB k n ls e e2 C M) (hC : AgC [1, 2, 10, 11, 12, 13, 14, 15, 16, 19, 20, 21, 22, 23, 24, 25, 26, 27, 30, 31, 32, 33, 34, 35, 36, 37, 38, 39, 42, 45, 46, 47, 48] [10, 12] [1, 2, 3, 4, 10] C C') (hM : AgM [1, 2, 3, 4, 5, 7, 8, 9, 11, 12, 13, 14, 16, 17, 18, 19, 20, 21, 22, 23, 24, 25, 26, 27, 28, 29, 30, 31, 33, 35, 38, 39, 40, 41] [6, 10] M M') (h_row : rowOK C') (h_wait : ∀ p, p < n → waitOK C' M' p) (h_queue : ∀ s, s < 12 → queueOK C' M' s) : SimB k n ls e e2 C' M' :=
  ⟨root_ag (hC.sub (by decide) (by decide) (by decide)) (hM.sub (by decide) (by decide)) (h.1), line_ag (hC.sub (by decide) (by decide) (by decide)) (hM.sub (by decide) (by decide)) (h.2.1), turn_ag (hC.sub (by decide) (by decide) (by decide)) (hM.sub (by decide) (by decide)) (h.2.2.1), tag_ag (hC.sub (by decide) (by decide) (by decide)) (hM.sub (by decide) (by decide)) (h.2.2.2.1), h_row, proc_ag (hC.sub (by decide) (by decide) (by decide)) (hM.sub (by decide) (by decide)) (h.2.2.2.2.2.1), told_ag (hC.sub (by decide) (by decide) (by decide)) (hM.sub (by decide) (by decide)) (h.2.2.2.2.2.2.1), h_wait, thing_ag (hC.sub (by decide) (by decide) (by decide)) (hM.sub (by decide) (by decide)) (h.2.2.2.2.2.2.2.2.1), h_queue, set_ag (hC.sub (by decide) (by decide) (by decide)) (hM.sub (by decide) (by decide)) (h.2.2.2.2.2.2.2.2.2.2.1), fre_ag (hM.sub (by decide) (by decide)) h.2.2.2.2.2.2.2.2.2.2.2⟩
/-- a room was written -/
theorem SimB.room {k n : Nat} {ls : List Nat} {e e2 : Option Nat} {C C' M M' : St} (h : SimB k n ls e e2 C M) (hC : AgC [1, 2, 10, 11, 12, 13, 14, 15, 16, 17, 18, 19, 20, 21, 22, 23, 24, 25, 26, 27, 30, 31, 32, 33, 34, 35, 36, 37, 38, 39, 40, 41, 45, 46, 47, 48] [10, 11, 12] [1, 2, 3, 4, 10, 11] C C') (hM : AgM [1, 2, 3, 4, 5, 7, 8, 9, 11, 12, 13, 14, 16, 17, 18, 19, 20, 21, 22, 23, 24, 25, 26, 27, 28, 29, 30, 31, 32, 34, 35, 36, 37, 38, 39, 40, 41] [6, 10, 35] M M') (h_queue : ∀ s, s < 12 → queueOK C' M' s) : SimB k n ls e e2 C' M' :=
  ⟨root_ag (hC.sub (by decide) (by decide) (by decide)) (hM.sub (by decide) (by decide)) (h.1), line_ag (hC.sub (by decide) (by decide) (by decide)) (hM.sub (by decide) (by decide)) (h.2.1), turn_ag (hC.sub (by decide) (by decide) (by decide)) (hM.sub (by decide) (by decide)) (h.2.2.1), tag_ag (hC.sub (by decide) (by decide) (by decide)) (hM.sub (by decide) (by decide)) (h.2.2.2.1), row_ag (hC.sub (by decide) (by decide) (by decide)) (hM.sub (by decide) (by decide)) (h.2.2.2.2.1), proc_ag (hC.sub (by decide) (by decide) (by decide)) (hM.sub (by decide) (by decide)) (h.2.2.2.2.2.1), told_ag (hC.sub (by decide) (by decide) (by decide)) (hM.sub (by decide) (by decide)) (h.2.2.2.2.2.2.1), wait_ag (hC.sub (by decide) (by decide) (by decide)) (hM.sub (by decide) (by decide)) (h.2.2.2.2.2.2.2.1), thing_ag (hC.sub (by decide) (by decide) (by decide)) (hM.sub (by decide) (by decide)) (h.2.2.2.2.2.2.2.2.1), h_queue, set_ag (hC.sub (by decide) (by decide) (by decide)) (hM.sub (by decide) (by decide)) (h.2.2.2.2.2.2.2.2.2.2.1), fre_ag (hM.sub (by decide) (by decide)) h.2.2.2.2.2.2.2.2.2.2.2⟩
/-- told steps were written -/
theorem SimB.toldw {k n : Nat} {ls : List Nat} {e e2 : Option Nat} {C C' M M' : St} (h : SimB k n ls e e2 C M) (hC : AgC [1, 2, 10, 11, 12, 13, 14, 15, 16, 17, 18, 19, 20, 21, 26, 27, 30, 31, 32, 33, 34, 35, 36, 37, 38, 39, 40, 41, 42, 45, 46, 47, 48] [10, 11, 12] [1, 2, 3, 4, 10, 11] C C') (hM : AgM [1, 2, 3, 4, 5, 7, 8, 9, 11, 12, 13, 14, 20, 21, 22, 23, 24, 25, 26, 27, 28, 29, 30, 31, 32, 33, 34, 35, 36, 37, 38, 39, 40, 41] [6, 10, 35] M M') (h_told : ∀ p, p < n → toldOK C' M' p) (h_wait : ∀ p, p < n → waitOK C' M' p) (h_fre : freM n M') : SimB k n ls e e2 C' M' :=
  ⟨root_ag (hC.sub (by decide) (by decide) (by decide)) (hM.sub (by decide) (by decide)) (h.1), line_ag (hC.sub (by decide) (by decide) (by decide)) (hM.sub (by decide) (by decide)) (h.2.1), turn_ag (hC.sub (by decide) (by decide) (by decide)) (hM.sub (by decide) (by decide)) (h.2.2.1), tag_ag (hC.sub (by decide) (by decide) (by decide)) (hM.sub (by decide) (by decide)) (h.2.2.2.1), row_ag (hC.sub (by decide) (by decide) (by decide)) (hM.sub (by decide) (by decide)) (h.2.2.2.2.1), proc_ag (hC.sub (by decide) (by decide) (by decide)) (hM.sub (by decide) (by decide)) (h.2.2.2.2.2.1), h_told, h_wait, thing_ag (hC.sub (by decide) (by decide) (by decide)) (hM.sub (by decide) (by decide)) (h.2.2.2.2.2.2.2.2.1), queue_ag (hC.sub (by decide) (by decide) (by decide)) (hM.sub (by decide) (by decide)) (h.2.2.2.2.2.2.2.2.2.1), set_ag (hC.sub (by decide) (by decide) (by decide)) (hM.sub (by decide) (by decide)) (h.2.2.2.2.2.2.2.2.2.2.1), h_fre⟩
