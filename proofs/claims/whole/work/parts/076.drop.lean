/-! LAYER 2: a message is taken out of a queue -/
def stRow (C : St) (s : Nat) (g : Nat → Option Nat) : St := (C.1, C.2.1, C.2.2.1, C.2.2.2.1, fun f a b => if f = 11 ∧ a = s then g b else C.2.2.2.2 f a b)
theorem gI_stRow (C : St) (s : Nat) (g : Nat → Option Nat) (f a b : Nat) : gI (stRow C s g) f a b = gI C f a b := rfl
theorem gL_stRow (C : St) (s : Nat) (g : Nat → Option Nat) (f a b : Nat) : gL (stRow C s g) f a b = gL C f a b := rfl
theorem gR_stRow (C : St) (s : Nat) (g : Nat → Option Nat) (f a b : Nat) : gR (stRow C s g) f a b = if f = 11 ∧ a = s then g b else gR C f a b := rfl
theorem uR_stRow (C : St) (s : Nat) (g : Nat → Option Nat) (i : Nat) (v : Option Nat) : uR (stRow C s g) 11 s i v = stRow C s (fun j => if j = i then v else g j) := by
  refine St_ext rfl rfl (fun _ _ _ => rfl) (fun _ _ _ => rfl) (fun f a b => ?_)
  rw [gR_uR, gR_stRow, gR_stRow]
  by_cases h : f = 11 ∧ a = s
  · obtain ⟨rfl, rfl⟩ := h
    by_cases hb : b = i <;> simp [hb]
  · rw [if_neg (fun z => h ⟨z.1, z.2.1⟩), if_neg h, if_neg h]
theorem stRow_self (C : St) (s : Nat) : stRow C s (fun i => gR C 11 s i) = C := by
  refine St_ext rfl rfl (fun _ _ _ => rfl) (fun _ _ _ => rfl) (fun f a b => ?_)
  rw [gR_stRow]
  by_cases h : f = 11 ∧ a = s
  · obtain ⟨rfl, rfl⟩ := h; simp
  · rw [if_neg h]
theorem uI_stRow (C : St) (s : Nat) (g : Nat → Option Nat) (f a b : Nat) (v : Int) : uI (stRow C s g) f a b v = stRow (uI C f a b v) s g := rfl
/-- where the message at i comes from, once j is out of c -/
def sg (j c i : Nat) : Nat := if i = c - 1 then j else if j ≤ i ∧ i < c - 1 then i + 1 else i
def drpC (C : St) (s j c u : Nat) : St := uI (uI (stRow C s (fun i => gR C 11 s (sg j c i))) 40 s 0 ((c : Int) - 1)) 41 s 0 (gI C 41 s 0 - gI C 17 u 0)
theorem sp_drop_loop {C : St} {s j c u : Nat} {po : St → Prop} (hs : s < 12) (hj : j < c) (hc40 : c ≤ 40) (hu : gR C 11 s j = some u) (hpo : po (drpC C s j c u)) :
    ∀ m i : Nat, i + m = c - 1 → j ≤ i → wp_X3_drop_26 po (m + 1) s (some u) ((c : Int) - 1) (i : Int) (stRow C s (fun k => gR C 11 s (if j ≤ k ∧ k < i then k + 1 else k))) := by
  intro m
  have n1 : nm ((c : Int) - 1) = (c : Int) - 1 := nm_id (by omega)
  have et0 : ((c : Int) - 1).toNat = c - 1 := by omega
  induction m with
  | zero =>
    intro i hi hji
    have e : i = c - 1 := by omega
    unfold wp_X3_drop_26
    rw [n1, et0, nm_nat (n := 41) (by omega) (by omega)]
    refine ⟨fun _ => ⟨hs, by omega, ?_⟩, fun z => absurd z (by omega)⟩
    rintro _ rfl
    rintro _ rfl
    refine ⟨u, rfl, ?_⟩
    rintro _ rfl
    rw [uR_stRow, uI_stRow, gI_stRow, gI_stRow, gI_uI, if_neg (by omega), gI_uI, if_neg (by omega), uI_stRow]
    unfold drpC at hpo
    rw [uI_stRow, uI_stRow] at hpo
    refine (iff_of_eq ?_).mp hpo
    congr 2
    funext k
    unfold sg
    by_cases z : k = c - 1
    · rw [if_pos z, if_pos z, hu]
    · rw [if_neg z, if_neg z]
      simp only [show (j ≤ k ∧ k < c - 1 ↔ j ≤ k ∧ k < i) by omega]
  | succ m ih =>
    intro i hi hji
    have ih := ih (i + 1) (by omega) (by omega)
    have et : ((i : Int)).toNat = i := by omega
    have e1 : (i : Int) + 1 = ((i + 1 : Nat) : Int) := by omega
    have et1 : (((i + 1 : Nat) : Int)).toNat = i + 1 := by omega
    unfold wp_X3_drop_26
    rw [n1, nm_nat (n := 41) (by omega) (by omega), e1, nm_nat (n := 41) (by omega) (by omega), et, et1]
    refine ⟨fun z => absurd z (by omega), fun _ => ⟨hs, by omega, ?_⟩⟩
    rintro _ rfl
    refine ⟨by omega, ?_⟩
    rintro _ rfl
    rw [uR_stRow, gR_stRow, if_pos ⟨rfl, rfl⟩]
    refine (iff_of_eq ?_).mp ih
    congr 1
    congr 1
    funext k
    by_cases z : k = i
    · subst z
      rw [if_pos rfl, if_pos (by omega), if_neg (by omega)]
    · rw [if_neg z]; simp only [show (j ≤ k ∧ k < i + 1 ↔ j ≤ k ∧ k < i) by omega]
theorem sp_drop {C : St} {s j c u : Nat} {po : St → Prop} (hs : s < 12) (hc : gI C 40 s 0 = c) (hj : j < c) (hc40 : c ≤ 40) (hu : gR C 11 s j = some u) (hpo : po (drpC C s j c u)) : wp_X3_drop s (j : Int) C po := by
  have nj : nm (j : Int) = j := nm_nat (n := 41) (by omega) (by omega)
  have et : ((j : Int)).toNat = j := by omega
  unfold wp_X3_drop wp_X3_messageAt
  rw [nj, nm_gI, hc, et, show nm 40 = 40 by decide]
  refine ⟨hs, fun z => absurd z (by omega), fun _ => ⟨hs, fun z => absurd z (by omega), fun _ => ⟨fun z => absurd z (by omega), fun _ => ⟨by omega, ?_⟩⟩⟩⟩
  rintro _ rfl
  rw [hu]
  refine ⟨fun z => (by cases z), ?_⟩
  rintro _ ⟨rfl⟩
  refine ⟨c - 1 - j + 1, ?_⟩
  have ez : zmin (c : Int) 40 = c := by
    rw [zmin_nat ⟨by omega, by omega⟩ ⟨by omega, by omega⟩]
    omega
  first | rw [ez] | rw [hc, ez]
  have := sp_drop_loop hs hj hc40 hu hpo (c - 1 - j) j (by omega) (Nat.le_refl _)
  have e : (fun k => gR C 11 s (if j ≤ k ∧ k < j then k + 1 else k)) = fun k => gR C 11 s k := by
    funext k
    rw [if_neg (by omega)]
  rw [e, stRow_self] at this
  exact this
/-- the model's messages, moved up by one from j to i -/
def shM (M : St) (s j i : Nat) : St := (M.1, M.2.1, fun f a b => if f = 110 ∧ a = 36 ∧ 40 * s + j ≤ b ∧ b < 40 * s + i then M.2.2.1 110 36 (b + 1) else if f = 110 ∧ a = 37 ∧ 64 * (40 * s + j) ≤ b ∧ b < 64 * (40 * s + i) then M.2.2.1 110 37 (b + 64) else M.2.2.1 f a b, fun f a b => if f = 110 ∧ a = 35 ∧ 40 * s + j ≤ b ∧ b < 40 * s + i then M.2.2.2.1 110 35 (b + 1) else M.2.2.2.1 f a b, M.2.2.2.2)
theorem gI_shM (M : St) (s j i f a b : Nat) : gI (shM M s j i) f a b = if f = 110 ∧ a = 36 ∧ 40 * s + j ≤ b ∧ b < 40 * s + i then gI M 110 36 (b + 1) else if f = 110 ∧ a = 37 ∧ 64 * (40 * s + j) ≤ b ∧ b < 64 * (40 * s + i) then gI M 110 37 (b + 64) else gI M f a b := by
  unfold gI shM
  show (if f = 110 ∧ a = 36 ∧ 40 * s + j ≤ b ∧ b < 40 * s + i then M.2.2.1 110 36 (b + 1) else if f = 110 ∧ a = 37 ∧ 64 * (40 * s + j) ≤ b ∧ b < 64 * (40 * s + i) then M.2.2.1 110 37 (b + 64) else M.2.2.1 f a b).toInt = _
  split
  · rfl
  · split <;> rfl
theorem gL_shM (M : St) (s j i f a b : Nat) : gL (shM M s j i) f a b = if f = 110 ∧ a = 35 ∧ 40 * s + j ≤ b ∧ b < 40 * s + i then gL M 110 35 (b + 1) else gL M f a b := by
  unfold gL shM
  show (if f = 110 ∧ a = 35 ∧ 40 * s + j ≤ b ∧ b < 40 * s + i then M.2.2.2.1 110 35 (b + 1) else M.2.2.2.1 f a b).toInt = _
  split <;> rfl
theorem cpI_step2 {σ : St} {f a d o m : Nat} (hne : d ≤ o) : uI (cpI σ f a d f a o m) f a (d + m) (gI (cpI σ f a d f a o m) f a (o + m)) = cpI σ f a d f a o (m + 1) := by
  rw [gI_cpI, if_neg (by omega)]
  refine St_ext rfl rfl (fun f' a' b' => ?_) (fun _ _ _ => rfl) (fun _ _ _ => rfl)
  rw [gI_uI, gI_cpI, gI_cpI]
  by_cases h1 : f' = f ∧ a' = a ∧ b' = d + m
  · rw [if_pos h1, if_pos (by omega), nm_gI]
    congr 1; omega
  · rw [if_neg h1]
    by_cases h2 : f' = f ∧ a' = a ∧ d ≤ b' ∧ b' < d + m
    · rw [if_pos h2, if_pos (by omega)]
    · rw [if_neg h2, if_neg (by omega)]
theorem sp_shift_bytes {M0 : St} {s j : Nat} {x9 : Int} {x : Nat} {po : Int → St → Prop} {X : Int → Int → Int → St → Prop} (hx : x < 479) (h : X (s : Int) x9 ((x : Int) + 1) (cpI M0 110 37 (64 * x) 110 37 (64 * x + 64) 64)) :
    ∀ m i : Nat, i + m = 64 → wp_X8_take_317 po X (m + 1) (s : Int) x9 (x : Int) (i : Int) (cpI M0 110 37 (64 * x) 110 37 (64 * x + 64) i) := by
  intro m
  induction m with
  | zero =>
    intro i hi
    have e : i = 64 := by omega
    subst e
    unfold wp_X8_take_317
    exact ⟨fun _ => h, fun z => absurd z (by decide)⟩
  | succ m ih =>
    intro i hi
    have ih := ih (i + 1) (by omega)
    have hst := cpI_step2 (σ := M0) (f := 110) (a := 37) (d := 64 * x) (o := 64 * x + 64) (m := i) (by omega)
    have e1 : nm (64 * (x : Int) + i) = ((64 * x + i : Nat) : Int) := by rw [nm_id (by omega)]; omega
    have e2 : nm (64 * (x : Int) + 64 + i) = ((64 * x + 64 + i : Nat) : Int) := by rw [nm_id (by omega)]; omega
    have e3 : (((64 * x + i : Nat) : Int)).toNat = 64 * x + i := by omega
    have e4 : (((64 * x + 64 + i : Nat) : Int)).toNat = 64 * x + 64 + i := by omega
    unfold wp_X8_take_317
    rw [nm_nat (n := 65) (by omega) (by omega), show nm 64 = 64 by decide, e1, e2, e3, e4]
    refine ⟨fun z => absurd z (by omega), fun _ => ⟨⟨by omega, by omega⟩, ⟨by omega, by omega⟩, ?_⟩⟩
    rintro _ rfl
    rw [hst]
    exact ih
theorem shM_step {M : St} {s j i : Nat} (hji : j ≤ i) : cpI (uI (uL (shM M s j i) 110 35 (40 * s + i) (gL (shM M s j i) 110 35 (40 * s + i + 1))) 110 36 (40 * s + i) (gI (shM M s j i) 110 36 (40 * s + i + 1))) 110 37 (64 * (40 * s + i)) 110 37 (64 * (40 * s + i) + 64) 64 = shM M s j (i + 1) := by
  refine St_ext rfl rfl (fun f a b => ?_) (fun f a b => ?_) (fun _ _ _ => rfl)
  · rw [gI_cpI]
    by_cases h1 : f = 110 ∧ a = 37 ∧ 64 * (40 * s + i) ≤ b ∧ b < 64 * (40 * s + i) + 64
    · obtain ⟨rfl, rfl, h3, h4⟩ := h1
      rw [if_pos ⟨rfl, rfl, h3, h4⟩, gI_uI, if_neg (by omega), gI_uL, gI_shM, if_neg (by omega), if_neg (by omega), gI_shM, if_neg (by omega), if_pos ⟨rfl, rfl, by omega, by omega⟩]
      congr 1; omega
    · rw [if_neg h1, gI_uI]
      by_cases h2 : f = 110 ∧ a = 36 ∧ b = 40 * s + i
      · obtain ⟨rfl, rfl, rfl⟩ := h2
        rw [if_pos ⟨rfl, rfl, rfl⟩, nm_gI, gI_shM, if_neg (by omega), if_neg (by omega), gI_shM, if_pos ⟨rfl, rfl, by omega, by omega⟩]
      · rw [if_neg h2, gI_uL, gI_shM, gI_shM]
        simp only [show (f = 110 ∧ a = 36 ∧ 40 * s + j ≤ b ∧ b < 40 * s + (i + 1)) ↔ (f = 110 ∧ a = 36 ∧ 40 * s + j ≤ b ∧ b < 40 * s + i) by omega, show (f = 110 ∧ a = 37 ∧ 64 * (40 * s + j) ≤ b ∧ b < 64 * (40 * s + (i + 1))) ↔ (f = 110 ∧ a = 37 ∧ 64 * (40 * s + j) ≤ b ∧ b < 64 * (40 * s + i)) by omega]
  · rw [gL_cpI, gL_uI, gL_uL, nmL_gL]
    by_cases h2 : f = 110 ∧ a = 35 ∧ b = 40 * s + i
    · obtain ⟨rfl, rfl, rfl⟩ := h2
      rw [if_pos ⟨rfl, rfl, rfl⟩, gL_shM, if_neg (by omega), gL_shM, if_pos ⟨rfl, rfl, by omega, by omega⟩]
    · rw [if_neg h2, gL_shM, gL_shM]
      simp only [show (f = 110 ∧ a = 35 ∧ 40 * s + j ≤ b ∧ b < 40 * s + (i + 1)) ↔ (f = 110 ∧ a = 35 ∧ 40 * s + j ≤ b ∧ b < 40 * s + i) by omega]
theorem sp_shift {M : St} {s j c : Nat} {x9 : Int} {po : Int → St → Prop} (hs : s < 12) (hc : gI M 110 34 s = (c : Int) - 1) (hc1 : 1 ≤ c) (hc40 : c ≤ 40) (hpo : wp_X8_lookAtSenders (shM M s j (c - 1)) (fun s112 => po x9 s112)) :
    ∀ m i : Nat, i + m = c - 1 → j ≤ i → wp_X8_take_264 po (m + 1) (s : Int) x9 ((40 * s + i : Nat) : Int) (shM M s j i) := by
  intro m
  have es : ((s : Int)).toNat = s := by omega
  have ns : nm (s : Int) = s := nm_nat (n := 12) hs (by omega)
  have i12 : (0 : Int) ≤ s ∧ (s : Int) < 12 := by omega
  have e34 : ∀ i, gI (shM M s j i) 110 34 s = (c : Int) - 1 := fun i => by rw [gI_shM, if_neg (by omega), if_neg (by omega), hc]
  have nn : nm (40 * (s : Int) + ((c : Int) - 1)) = 40 * (s : Int) + ((c : Int) - 1) := nm_id (by omega)
  induction m with
  | zero =>
    intro i hi hji
    have e : i = c - 1 := by omega
    subst e
    unfold wp_X8_take_264
    rw [ns, es, e34, nn, nm_id (by omega)]
    exact ⟨i12, fun _ => hpo, fun z => absurd z (by omega)⟩
  | succ m ih =>
    intro i hi hji
    have ih := ih (i + 1) (by omega) (by omega)
    have nx : nm ((40 * s + i : Nat) : Int) = ((40 * s + i : Nat) : Int) := nm_id (by omega)
    have ex1 : ((40 * s + i : Nat) : Int) + 1 = ((40 * s + i + 1 : Nat) : Int) := by omega
    have nx1 : nm ((40 * s + i + 1 : Nat) : Int) = ((40 * s + i + 1 : Nat) : Int) := nm_id (by omega)
    have et : (((40 * s + i : Nat) : Int)).toNat = 40 * s + i := by omega
    have et1 : (((40 * s + i + 1 : Nat) : Int)).toNat = 40 * s + i + 1 := by omega
    unfold wp_X8_take_264
    rw [ns, es, e34, nn, nx, ex1, nx1, et, et1]
    refine ⟨i12, fun z => absurd z (by omega), fun _ => ⟨⟨by omega, by omega⟩, ⟨by omega, by omega⟩, ?_⟩⟩
    rintro _ rfl
    refine ⟨⟨by omega, by omega⟩, ⟨by omega, by omega⟩, ?_⟩
    rintro _ rfl
    refine ⟨65, ?_⟩
    rw [gI_uL]
    have hst := shM_step (M := M) (s := s) hji
    have key := sp_shift_bytes (M0 := uI (uL (shM M s j i) 110 35 (40 * s + i) (gL (shM M s j i) 110 35 (40 * s + i + 1))) 110 36 (40 * s + i) (gI (shM M s j i) 110 36 (40 * s + i + 1))) (s := s) (j := j) (x9 := x9) (x := 40 * s + i) (po := po) (X := fun x7 x9 x10 s9 => wp_X8_take_264 po (m + 1) x7 x9 x10 s9) (by omega) (by
      rw [hst, ex1]
      exact ih) 64 0 (by omega)
    rw [cpI_0] at key
    exact key
