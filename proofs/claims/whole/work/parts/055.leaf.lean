/-! LAYER 2: leaf methods of both, and that they agree -/
theorem sp_isFree {p : Nat} {σ : St} {po : Int → St → Prop} (h : po (bI (gI σ 13 p 0 ≠ 0 ∧ gI σ 15 p 0 = 0)) σ) : wp_X2_isFree p σ po := by
  unfold wp_X2_isFree
  unfold bI at h
  simp only [nm_gI]
  by_cases h1 : gI σ 13 p 0 = 0
  · simp_all
  · by_cases h2 : gI σ 15 p 0 = 0 <;> simp_all
theorem sp_isFreeM {p : Nat} {σ : St} {po : Int → St → Prop} (hp : p < 16) (h : po (bI (gI σ 110 3 p ≠ 0 ∧ gI σ 110 7 p = 0)) σ) : wp_X8_isFree (p : Int) σ po := by
  have e : ((p : Int)).toNat = p := by omega
  have i1 : (0 : Int) ≤ p ∧ (p : Int) < 16 := by omega
  unfold wp_X8_isFree
  unfold bI at h
  simp only [nm_gI, nm_nat (n := 16) hp (by omega), e]
  by_cases h1 : gI σ 110 3 p = 0
  · simp_all
  · by_cases h2 : gI σ 110 7 p = 0 <;> simp_all
theorem sp_tells {p : Nat} {r : Int} {σ : St} {po : Int → St → Prop} (hp : p < 16) (h : po r (uI σ 110 4 p r)) : wp_X8_tells (p : Int) r σ po := by
  have e : ((p : Int)).toNat = p := by omega
  unfold wp_X8_tells
  rw [nm_nat (n := 16) hp (by omega), e]
  refine ⟨⟨by omega, by omega⟩, ?_⟩
  rintro _ rfl
  exact h
theorem sp_waitsTo {p : Nat} {x : Int} {o : Option Nat} {σ : St} {po : Int → St → Prop} (hx : nm x = x) (h : po (bI (gI σ 15 p 0 = x ∧ gR σ 10 p 0 = o)) σ) : wp_X2_waitsTo p x o σ po := by
  unfold wp_X2_waitsTo
  unfold bI at h
  rw [nm_gI, hx]
  by_cases h1 : gI σ 15 p 0 = x
  · by_cases h2 : gR σ 10 p 0 = o <;> simp_all
  · simp_all
def rulC (C : St) (t p : Nat) : Prop := gI C 11 p 0 = 0 ∨ gI C 11 p 0 = gI C 35 t 0 ∨ gI C 11 p 0 = gI C 37 t 0
theorem sp_isRuledBy {t p : Nat} {σ : St} {po : Int → St → Prop} (h1 : rulC σ t p → po 1 σ) (h0 : ¬ rulC σ t p → po 0 σ) : wp_X5_isRuledBy t (some p) σ po := by
  unfold wp_X5_isRuledBy
  unfold rulC at h1 h0
  refine ⟨p, rfl, ?_⟩
  simp only [nm_gI]
  by_cases a : gI σ 11 p 0 = 0
  · simp_all
  · by_cases b : gI σ 11 p 0 = gI σ 35 t 0
    · simp_all
    · by_cases c : gI σ 11 p 0 = gI σ 37 t 0 <;> simp_all
theorem sp_rules {t p : Nat} {C σ : St} {po : Int → St → Prop} (hp : p < 16) (ht : t < 24) (e1 : gI C 11 p 0 = gI σ 110 1 p) (e2 : gI C 35 t 0 = gI σ 110 27 t) (e3 : gI C 37 t 0 = gI σ 110 29 t) (h1 : rulC C t p → po 1 σ) (h0 : ¬ rulC C t p → po 0 σ) : wp_X8_rules (p : Int) (t : Int) σ po := by
  have e : ((p : Int)).toNat = p := by omega
  have f : ((t : Int)).toNat = t := by omega
  unfold wp_X8_rules
  unfold rulC at h1 h0
  rw [e1, e2, e3] at h1 h0
  simp only [nm_gI, nm_nat (n := 16) hp (by omega), nm_nat (n := 24) ht (by omega), e, f]
  have i1 : (0 : Int) ≤ p ∧ (p : Int) < 16 := by omega
  have i2 : (0 : Int) ≤ t ∧ (t : Int) < 24 := by omega
  by_cases a : gI σ 110 1 p = 0
  · simp_all
  · by_cases b : gI σ 110 1 p = gI σ 110 27 t
    · simp_all
    · by_cases c : gI σ 110 1 p = gI σ 110 29 t <;> simp_all
def mayN (u g ou og mu mg md : Int) : Int := if u = 0 then 7 else if u = ou ∨ u = mu then zand (zshr md 6) 7 else if g = og ∨ g = mg then zand (zshr md 3) 7 else zand md 7
def mayC (C : St) (t p : Nat) : Int := mayN (gI C 11 p 0) (gI C 12 p 0) (gI C 35 t 0) (gI C 36 t 0) (gI C 37 t 0) (gI C 38 t 0) (gI C 39 t 0)
theorem sp_mayOf {t p : Nat} {σ : St} {po : Int → St → Prop} (h : po (mayC σ t p) σ) : wp_X5_mayOf t (some p) σ po := by
  unfold wp_X5_mayOf
  unfold mayC mayN at h
  refine ⟨p, rfl, ?_⟩
  simp only [nm_gI]
  by_cases a : gI σ 11 p 0 = 0
  · simp_all
  · by_cases b : gI σ 11 p 0 = gI σ 35 t 0
    · simp_all
    · by_cases c : gI σ 11 p 0 = gI σ 37 t 0
      · simp_all
      · by_cases d : gI σ 12 p 0 = gI σ 36 t 0
        · simp_all
        · by_cases e : gI σ 12 p 0 = gI σ 38 t 0 <;> simp_all
theorem sp_may {t p : Nat} {σ : St} {po : Int → St → Prop} (hp : p < 16) (ht : t < 24) (h : po (mayN (gI σ 110 1 p) (gI σ 110 2 p) (gI σ 110 27 t) (gI σ 110 28 t) (gI σ 110 29 t) (gI σ 110 30 t) (gI σ 110 31 t)) σ) : wp_X8_may (p : Int) (t : Int) σ po := by
  have e : ((p : Int)).toNat = p := by omega
  have f : ((t : Int)).toNat = t := by omega
  unfold wp_X8_may
  unfold mayN at h
  simp only [nm_gI, nm_nat (n := 16) hp (by omega), nm_nat (n := 24) ht (by omega), e, f]
  have i1 : (0 : Int) ≤ p ∧ (p : Int) < 16 := by omega
  have i2 : (0 : Int) ≤ t ∧ (t : Int) < 24 := by omega
  by_cases a : gI σ 110 1 p = 0
  · simp_all
  · by_cases b : gI σ 110 1 p = gI σ 110 27 t
    · simp_all
    · by_cases c : gI σ 110 1 p = gI σ 110 29 t
      · simp_all
      · by_cases d : gI σ 110 2 p = gI σ 110 28 t
        · simp_all
        · by_cases e : gI σ 110 2 p = gI σ 110 30 t <;> simp_all
theorem bits_a : ∀ m : Nat, m < 512 → (0 ≤ zand (zshr (m : Int) 6) 7 ∧ zand (zshr (m : Int) 6) 7 ≤ 7) ∧ (0 ≤ zand (zshr (m : Int) 3) 7 ∧ zand (zshr (m : Int) 3) 7 ≤ 7) ∧ 0 ≤ zand (m : Int) 7 ∧ zand (m : Int) 7 ≤ 7 := by decide +kernel
theorem bits_b : ∀ m : Nat, m < 8 → ∀ w : Nat, w < 8 → (nm (zand (w : Int) (zxor (m : Int) (-1))) = 0 ↔ nm (zand (m : Int) (w : Int)) = nm (w : Int)) := by decide +kernel
theorem mayN_rng {u g ou og mu mg md : Int} (h : 0 ≤ md ∧ md ≤ 511) : 0 ≤ mayN u g ou og mu mg md ∧ mayN u g ou og mu mg md ≤ 7 := by
  obtain ⟨m, rfl⟩ : ∃ m : Nat, md = m := ⟨md.toNat, by omega⟩
  obtain ⟨a, b, c, d⟩ := bits_a m (by omega)
  unfold mayN
  split
  · omega
  · split
    · exact a
    · split
      · exact b
      · exact ⟨c, d⟩
/-- what is wanted is all allowed -/
def graC (C : St) (t p : Nat) (w : Int) : Prop := nm (zand (mayC C t p) w) = nm w
theorem sp_grantsAll {t p : Nat} {w : Int} {σ : St} {po : Int → St → Prop} (hw : 0 ≤ w ∧ w ≤ 7) (hm : 0 ≤ gI σ 39 t 0 ∧ gI σ 39 t 0 ≤ 511) (h1 : graC σ t p w → po 1 σ) (h0 : ¬ graC σ t p w → po 0 σ) : wp_X5_grantsAll t (some p) w σ po := by
  unfold wp_X5_grantsAll
  refine sp_mayOf ?_
  unfold graC at h1 h0
  have hr : 0 ≤ mayC σ t p ∧ mayC σ t p ≤ 7 := mayN_rng hm
  obtain ⟨m, em⟩ : ∃ m : Nat, mayC σ t p = m := ⟨(mayC σ t p).toNat, by omega⟩
  obtain ⟨v, rfl⟩ : ∃ v : Nat, w = v := ⟨w.toNat, by omega⟩
  have b := bits_b m (by omega) v (by omega)
  rw [em] at h1 h0 ⊢
  exact ⟨fun z => h0 (fun y => z (b.mpr y)), fun z => h1 (b.mp z)⟩
theorem sp_hasAll {t p : Nat} {w : Int} {C σ : St} {po : Int → St → Prop} (hp : p < 16) (ht : t < 24) (e : mayC C t p = mayN (gI σ 110 1 p) (gI σ 110 2 p) (gI σ 110 27 t) (gI σ 110 28 t) (gI σ 110 29 t) (gI σ 110 30 t) (gI σ 110 31 t)) (h1 : graC C t p w → po 1 σ) (h0 : ¬ graC C t p w → po 0 σ) : wp_X8_hasAll (p : Int) (t : Int) w σ po := by
  unfold wp_X8_hasAll
  refine sp_may hp ht ?_
  rw [← e]
  exact ⟨fun z => h0 (fun y => z y), fun z => h1 z⟩
