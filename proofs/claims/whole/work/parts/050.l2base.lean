/-! LAYER 2, BASE: numbers and stores, leaf methods -/
theorem nm_gI (σ : St) (f a b : Nat) : nm (gI σ f a b) = gI σ f a b := by unfold nm gI; rw [i32_of]
theorem nm_nm (x : Int) : nm (nm x) = nm x := by
  show (Int32.ofInt (Int32.ofInt x).toInt).toInt = _
  rw [i32_of]; rfl
theorem nmL_gL (σ : St) (f a b : Nat) : nmL (gL σ f a b) = gL σ f a b := by unfold nmL gL; rw [i64_of]
theorem nmL_id {x : Int} (h : -9223372036854775808 ≤ x ∧ x < 9223372036854775808) : nmL x = x := by
  unfold nmL
  exact Int64.toInt_ofInt_of_le (by omega) (by omega)
theorem nmL_nm (x : Int) : nmL (nm x) = nm x := nmL_id (by have := nm_rng x; omega)
theorem nm_m1 : nm (-1) = -1 := by decide
theorem gI_rng (σ : St) (f a b : Nat) : -2147483648 ≤ gI σ f a b ∧ gI σ f a b < 2147483648 := by
  have := nm_rng (gI σ f a b); rw [nm_gI] at this; exact this
theorem gL_rng (σ : St) (f a b : Nat) : -9223372036854775808 ≤ gL σ f a b ∧ gL σ f a b < 9223372036854775808 := by
  have h1 := Int64.le_toInt (σ.2.2.2.1 f a b)
  have h2 := Int64.toInt_lt (σ.2.2.2.1 f a b)
  unfold gL; omega
theorem gI_uI (σ : St) (f a b f' a' b' : Nat) (v : Int) : gI (uI σ f a b v) f' a' b' = if f' = f ∧ a' = a ∧ b' = b then nm v else gI σ f' a' b' := by
  unfold gI uI
  show (if f' = f ∧ a' = a ∧ b' = b then Int32.ofInt v else σ.2.2.1 f' a' b').toInt = _
  by_cases h : f' = f ∧ a' = a ∧ b' = b
  · rw [if_pos h, if_pos h]; rfl
  · rw [if_neg h, if_neg h]
theorem gL_uL (σ : St) (f a b f' a' b' : Nat) (v : Int) : gL (uL σ f a b v) f' a' b' = if f' = f ∧ a' = a ∧ b' = b then nmL v else gL σ f' a' b' := by
  unfold gL uL
  show (if f' = f ∧ a' = a ∧ b' = b then Int64.ofInt v else σ.2.2.2.1 f' a' b').toInt = _
  by_cases h : f' = f ∧ a' = a ∧ b' = b
  · rw [if_pos h, if_pos h]; rfl
  · rw [if_neg h, if_neg h]
theorem gR_uR (σ : St) (f a b f' a' b' : Nat) (v : Option Nat) : gR (uR σ f a b v) f' a' b' = if f' = f ∧ a' = a ∧ b' = b then v else gR σ f' a' b' := rfl
theorem gI_uL (σ : St) (f a b f' a' b' : Nat) (v : Int) : gI (uL σ f a b v) f' a' b' = gI σ f' a' b' := rfl
theorem gI_uR (σ : St) (f a b f' a' b' : Nat) (v : Option Nat) : gI (uR σ f a b v) f' a' b' = gI σ f' a' b' := rfl
theorem gL_uI (σ : St) (f a b f' a' b' : Nat) (v : Int) : gL (uI σ f a b v) f' a' b' = gL σ f' a' b' := rfl
theorem gL_uR (σ : St) (f a b f' a' b' : Nat) (v : Option Nat) : gL (uR σ f a b v) f' a' b' = gL σ f' a' b' := rfl
theorem gR_uI (σ : St) (f a b f' a' b' : Nat) (v : Int) : gR (uI σ f a b v) f' a' b' = gR σ f' a' b' := rfl
theorem gR_uL (σ : St) (f a b f' a' b' : Nat) (v : Int) : gR (uL σ f a b v) f' a' b' = gR σ f' a' b' := rfl
theorem tg_uI (σ : St) (f a b : Nat) (v : Int) : (uI σ f a b v).2.1 = σ.2.1 := rfl
theorem tg_uL (σ : St) (f a b : Nat) (v : Int) : (uL σ f a b v).2.1 = σ.2.1 := rfl
theorem tg_uR (σ : St) (f a b : Nat) (v : Option Nat) : (uR σ f a b v).2.1 = σ.2.1 := rfl
def bI (P : Prop) [Decidable P] : Int := if P then 1 else 0
theorem nm_bI (P : Prop) [Decidable P] : nm (bI P) = bI P := by unfold bI; split <;> decide
theorem bI_0 (P : Prop) [Decidable P] : bI P = 0 ↔ ¬ P := by unfold bI; split <;> simp_all
theorem bI_1 (P : Prop) [Decidable P] : bI P = 1 ↔ P := by unfold bI; split <;> simp_all
theorem bI_01 (P : Prop) [Decidable P] : bI P = 0 ∨ bI P = 1 := by unfold bI; split <;> simp
/-- the class's part, the model's part of a store stay -/
def MEq (σ τ : St) : Prop := (∀ f a b, 100 ≤ f → gI τ f a b = gI σ f a b) ∧ ∀ f a b, 100 ≤ f → gL τ f a b = gL σ f a b
def CEq (σ τ : St) : Prop := τ.2.1 = σ.2.1 ∧ (∀ f a b, f < 100 → gI τ f a b = gI σ f a b) ∧ (∀ f a b, f < 100 → gL τ f a b = gL σ f a b) ∧ ∀ f a b, gR τ f a b = gR σ f a b
theorem MEq.rf {σ : St} : MEq σ σ := ⟨fun _ _ _ _ => rfl, fun _ _ _ _ => rfl⟩
theorem CEq.rf {σ : St} : CEq σ σ := ⟨rfl, fun _ _ _ _ => rfl, fun _ _ _ _ => rfl, fun _ _ _ => rfl⟩
theorem MEq.tr {a b c : St} (h : MEq a b) (g : MEq b c) : MEq a c := ⟨fun f x y hf => (g.1 f x y hf).trans (h.1 f x y hf), fun f x y hf => (g.2 f x y hf).trans (h.2 f x y hf)⟩
theorem CEq.tr {a b c : St} (h : CEq a b) (g : CEq b c) : CEq a c := ⟨g.1.trans h.1, fun f x y hf => (g.2.1 f x y hf).trans (h.2.1 f x y hf), fun f x y hf => (g.2.2.1 f x y hf).trans (h.2.2.1 f x y hf), fun f x y => (g.2.2.2 f x y).trans (h.2.2.2 f x y)⟩
theorem MEq.uI {σ τ : St} (h : MEq σ τ) (f a b : Nat) (v : Int) (hf : f < 100) : MEq σ (uI τ f a b v) := by
  refine ⟨fun f' a' b' h' => ?_, fun f' a' b' h' => h.2 f' a' b' h'⟩
  rw [gI_uI, if_neg (by omega)]; exact h.1 f' a' b' h'
theorem MEq.uL {σ τ : St} (h : MEq σ τ) (f a b : Nat) (v : Int) (hf : f < 100) : MEq σ (uL τ f a b v) := by
  refine ⟨fun f' a' b' h' => h.1 f' a' b' h', fun f' a' b' h' => ?_⟩
  rw [gL_uL, if_neg (by omega)]; exact h.2 f' a' b' h'
theorem MEq.uR {σ τ : St} (h : MEq σ τ) (f a b : Nat) (v : Option Nat) : MEq σ (uR τ f a b v) := h
theorem CEq.uI {σ τ : St} (h : CEq σ τ) (f a b : Nat) (v : Int) (hf : 100 ≤ f) : CEq σ (uI τ f a b v) := by
  refine ⟨h.1, fun f' a' b' h' => ?_, h.2.2.1, h.2.2.2⟩
  rw [gI_uI, if_neg (by omega)]; exact h.2.1 f' a' b' h'
theorem CEq.uL {σ τ : St} (h : CEq σ τ) (f a b : Nat) (v : Int) (hf : 100 ≤ f) : CEq σ (uL τ f a b v) := by
  refine ⟨h.1, h.2.1, fun f' a' b' h' => ?_, h.2.2.2⟩
  rw [gL_uL, if_neg (by omega)]; exact h.2.2.1 f' a' b' h'
-- ---- leaf methods
theorem sp_isWithin {x y : Int} {σ : St} {po : Int → St → Prop} (hx : nm x = x) (hy : nm y = y) : wp_X7_isWithin x y σ po ↔ po (bI (0 ≤ x ∧ x ≤ y)) σ := by
  unfold wp_X7_isWithin bI
  rw [hx, hy]
  by_cases h1 : x < 0
  · have h2 : ¬ 0 ≤ x := by omega
    simp [h1, h2]
  · have h2 : 0 ≤ x := by omega
    by_cases h3 : y < x
    · have h4 : ¬ x ≤ y := by omega
      simp [h1, h2, h3, h4]
    · have h4 : x ≤ y := by omega
      simp [h1, h2, h3, h4]
theorem sp_in {x y z : Int} {σ : St} {po : Int → St → Prop} (hx : nmL x = x) (hy : nmL y = y) (hz : nmL z = z) : wp_X8_in x y z σ po ↔ po (bI (y ≤ x ∧ x ≤ z)) σ := by
  unfold wp_X8_in bI
  rw [hx, hy, hz]
  by_cases h1 : x < y
  · have h2 : ¬ y ≤ x := by omega
    simp [h1, h2]
  · have h2 : y ≤ x := by omega
    by_cases h3 : z < x
    · have h4 : ¬ x ≤ z := by omega
      simp [h1, h2, h3, h4]
    · have h4 : x ≤ z := by omega
      simp [h1, h2, h3, h4]
theorem sp_processAt {x : Int} {n : Nat} {σ : St} {po : Option Nat → St → Prop} (hx : nm x = x) (hn : n ≤ 16) (hR : ∀ i, gR σ 1 0 i = if i < n then some i else none) : wp_X7_processAt x σ po ↔ po (if 0 ≤ x ∧ x < n then some x.toNat else none) σ := by
  unfold wp_X7_processAt
  rw [sp_isWithin hx (by decide)]
  simp only [nm_bI, bI_0, hx, ne_eq, Decidable.not_not]
  by_cases h : 0 ≤ x ∧ x ≤ 15
  · have h2 : 0 ≤ x ∧ x < 16 := by omega
    simp only [h, h2, hR, true_and, and_self, not_true_eq_false, false_imp_iff, forall_eq, true_imp_iff]
    by_cases h3 : x < n
    · rw [if_pos (by omega), if_pos (by omega)]
    · rw [if_neg (by omega), if_neg (by omega)]
  · rw [if_neg (by omega)]
    simp only [h, not_false_eq_true, true_imp_iff, false_imp_iff, and_true]
theorem sp_isProcess {x : Int} {n : Nat} {σ : St} {po : Int → St → Prop} (hx : nm x = x) (hn : n ≤ 16) (hP : gI σ 100 0 0 = n) : wp_X8_isProcess x σ po ↔ po (bI (0 ≤ x ∧ x < n)) σ := by
  unfold wp_X8_isProcess
  have e : nm ((n : Int) - 1) = (n : Int) - 1 := nm_id (by omega)
  rw [hP, sp_in (nmL_nm _) (by decide) (nmL_nm _), hx, e]
  have e2 : bI (0 ≤ x ∧ x ≤ (n : Int) - 1) = bI (0 ≤ x ∧ x < n) := by
    unfold bI
    by_cases h : 0 ≤ x ∧ x < (n : Int)
    · rw [if_pos h, if_pos (by omega)]
    · rw [if_neg h, if_neg (by omega)]
  rw [e2]
  constructor
  · exact fun h => h.2
  · exact fun h => ⟨bI_01 _, h⟩
