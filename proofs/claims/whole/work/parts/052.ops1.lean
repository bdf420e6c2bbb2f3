/-! LAYER 2: calls that read or write a process's own things -/
theorem SimB.uniq {k n n' : Nat} {ls ls' : List Nat} {e e2 f f2 : Option Nat} {C M M' : St} (h : SimB k n ls e e2 C M) (h' : SimB k n' ls' f f2 C M') : n = n' ∧ ls = ls' := by
  obtain ⟨⟨-, h1, -⟩, ⟨h2, -⟩, -⟩ := h
  obtain ⟨⟨-, g1, -⟩, ⟨g2, -⟩, -⟩ := h'
  refine ⟨by omega, List.ext_getElem? fun i => ?_⟩
  rw [← h2, g2]
def LockB (k k' n : Nat) (ls : List Nat) (wc : (Int → St → Prop) → Prop) (C : St) (wm : St → (Int → St → Prop) → Prop) : Prop :=
  ∃ r C', (∀ po, po r C' → wc po) ∧ MEq C C' ∧ ∀ M, SimB k n ls none none C M → ∃ M', (∀ po, po r M' → wm M po) ∧ CEq M M' ∧ Sim k' C' M'
theorem Lock.of {k k' n : Nat} {ls : List Nat} {C M0 : St} {wc : (Int → St → Prop) → Prop} {wm : St → (Int → St → Prop) → Prop} (h : SimB k n ls none none C M0) (hb : LockB k k' n ls wc C wm) : Lock k k' wc C wm := by
  obtain ⟨r, C', h1, h2, h3⟩ := hb
  refine ⟨r, C', h1, h2, fun M hM => ?_⟩
  obtain ⟨n', ls', hM⟩ := hM
  obtain ⟨rfl, rfl⟩ := h.uniq hM
  exact h3 M hM
theorem LockB.read {k n : Nat} {ls : List Nat} {C : St} {wc : (Int → St → Prop) → Prop} {wm : St → (Int → St → Prop) → Prop} (r : Int) (h1 : ∀ po, po r C → wc po) (h2 : ∀ M, SimB k n ls none none C M → ∀ po, po r M → wm M po) : LockB k k n ls wc C wm :=
  ⟨r, C, h1, MEq.rf, fun M hM => ⟨M, h2 M hM, CEq.rf, n, ls, hM⟩⟩
theorem toNat_lt {x : Int} {n : Nat} (h : 0 ≤ x ∧ x < n) : x.toNat < n := by omega
theorem op_result {k n : Nat} {ls : List Nat} {C M0 : St} {x : Int} (hx : nm x = x) (h : SimB k n ls none none C M0) : LockB k k n ls (wp_X7_result x C) C (fun M => wp_X8_result x M) := by
  have hr := h.1
  by_cases hp : 0 ≤ x ∧ x < (n : Int)
  · refine LockB.read (gI C 14 x.toNat 0) (fun po hpo => ?_) (fun M hM po hpo => ?_)
    · unfold wp_X7_result
      rw [sp_processAt hx hr.1 hr.2.2.2, if_pos hp]
      simpa using hpo
    · have hm := hM.1
      have hq := hM.2.2.2.2.2.1 x.toNat (toNat_lt hp)
      unfold wp_X8_result
      rw [sp_isProcess hx hm.1 hm.2.2.1]
      simp only [nm_bI, bI_0, hx, ne_eq, Decidable.not_not]
      have h16 : 0 ≤ x ∧ x < 16 := by have := hm.1; omega
      rw [hq.2.2.2.2.1 (by simp)] at hpo
      simp [hp, h16, hpo]
  · refine LockB.read (-2) (fun po hpo => ?_) (fun M hM po hpo => ?_)
    · unfold wp_X7_result
      rw [sp_processAt hx hr.1 hr.2.2.2, if_neg hp]
      simpa using hpo
    · have hm := hM.1
      unfold wp_X8_result
      rw [sp_isProcess hx hm.1 hm.2.2.1]
      simp only [nm_bI, bI_0, hx, ne_eq, Decidable.not_not]
      simp [hp, hpo]
