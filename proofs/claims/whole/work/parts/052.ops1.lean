/-! LAYER 2: calls that read or write a process's own things -/
theorem SimB.uniq {k n n' : Nat} {ls ls' : List Nat} {e e2 f f2 : Option Nat} {C M M' : St} (h : SimB k n ls e e2 C M) (h' : SimB k n' ls' f f2 C M') : n = n' ∧ ls = ls' := by
  obtain ⟨⟨-, h1, -⟩, ⟨h2, -⟩, -⟩ := h
  obtain ⟨⟨-, g1, -⟩, ⟨g2, -⟩, -⟩ := h'
  refine ⟨by omega, List.ext_getElem? fun i => ?_⟩
  rw [← h2, g2]
def LockB (k k' n : Nat) (ls : List Nat) (wc : (Int → St → Prop) → Prop) (C : St) (wm : St → (Int → St → Prop) → Prop) : Prop :=
  ∃ r C', (∀ po, po r C' → wc po) ∧ MEq C C' ∧ ∀ M, SimB k n ls none none C M → ∃ M', (∀ po, po r M' → wm M po) ∧ CEq M M' ∧ Sim k' C' M'
theorem Lock.of {k k' n : Nat} {ls : List Nat} {C M0 : St} {wc : (Int → St → Prop) → Prop} {wm : St → (Int → St → Prop) → Prop} (h : SimB k n ls none none C M0) (hb : LockB k k' n ls wc C wm) : Lock k k' wc C wm := by
  obtain ⟨r, C', h1, h2, h3⟩ := hb
  refine ⟨r, C', h1, h2, fun M hM => ?_⟩
  obtain ⟨n', ls', hM⟩ := hM
  obtain ⟨rfl, rfl⟩ := h.uniq hM
  exact h3 M hM
theorem LockB.read {k n : Nat} {ls : List Nat} {C : St} {wc : (Int → St → Prop) → Prop} {wm : St → (Int → St → Prop) → Prop} (r : Int) (h1 : ∀ po, po r C → wc po) (h2 : ∀ M, SimB k n ls none none C M → ∀ po, po r M → wm M po) : LockB k k n ls wc C wm :=
  ⟨r, C, h1, MEq.rf, fun M hM => ⟨M, h2 M hM, CEq.rf, n, ls, hM⟩⟩
theorem toNat_lt {x : Int} {n : Nat} (h : 0 ≤ x ∧ x < n) : x.toNat < n := by omega
theorem op_result {k n : Nat} {ls : List Nat} {C M0 : St} {x : Int} (hx : nm x = x) (h : SimB k n ls none none C M0) : LockB k k n ls (wp_X7_result x C) C (fun M => wp_X8_result x M) := by
  have hr := h.1
  by_cases hp : 0 ≤ x ∧ x < (n : Int)
  · refine LockB.read (gI C 14 x.toNat 0) (fun po hpo => ?_) (fun M hM po hpo => ?_)
    · unfold wp_X7_result
      rw [sp_processAt hx hr.1 hr.2.2.2, if_pos hp]
      simpa using hpo
    · have hm := hM.1
      have hq := hM.2.2.2.2.2.1 x.toNat (toNat_lt hp)
      unfold wp_X8_result
      rw [sp_isProcess hx hm.1 hm.2.2.1]
      simp only [nm_bI, bI_0, hx, ne_eq, Decidable.not_not]
      have h16 : 0 ≤ x ∧ x < 16 := by have := hm.1; omega
      rw [hq.2.2.2.2.1 (by simp)] at hpo
      simp [hp, h16, hpo]
  · refine LockB.read (-2) (fun po hpo => ?_) (fun M hM po hpo => ?_)
    · unfold wp_X7_result
      rw [sp_processAt hx hr.1 hr.2.2.2, if_neg hp]
      simpa using hpo
    · have hm := hM.1
      unfold wp_X8_result
      rw [sp_isProcess hx hm.1 hm.2.2.1]
      simp only [nm_bI, bI_0, hx, ne_eq, Decidable.not_not]
      simp [hp, hpo]
theorem PrivC.rf {C : St} : PrivC C C := ⟨rfl, fun _ _ _ _ _ _ _ => rfl, fun _ _ _ _ _ => rfl, fun _ _ _ => rfl⟩
theorem PrivM.rf {M : St} : PrivM M M := ⟨fun _ _ _ _ => rfl, fun _ _ _ => rfl⟩
theorem PrivC.uI {C C1 : St} (h : PrivC C C1) (f a b : Nat) (v : Int) (hf : f = 13 ∨ f = 14 ∨ f = 16) : PrivC C (uI C1 f a b v) := by
  refine ⟨h.1, fun f' a' b' h1 h2 h3 h4 => ?_, h.2.2.1, h.2.2.2⟩
  rw [gI_uI, if_neg (by omega)]; exact h.2.1 f' a' b' h1 h2 h3 h4
theorem PrivC.uL {C C1 : St} (h : PrivC C C1) (a b : Nat) (v : Int) : PrivC C (uL C1 10 a b v) := by
  refine ⟨h.1, h.2.1, fun f' a' b' h1 h2 => ?_, h.2.2.2⟩
  rw [gL_uL, if_neg (by omega)]; exact h.2.2.1 f' a' b' h1 h2
theorem PrivM.uI {M M1 : St} (h : PrivM M M1) (a b : Nat) (v : Int) (hf : a = 3 ∨ a = 4 ∨ a = 5) : PrivM M (uI M1 110 a b v) := by
  refine ⟨fun f' a' b' h1 => ?_, h.2⟩
  rw [gI_uI, if_neg (by omega)]; exact h.1 f' a' b' h1
theorem PrivM.uL {M M1 : St} (h : PrivM M M1) (b : Nat) (v : Int) : PrivM M (uL M1 110 6 b v) := by
  refine ⟨h.1, fun a' b' h1 => ?_⟩
  rw [gL_uL, if_neg (by omega)]; exact h.2 a' b' h1
theorem nmL_of {x : Int} (h : nm x = x) : nmL x = x := by rw [← h]; exact nmL_nm x
theorem not_proc {x : Int} {n : Nat} (h : ¬ (0 ≤ x ∧ x < (n : Int))) {P : Prop} (hp : ∀ p : Nat, p < n → x = (p : Int) → P) (hn : ¬ (0 ≤ x ∧ x < (n : Int)) → P) : P := hn h
/-- a number that is a process's, as a natural number -/
theorem proc_or (x : Int) (n : Nat) : (∃ p : Nat, p < n ∧ x = (p : Int)) ∨ ¬ (0 ≤ x ∧ x < (n : Int)) := by
  by_cases h : 0 ≤ x ∧ x < (n : Int)
  · exact Or.inl ⟨x.toNat, by omega, by omega⟩
  · exact Or.inr h
theorem nm_nat {p n : Nat} (hp : p < n) (hn : n ≤ 65536) : nm (p : Int) = p := nm_id (by omega)
theorem op_areaAt {k n : Nat} {ls : List Nat} {C M0 : St} {x y : Int} (hx : nm x = x) (hy : nm y = y) (h : SimB k n ls none none C M0) : LockB k k n ls (wp_X7_areaAt x y C) C (fun M => wp_X8_areaAt x y M) := by
  have hr := h.1
  have hn := hr.1
  rcases proc_or x n with ⟨p, hp, rfl⟩ | hp
  · by_cases hy2 : 0 ≤ y ∧ y ≤ 63
    · obtain ⟨j, hj, rfl⟩ : ∃ j : Nat, j < 64 ∧ y = (j : Int) := ⟨y.toNat, by omega, by omega⟩
      refine LockB.read (gI C 16 p j) (fun po hpo => ?_) (fun M hM po hpo => ?_)
      · unfold wp_X7_areaAt
        rw [sp_processAt hx hr.1 hr.2.2.2, if_pos (by omega)]
        simp only [sp_isWithin hy (show nm 63 = 63 by decide), nm_bI, bI_0, hy, ne_eq, Decidable.not_not]
        simp [hy2, hpo, show (j : Int) < 64 by omega]
      · have hm := hM.1
        have hq := (hM.2.2.2.2.2.1 p hp).2.2.2.2.2.2.2 j hj
        unfold wp_X8_areaAt
        rw [sp_isProcess hx hm.1 hm.2.2.1]
        have e1 : nm (64 * (p : Int) + j) = 64 * (p : Int) + j := nm_id (by omega)
        have e2 : (64 * (p : Int) + j).toNat = 64 * p + j := by omega
        simp only [sp_in (nmL_of hy) (show nmL 0 = 0 by decide) (show nmL 63 = 63 by decide), nm_bI, bI_0, hx, hy, ne_eq, Decidable.not_not, e1, e2]
        rw [hq] at hpo
        simp [hy2, hpo, show (p : Int) < n by omega]
        omega
    · refine LockB.read (-4) (fun po hpo => ?_) (fun M hM po hpo => ?_)
      · unfold wp_X7_areaAt
        rw [sp_processAt hx hr.1 hr.2.2.2, if_pos (by omega)]
        simp only [sp_isWithin hy (show nm 63 = 63 by decide), nm_bI, bI_0, hy, ne_eq, Decidable.not_not]
        simp [hy2, hpo]
      · have hm := hM.1
        unfold wp_X8_areaAt
        rw [sp_isProcess hx hm.1 hm.2.2.1]
        simp only [sp_in (nmL_of hy) (show nmL 0 = 0 by decide) (show nmL 63 = 63 by decide), nm_bI, bI_0, hx, hy, ne_eq, Decidable.not_not]
        simp [hy2, hpo, show (p : Int) < n by omega]
  · refine LockB.read (-2) (fun po hpo => ?_) (fun M hM po hpo => ?_)
    · unfold wp_X7_areaAt
      rw [sp_processAt hx hr.1 hr.2.2.2, if_neg hp]
      simpa using hpo
    · have hm := hM.1
      unfold wp_X8_areaAt
      rw [sp_isProcess hx hm.1 hm.2.2.1]
      simp only [nm_bI, bI_0, hx, ne_eq, Decidable.not_not]
      simp [hp, hpo]
theorem op_taken {k n : Nat} {ls : List Nat} {C M0 : St} {x : Int} (hx : nm x = x) (h : SimB k n ls none none C M0) : LockB k k n ls (wp_X7_taken x C) C (fun M => wp_X8_taken x M) := by
  have hr := h.1
  have hn := hr.1
  rcases proc_or x n with ⟨p, hp, rfl⟩ | hp
  · refine LockB.read (gL C 10 p 0) (fun po hpo => ?_) (fun M hM po hpo => ?_)
    · unfold wp_X7_taken
      rw [sp_processAt hx hr.1 hr.2.2.2, if_pos (by omega)]
      simpa using hpo
    · have hm := hM.1
      have hq := hM.2.2.2.2.2.1 p hp
      unfold wp_X8_taken
      rw [sp_isProcess hx hm.1 hm.2.2.1]
      simp only [nm_bI, bI_0, hx, ne_eq, Decidable.not_not]
      rw [hq.2.2.2.2.2.2.1] at hpo
      simp [hpo]
      omega
  · refine LockB.read (-2) (fun po hpo => ?_) (fun M hM po hpo => ?_)
    · unfold wp_X7_taken
      rw [sp_processAt hx hr.1 hr.2.2.2, if_neg hp]
      simpa using hpo
    · have hm := hM.1
      unfold wp_X8_taken
      rw [sp_isProcess hx hm.1 hm.2.2.1]
      simp only [nm_bI, bI_0, hx, ne_eq, Decidable.not_not]
      simp [hp, hpo]
theorem op_area {k n : Nat} {ls : List Nat} {C M0 : St} {x y v : Int} (hx : nm x = x) (hy : nm y = y) (hv : nm v = v) (h : SimB k n ls none none C M0) : LockB k k n ls (wp_X7_area x y v C) C (fun M => wp_X8_area x y v M) := by
  have hr := h.1
  have hn := hr.1
  rcases proc_or x n with ⟨p, hp, rfl⟩ | hp
  · by_cases hy2 : 0 ≤ y ∧ y ≤ 63
    · obtain ⟨j, hj, rfl⟩ : ∃ j : Nat, j < 64 ∧ y = (j : Int) := ⟨y.toNat, by omega, by omega⟩
      by_cases hv2 : 0 ≤ v ∧ v ≤ 255
      · refine ⟨gI C 16 p j, uI C 16 p j v, fun po hpo => ?_, MEq.rf.uI _ _ _ _ (by decide), fun M hM => ?_⟩
        · unfold wp_X7_area
          rw [sp_processAt hx hr.1 hr.2.2.2, if_pos (by omega)]
          simp only [sp_isWithin hy (show nm 63 = 63 by decide), sp_isWithin hv (show nm 255 = 255 by decide), nm_bI, bI_0, hy, ne_eq, Decidable.not_not]
          simp [hy2, hv2, hpo, show (j : Int) < 64 by omega]
        · have hm := hM.1
          have hq := (hM.2.2.2.2.2.1 p hp).2.2.2.2.2.2.2 j hj
          have e1 : nm (64 * (p : Int) + j) = 64 * (p : Int) + j := nm_id (by omega)
          have e2 : (64 * (p : Int) + j).toNat = 64 * p + j := by omega
          refine ⟨uI M 110 5 (64 * p + j) v, fun po hpo => ?_, CEq.rf.uI _ _ _ _ (by decide), n, ls, hM.priv (PrivC.rf.uI _ _ _ _ (by simp)) (PrivM.rf.uI _ _ _ (by simp)) (fun q hq2 => ?_) (fun hF q h1 h2 => by
            obtain ⟨f1, f2, f3, f4, f5⟩ := hF q h1 h2
            refine ⟨by rw [gI_uI, if_neg (by omega)]; exact f1, by rw [gI_uI, if_neg (by omega)]; exact f2, by rw [gI_uI, if_neg (by omega)]; exact f3, f4, fun i hi => by rw [gI_uI, if_neg (by omega)]; exact f5 i hi⟩)⟩
          · show wp_X8_area _ _ _ M po
            unfold wp_X8_area
            rw [sp_isProcess hx hm.1 hm.2.2.1]
            simp only [sp_in (nmL_of hy) (show nmL 0 = 0 by decide) (show nmL 63 = 63 by decide), sp_in (nmL_of hv) (show nmL 0 = 0 by decide) (show nmL 255 = 255 by decide), nm_bI, bI_0, hx, hy, hv, ne_eq, Decidable.not_not, e1, e2]
            rw [hq] at hpo
            simp [hy2, hv2, hpo, show (p : Int) < n by omega]
            omega
          · obtain ⟨a1, a2, a3, a4, a5, a6, a7, a8⟩ := hM.2.2.2.2.2.1 q hq2
            refine ⟨by simpa [gI_uI] using a1, by simpa [gI_uI] using a2, by simpa [gI_uI] using a3, by simpa [gI_uI] using a4, by simpa [gI_uI] using a5, by simpa [gI_uI] using a6, a7, fun i hi => ?_⟩
            have := a8 i hi
            by_cases hc : q = p ∧ i = j
            · obtain ⟨rfl, rfl⟩ := hc
              simp [gI_uI]
            · rw [gI_uI, gI_uI, if_neg (by omega), if_neg (by omega)]; exact this
      · refine LockB.read (-4) (fun po hpo => ?_) (fun M hM po hpo => ?_)
        · unfold wp_X7_area
          rw [sp_processAt hx hr.1 hr.2.2.2, if_pos (by omega)]
          simp only [sp_isWithin hy (show nm 63 = 63 by decide), sp_isWithin hv (show nm 255 = 255 by decide), nm_bI, bI_0, hy, ne_eq, Decidable.not_not]
          simp [hy2, hv2, hpo]
        · have hm := hM.1
          unfold wp_X8_area
          rw [sp_isProcess hx hm.1 hm.2.2.1]
          simp only [sp_in (nmL_of hy) (show nmL 0 = 0 by decide) (show nmL 63 = 63 by decide), sp_in (nmL_of hv) (show nmL 0 = 0 by decide) (show nmL 255 = 255 by decide), nm_bI, bI_0, hx, hy, hv, ne_eq, Decidable.not_not]
          simp [hy2, hv2, hpo, show (p : Int) < n by omega]
    · refine LockB.read (-4) (fun po hpo => ?_) (fun M hM po hpo => ?_)
      · unfold wp_X7_area
        rw [sp_processAt hx hr.1 hr.2.2.2, if_pos (by omega)]
        simp only [sp_isWithin hy (show nm 63 = 63 by decide), nm_bI, bI_0, hy, ne_eq, Decidable.not_not]
        simp [hy2, hpo]
      · have hm := hM.1
        unfold wp_X8_area
        rw [sp_isProcess hx hm.1 hm.2.2.1]
        simp only [sp_in (nmL_of hy) (show nmL 0 = 0 by decide) (show nmL 63 = 63 by decide), nm_bI, bI_0, hx, hy, ne_eq, Decidable.not_not]
        simp [hy2, hpo, show (p : Int) < n by omega]
  · refine LockB.read (-2) (fun po hpo => ?_) (fun M hM po hpo => ?_)
    · unfold wp_X7_area
      rw [sp_processAt hx hr.1 hr.2.2.2, if_neg hp]
      simpa using hpo
    · have hm := hM.1
      unfold wp_X8_area
      rw [sp_isProcess hx hm.1 hm.2.2.1]
      simp only [nm_bI, bI_0, hx, ne_eq, Decidable.not_not]
      simp [hp, hpo]
