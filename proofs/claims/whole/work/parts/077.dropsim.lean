/-! LAYER 2: a queue that lost one -/
def drpM (M : St) (s j c : Nat) (sz : Int) : St := shM (uI (uI M 110 32 s (gI M 110 32 s - sz)) 110 34 s ((c : Int) - 1)) s j (c - 1)
theorem AgM.sh {LI LL : List Nat} {M M1 : St} (h : AgM LI LL M M1) (s j i : Nat) (h36 : 36 ∉ LI) (h37 : 37 ∉ LI) (h35 : 35 ∉ LL) : AgM LI LL M (shM M1 s j i) := by
  refine ⟨fun f' hf' b' => ?_, fun f' hf' b' => ?_, ?_, ?_⟩
  · rw [gI_shM, if_neg (by rintro ⟨-, rfl, -⟩; exact h36 hf'), if_neg (by rintro ⟨-, rfl, -⟩; exact h37 hf')]; exact h.1 f' hf' b'
  · rw [gL_shM, if_neg (by rintro ⟨-, rfl, -⟩; exact h35 hf')]; exact h.2.1 f' hf' b'
  · rw [gI_shM, if_neg (by omega), if_neg (by omega)]; exact h.2.2.1
  · rw [gI_shM, if_neg (by omega), if_neg (by omega)]; exact h.2.2.2
theorem CEq.sh {σ τ : St} (h : CEq σ τ) (s j i : Nat) : CEq σ (shM τ s j i) := by
  refine ⟨h.1, fun f a b hf => ?_, fun f a b hf => ?_, h.2.2.2⟩
  · rw [gI_shM, if_neg (by omega), if_neg (by omega)]; exact h.2.1 f a b hf
  · rw [gL_shM, if_neg (by omega)]; exact h.2.2.1 f a b hf
theorem gI_drpC (C : St) (s j c u f a b : Nat) : gI (drpC C s j c u) f a b = if f = 41 ∧ a = s ∧ b = 0 then nm (gI C 41 s 0 - gI C 17 u 0) else if f = 40 ∧ a = s ∧ b = 0 then nm ((c : Int) - 1) else gI C f a b := by
  unfold drpC
  rw [gI_uI, gI_uI, gI_stRow]
theorem gL_drpC (C : St) (s j c u f a b : Nat) : gL (drpC C s j c u) f a b = gL C f a b := rfl
theorem gR_drpC (C : St) (s j c u f a b : Nat) : gR (drpC C s j c u) f a b = if f = 11 ∧ a = s then gR C 11 s (sg j c b) else gR C f a b := rfl
theorem MEq.drp (C : St) (s j c u : Nat) : MEq C (drpC C s j c u) := by
  refine ⟨fun f a b hf => ?_, fun f a b hf => rfl⟩
  rw [gI_drpC, if_neg (by omega), if_neg (by omega)]
theorem CEq.drp (M : St) (s j c : Nat) (sz : Int) : CEq M (drpM M s j c sz) := ((CEq.rf.uI _ _ _ _ (by decide)).uI _ _ _ _ (by decide)).sh _ _ _
theorem gI_drpM (M : St) (s j c : Nat) (sz : Int) (f a b : Nat) : gI (drpM M s j c sz) f a b = if f = 110 ∧ a = 36 ∧ 40 * s + j ≤ b ∧ b < 40 * s + (c - 1) then gI M 110 36 (b + 1) else if f = 110 ∧ a = 37 ∧ 64 * (40 * s + j) ≤ b ∧ b < 64 * (40 * s + (c - 1)) then gI M 110 37 (b + 64) else if f = 110 ∧ a = 34 ∧ b = s then nm ((c : Int) - 1) else if f = 110 ∧ a = 32 ∧ b = s then nm (gI M 110 32 s - sz) else gI M f a b := by
  unfold drpM
  rw [gI_shM]
  simp [gI_uI]
theorem gL_drpM (M : St) (s j c : Nat) (sz : Int) (f a b : Nat) : gL (drpM M s j c sz) f a b = if f = 110 ∧ a = 35 ∧ 40 * s + j ≤ b ∧ b < 40 * s + (c - 1) then gL M 110 35 (b + 1) else gL M f a b := by
  unfold drpM
  rw [gL_shM]
  rfl
theorem sg_inj {j c i i' : Nat} (hj : j < c) (h : sg j c i = sg j c i') : i = i' := by
  unfold sg at h
  split at h <;> split at h <;> (try split at h) <;> (try split at h) <;> omega
theorem SimB.drop {k n : Nat} {ls : List Nat} {e e2 : Option Nat} {C M : St} {s j c u : Nat} (h : SimB k n ls e e2 C M) (hs : s < 12) (hh : hre C s) (hc : gI C 40 s 0 = c) (hj : j < c) (hu : gR C 11 s j = some u) : SimB k n ls e e2 (drpC C s j c u) (drpM M s j c (gI C 17 u 0)) := by
  obtain ⟨q1, q2, q3, q4, q5, q6, q7, q8⟩ := h.2.2.2.2.2.2.2.2.2.1 s hs hh
  have hC : AgC [1, 2, 10, 11, 12, 13, 14, 15, 16, 17, 18, 19, 20, 21, 22, 23, 24, 25, 26, 27, 30, 31, 32, 33, 34, 35, 36, 37, 38, 39, 42, 45, 46, 47, 48] [10, 11, 12] [1, 2, 3, 4, 10] C (drpC C s j c u) := by
    refine ⟨rfl, fun f hf a b => ?_, fun f hf a b => rfl, fun f hf a b => ?_⟩
    · rw [gI_drpC, if_neg (by rintro ⟨rfl, -⟩; revert hf; decide), if_neg (by rintro ⟨rfl, -⟩; revert hf; decide)]
    · rw [gR_drpC, if_neg (by rintro ⟨rfl, -⟩; revert hf; decide)]
  have hM : AgM [1, 2, 3, 4, 5, 7, 8, 9, 11, 12, 13, 14, 16, 17, 18, 19, 20, 21, 22, 23, 24, 25, 26, 27, 28, 29, 30, 31, 33, 35, 38, 39, 40, 41] [6, 10] M (drpM M s j c (gI C 17 u 0)) :=
    ((AgM.rf.uI _ _ (by decide)).uI _ _ (by decide)).sh _ _ _ (by decide) (by decide) (by decide)
  have nc : nm ((c : Int) - 1) = (c : Int) - 1 := nm_id (by omega)
  refine h.msgs (hC.sub (by decide) (by decide) (by decide)) hM ?_ (wait_ag (hC.sub (by decide) (by decide) (by decide)) (hM.sub (by decide) (by decide)) h.2.2.2.2.2.2.2.1) ?_
  · -- rows
    have src : ∀ s' i' u', gR (drpC C s j c u) 11 s' i' = some u' → gR C 11 s' (if s' = s then sg j c i' else i') = some u' := by
      intro s' i' u' hu'
      rw [gR_drpC] at hu'
      by_cases z : s' = s
      · subst z; rw [if_pos rfl]; rw [if_pos ⟨rfl, rfl⟩] at hu'; exact hu'
      · rw [if_neg z]; rw [if_neg (by omega)] at hu'; exact hu'
    refine ⟨fun s' i' u' hu' => h.2.2.2.2.1.1 _ _ _ (src s' i' u' hu'), fun s1 i1 s2 i2 u' h1 h2 => ?_⟩
    have := h.2.2.2.2.1.2 _ _ _ _ _ (src _ _ _ h1) (src _ _ _ h2)
    refine ⟨this.1, ?_⟩
    obtain ⟨rfl, h3⟩ := this
    by_cases z : s1 = s
    · rw [if_pos z, if_pos z] at h3; exact sg_inj hj h3
    · rw [if_neg z, if_neg z] at h3; exact h3
  · intro s' hs' hhs
    have hh2 : hre C s' := (hre_ag (hC.2.2.2 2 (by decide)) (hC.2.2.2 3 (by decide)) (hC.2.1 32 (by decide)) s').mp hhs
    obtain ⟨r1, r2, r3, r4, r5, r6, r7, r8⟩ := h.2.2.2.2.2.2.2.2.2.1 s' hs' hh2
    have e42 : gI (drpC C s j c u) 42 s' 0 = gI C 42 s' 0 := hC.2.1 42 (by decide) _ _
    have e33 : gI (drpM M s j c (gI C 17 u 0)) 110 33 s' = gI M 110 33 s' := hM.1 33 (by decide) _
    have e40 : gI (drpC C s j c u) 40 s' 0 = if s' = s then (c : Int) - 1 else gI C 40 s' 0 := by
      rw [gI_drpC, if_neg (by omega)]
      by_cases z : s' = s
      · rw [if_pos ⟨rfl, z, rfl⟩, if_pos z, nc]
      · rw [if_neg (by omega), if_neg z]
    have e34 : gI (drpM M s j c (gI C 17 u 0)) 110 34 s' = if s' = s then (c : Int) - 1 else gI M 110 34 s' := by
      rw [gI_drpM, if_neg (by omega), if_neg (by omega)]
      by_cases z : s' = s
      · rw [if_pos ⟨rfl, rfl, z⟩, if_pos z, nc]
      · rw [if_neg (by omega), if_neg (by omega), if_neg z]
    have e41 : gI (drpC C s j c u) 41 s' 0 = gI (drpM M s j c (gI C 17 u 0)) 110 32 s' := by
      rw [gI_drpC, gI_drpM, if_neg (show ¬ (110 = 110 ∧ 32 = 36 ∧ _) by omega), if_neg (show ¬ (110 = 110 ∧ 32 = 37 ∧ _) by omega), if_neg (show ¬ (110 = 110 ∧ 32 = 34 ∧ _) by omega)]
      by_cases z : s' = s
      · subst z
        rw [if_pos ⟨rfl, rfl, rfl⟩, if_pos ⟨rfl, rfl, rfl⟩, q4]
      · rw [if_neg (by omega), if_neg (by omega), if_neg (by omega), r4]
    refine ⟨?_, ?_, ?_, e41, by rw [e42, e33]; exact r5, by rw [e42]; exact r6, by rw [e42]; exact r7, fun i hi => ?_⟩
    · rw [e40, e34]; split
      · rfl
      · exact r1
    · rw [e40]; split <;> omega
    · rw [e40]; split <;> omega
    · rw [e40] at hi
      by_cases z : s' = s
      · subst z
        rw [if_pos rfl] at hi
        have hsg : sg j c i = if j ≤ i then i + 1 else i := by
          unfold sg
          rw [if_neg (by omega)]
          by_cases y : j ≤ i
          · rw [if_pos (by omega), if_pos y]
          · rw [if_neg (by omega), if_neg y]
        have hlt : sg j c i < c := by rw [hsg]; split <;> omega
        obtain ⟨w, hw, hm1, hm2, hm3, hm4, hm5, hm6⟩ := r8 (sg j c i) (by rw [hc]; omega)
        refine ⟨w, by rw [gR_drpC, if_pos ⟨rfl, rfl⟩]; exact hw, ?_, hm2, ?_, ?_, ?_, fun b hb => ?_⟩
        · rw [gL_drpC, gL_drpM, hm1, hsg]
          by_cases y : j ≤ i
          · rw [if_pos y, if_pos ⟨rfl, rfl, by omega, by omega⟩]; rfl
          · rw [if_neg y, if_neg (by omega)]
        · rw [hC.2.1 17 (by decide), gI_drpM, hm3, hsg]
          by_cases y : j ≤ i
          · rw [if_pos y, if_pos ⟨rfl, rfl, by omega, by omega⟩]; rfl
          · rw [if_neg y, if_neg (by omega), if_neg (by omega), if_neg (by omega), if_neg (by omega)]
        · rw [hC.2.1 17 (by decide)]; exact hm4
        · rw [hC.2.1 17 (by decide)]; exact hm5
        · rw [hC.2.1 17 (by decide)] at hb
          rw [hC.2.1 18 (by decide), gI_drpM, hm6 b hb, hsg]
          by_cases y : j ≤ i
          · rw [if_pos y, if_neg (by omega), if_pos ⟨rfl, rfl, by omega, by omega⟩]
            congr 1; omega
          · rw [if_neg y, if_neg (by omega), if_neg (by omega), if_neg (by omega), if_neg (by omega)]
      · rw [if_neg z] at hi
        obtain ⟨w, hw, hm1, hm2, hm3, hm4, hm5, hm6⟩ := r8 i hi
        refine ⟨w, by rw [gR_drpC, if_neg (by omega)]; exact hw, ?_, hm2, ?_, ?_, ?_, fun b hb => ?_⟩
        · rw [gL_drpC, gL_drpM, hm1, if_neg (by omega)]
        · rw [hC.2.1 17 (by decide), gI_drpM, hm3, if_neg (by omega), if_neg (by omega), if_neg (by omega), if_neg (by omega)]
        · rw [hC.2.1 17 (by decide)]; exact hm4
        · rw [hC.2.1 17 (by decide)]; exact hm5
        · rw [hC.2.1 17 (by decide)] at hb
          rw [hC.2.1 18 (by decide), gI_drpM, hm6 b hb, if_neg (by omega), if_neg (by omega), if_neg (by omega), if_neg (by omega)]
