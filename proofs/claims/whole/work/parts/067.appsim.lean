/-! LAYER 2: what the end of a queue looks like then -/
theorem gI_appC (C : St) (s u v i m f a b : Nat) (huv : u ≠ v) : gI (appC C s u v i m) f a b = if f = 41 ∧ a = s ∧ b = 0 then nm (gI C 41 s 0 + gI C 17 u 0) else if f = 40 ∧ a = s ∧ b = 0 then nm (gI C 40 s 0 + 1) else if f = 18 ∧ a = v ∧ b < m then gI C 18 u b else if f = 17 ∧ a = v ∧ b = 0 then gI C 17 u 0 else gI C f a b := by
  unfold appC filC
  rw [gI_uI, gI_uI, gI_uR, gI_cpI, gI_uI, gI_uL, gI_uI, gI_uL, nm_gI]
  simp
theorem gL_appC (C : St) (s u v i m f a b : Nat) : gL (appC C s u v i m) f a b = if f = 11 ∧ a = v ∧ b = 0 then gL C 11 u 0 else gL C f a b := by
  unfold appC filC
  rw [gL_uI, gL_uI, gL_uR, gL_cpI, gL_uI, gL_uL, nmL_gL]
theorem gR_appC (C : St) (s u v i m f a b : Nat) : gR (appC C s u v i m) f a b = if f = 11 ∧ a = s ∧ b = i then some v else gR C f a b := rfl
theorem gI_appM (M : St) (s p i : Nat) (ty sz : Int) (m f a b : Nat) : gI (appM M s p i ty sz m) f a b = if f = 110 ∧ a = 32 ∧ b = s then nm (gI M 110 32 s + sz) else if f = 110 ∧ a = 34 ∧ b = s then nm (gI M 110 34 s + 1) else if f = 110 ∧ a = 37 ∧ 64 * (40 * s + i) ≤ b ∧ b < 64 * (40 * s + i) + m then gI M 110 13 (64 * p + (b - 64 * (40 * s + i))) else if f = 110 ∧ a = 36 ∧ b = 40 * s + i then nm sz else gI M f a b := by
  unfold appM
  rw [gI_uI, gI_uI, gI_cpI, gI_uI, gI_uL, gI_uI, gI_uL]
  simp
theorem gL_appM (M : St) (s p i : Nat) (ty sz : Int) (m f a b : Nat) : gL (appM M s p i ty sz m) f a b = if f = 110 ∧ a = 35 ∧ b = 40 * s + i then nmL ty else gL M f a b := by
  unfold appM
  rw [gL_uI, gL_uI, gL_cpI, gL_uI, gL_uL]
theorem SimB.app {k n : Nat} {ls : List Nat} {e e2 : Option Nat} {C M : St} {s c u v m p : Nat} {ty : Int} (h : SimB k n ls e e2 C M) (hs : s < 12) (hh : hre C s) (hc : gI C 40 s 0 = c) (hc40 : c < 40) (hv : v % 2 = 1) (hvt : (12, v) ∈ C.2.1) (hvr : ∀ s' i', gR C 11 s' i' = some v → s' = s ∧ i' = c) (hu : u % 2 = 0) (hty : gL C 11 u 0 = ty ∧ 1 ≤ ty) (hm : gI C 17 u 0 = m) (hm64 : m ≤ 64) (hb : ∀ j : Nat, (j : Int) < (m : Int) → gI C 18 u j = gI M 110 13 (64 * p + j)) : SimB k n ls e e2 (appC C s u v c m) (appM M s p c ty m m) := by
  have huv : u ≠ v := by omega
  have nty : nmL ty = ty := by rw [← hty.1]; exact nmL_gL _ _ _ _
  have hC : AgC [1, 2, 10, 11, 12, 13, 14, 15, 16, 19, 20, 21, 22, 23, 24, 25, 26, 27, 30, 31, 32, 33, 34, 35, 36, 37, 38, 39, 42, 45, 46, 47, 48] [10, 12] [1, 2, 3, 4, 10] C (appC C s u v c m) :=
    ((((((AgC.rf.uL _ _ _ (by decide)).uI _ _ _ (by decide)).cp _ _ _ _ _ _ (by decide)).uR _ _ _ (by decide)).uI _ _ _ (by decide)).uI _ _ _ (by decide))
  have hM : AgM [1, 2, 3, 4, 5, 7, 8, 9, 11, 12, 13, 14, 16, 17, 18, 19, 20, 21, 22, 23, 24, 25, 26, 27, 28, 29, 30, 31, 33, 35, 38, 39, 40, 41] [6, 10] M (appM M s p c ty m m) :=
    (((((AgM.rf.uL _ _ (by decide)).uI _ _ (by decide)).cp _ _ _ _ _ (by decide)).uI _ _ (by decide)).uI _ _ (by decide))
  refine h.msgs hC hM ?_ ?_ ?_
  · refine ⟨fun s' i' u' hu' => ?_, fun s1 i1 s2 i2 u' h1 h2 => ?_⟩
    · rw [gR_appC] at hu'
      by_cases z : 11 = 11 ∧ s' = s ∧ i' = c
      · rw [if_pos z] at hu'; cases hu'; exact ⟨hv, hvt⟩
      · rw [if_neg z] at hu'; exact h.2.2.2.2.1.1 s' i' u' hu'
    · rw [gR_appC] at h1 h2
      by_cases z1 : 11 = 11 ∧ s1 = s ∧ i1 = c
      · by_cases z2 : 11 = 11 ∧ s2 = s ∧ i2 = c
        · omega
        · rw [if_pos z1] at h1; rw [if_neg z2] at h2; cases h1
          have := hvr _ _ h2; omega
      · by_cases z2 : 11 = 11 ∧ s2 = s ∧ i2 = c
        · rw [if_neg z1] at h1; rw [if_pos z2] at h2; cases h2
          have := hvr _ _ h1; omega
        · rw [if_neg z1] at h1; rw [if_neg z2] at h2
          exact h.2.2.2.2.1.2 _ _ _ _ _ h1 h2
  · refine wait_off (C := C) (v := v) hv (fun f hf a b => ?_) (fun f hf a b hne => ?_) (fun a b => ?_) (fun a b hne => ?_) (fun f hf a b => ?_) (hM.sub (by decide) (by decide)) h.2.2.2.2.2.2.2.1
    · rw [gI_appC _ _ _ _ _ _ _ _ _ huv, if_neg (by rintro ⟨rfl, -⟩; revert hf; decide), if_neg (by rintro ⟨rfl, -⟩; revert hf; decide), if_neg (by rintro ⟨rfl, -⟩; revert hf; decide), if_neg (by rintro ⟨rfl, -⟩; revert hf; decide)]
    · rw [gI_appC _ _ _ _ _ _ _ _ _ huv, if_neg (by omega), if_neg (by omega), if_neg (by omega), if_neg (by omega)]
    · rw [gL_appC, if_neg (by omega)]
    · rw [gL_appC, if_neg (by omega)]
    · rw [gR_appC, if_neg (by rintro ⟨rfl, -⟩; revert hf; decide)]
  · intro s' hs' hh'
    have hh2 : hre C s' := (hre_ag (hC.2.2.2 2 (by decide)) (hC.2.2.2 3 (by decide)) (hC.2.1 32 (by decide)) s').mp hh'
    obtain ⟨q1, q2, q3, q4, q5, q6, q7, q8⟩ := h.2.2.2.2.2.2.2.2.2.1 s' hs' hh2
    have e42 : gI (appC C s u v c m) 42 s' 0 = gI C 42 s' 0 := hC.2.1 42 (by decide) _ _
    have e33 : gI (appM M s p c ty m m) 110 33 s' = gI M 110 33 s' := hM.1 33 (by decide) _
    have e40 : gI (appC C s u v c m) 40 s' 0 = if s' = s then (c : Int) + 1 else gI C 40 s' 0 := by
      rw [gI_appC _ _ _ _ _ _ _ _ _ huv, if_neg (by omega)]
      by_cases z : s' = s
      · rw [if_pos ⟨rfl, z, rfl⟩, if_pos z, hc]; exact nm_id (by omega)
      · rw [if_neg (by omega), if_neg z, if_neg (by omega), if_neg (by omega)]
    have e34 : gI (appM M s p c ty m m) 110 34 s' = if s' = s then (c : Int) + 1 else gI M 110 34 s' := by
      rw [gI_appM, if_neg (by omega)]
      by_cases z : s' = s
      · subst z
        rw [if_pos ⟨rfl, rfl, rfl⟩, if_pos rfl, ← q1, hc]; exact nm_id (by omega)
      · rw [if_neg (by omega), if_neg z, if_neg (by omega), if_neg (by omega)]
    have e41 : gI (appC C s u v c m) 41 s' 0 = gI (appM M s p c ty m m) 110 32 s' := by
      rw [gI_appC _ _ _ _ _ _ _ _ _ huv, gI_appM]
      by_cases z : s' = s
      · subst z
        rw [if_pos ⟨rfl, rfl, rfl⟩, if_pos ⟨rfl, rfl, rfl⟩, ← q4, hm]
      · rw [if_neg (by omega), if_neg (by omega), if_neg (by omega), if_neg (by omega), if_neg (by omega), if_neg (by omega), if_neg (by omega), if_neg (by omega), q4]
    refine ⟨?_, ?_, ?_, e41, by rw [e42, e33]; exact q5, by rw [e42]; exact q6, by rw [e42]; exact q7, fun i hi => ?_⟩
    · rw [e40, e34]; split
      · rfl
      · exact q1
    · rw [e40]; split <;> omega
    · rw [e40]; split <;> omega
    · rw [e40] at hi
      by_cases z : s' = s ∧ i = c
      · obtain ⟨rfl, rfl⟩ := z
        refine ⟨v, by rw [gR_appC, if_pos ⟨rfl, rfl, rfl⟩], ?_⟩
        have e17 : gI (appC C s' u v i m) 17 v 0 = m := by
          rw [gI_appC _ _ _ _ _ _ _ _ _ huv, if_neg (by omega), if_neg (by omega), if_neg (by omega), if_pos ⟨rfl, rfl, rfl⟩, hm]
        have e11 : gL (appC C s' u v i m) 11 v 0 = ty := by
          rw [gL_appC, if_pos ⟨rfl, rfl, rfl⟩, hty.1]
        refine ⟨?_, by rw [e11]; exact hty.2, ?_, by rw [e17]; omega, by rw [e17]; omega, fun b hbb => ?_⟩
        · rw [e11, gL_appM, if_pos ⟨rfl, rfl, rfl⟩, nty]
        · rw [e17, gI_appM, if_neg (by omega), if_neg (by omega), if_neg (by omega), if_pos ⟨rfl, rfl, rfl⟩]
          exact (nm_id (by omega)).symm
        · rw [e17] at hbb
          rw [gI_appC _ _ _ _ _ _ _ _ _ huv, if_neg (by omega), if_neg (by omega), if_pos ⟨rfl, rfl, by omega⟩, gI_appM, if_neg (by omega), if_neg (by omega), if_pos ⟨rfl, rfl, by omega, by omega⟩, hb b hbb]
          congr 1
          omega
      · have hi' : (i : Int) < gI C 40 s' 0 := by
          by_cases z2 : s' = s
          · rw [if_pos z2] at hi; rw [z2, hc]; have : i ≠ c := fun z3 => z ⟨z2, z3⟩; omega
          · rw [if_neg z2] at hi; exact hi
        obtain ⟨w, hw, hm1, hm2, hm3, hm4, hm5, hm6⟩ := q8 i hi'
        have hwv : w ≠ v := fun z3 => by
          subst z3
          exact z (hvr _ _ hw)
        have hij : 40 * s' + i ≠ 40 * s + c := fun z3 => z (by omega)
        have e17 : gI (appC C s u v c m) 17 w 0 = gI C 17 w 0 := by
          rw [gI_appC _ _ _ _ _ _ _ _ _ huv, if_neg (by omega), if_neg (by omega), if_neg (by omega), if_neg (by omega)]
        have e11 : gL (appC C s u v c m) 11 w 0 = gL C 11 w 0 := by
          rw [gL_appC, if_neg (by omega)]
        refine ⟨w, by rw [gR_appC, if_neg (by omega)]; exact hw, ?_, by rw [e11]; exact hm2, ?_, by rw [e17]; exact hm4, by rw [e17]; exact hm5, fun b hbb => ?_⟩
        · rw [e11, gL_appM, if_neg (by omega)]; exact hm1
        · rw [e17, gI_appM, if_neg (by omega), if_neg (by omega), if_neg (by omega), if_neg (by omega)]; exact hm3
        · rw [e17] at hbb
          rw [gI_appC _ _ _ _ _ _ _ _ _ huv, if_neg (by omega), if_neg (by omega), if_neg (by omega), if_neg (by omega), gI_appM, if_neg (by omega), if_neg (by omega), if_neg (by omega), if_neg (by omega)]
          exact hm6 b hbb
theorem SimB.append {k n : Nat} {ls : List Nat} {e e2 : Option Nat} {C C0 M : St} {s c u v m p : Nat} {ty : Int} (h : SimB k n ls e e2 C M) (hs : s < 12) (hh : hre C s) (hc : gI C 40 s 0 = c) (hc40 : c < 40) (hsp : spareS C s c v C0) (hu : u % 2 = 0) (hty : gL C 11 u 0 = ty ∧ 1 ≤ ty) (hm : gI C 17 u 0 = m) (hm64 : m ≤ 64) (hb : ∀ j : Nat, (j : Int) < (m : Int) → gI C 18 u j = gI M 110 13 (64 * p + j)) : SimB k n ls e e2 (appC C0 s u v c m) (appM M s p c ty m m) := by
  rcases hsp with ⟨hr, rfl⟩ | ⟨hr, hn⟩
  · obtain ⟨hv, hvt⟩ := h.2.2.2.2.1.1 _ _ _ hr
    exact h.app hs hh hc hc40 hv hvt (fun s' i' h' => h.2.2.2.2.1.2 _ _ _ _ _ h' hr) hu hty hm hm64 hb
  · obtain ⟨hv1, hv2, hv, q1, q2, rfl⟩ := hn
    have huv : u ≠ v := by omega
    refine (h.withMsg hv hv1).app hs ?_ ?_ hc40 hv (List.mem_append_right _ (by simp)) (fun s' i' h' => ?_) hu ?_ ?_ hm64 (fun j hj => ?_)
    · unfold hre at hh ⊢
      rw [gI_mkMsg, if_neg (by omega)]
      exact hh
    · rw [gI_mkMsg, if_neg (by omega)]; exact hc
    · exact absurd (h.2.2.2.2.1.1 _ _ _ h').2 hv1
    · rw [gL_mkMsg, if_neg (by omega)]; exact hty
    · rw [gI_mkMsg, if_neg (by omega)]; exact hm
    · rw [gI_mkMsg, if_neg (by omega)]; exact hb j hj
