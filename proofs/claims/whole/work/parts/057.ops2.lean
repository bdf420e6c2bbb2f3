/-! LAYER 2: signal -/
theorem op_signal {k n : Nat} {ls : List Nat} {C M0 : St} {x : Int} (hx : nm x = x) (h : SimB k n ls none none C M0) : LockB k k n ls (wp_X7_signal x C) C (fun M => wp_X8_signal x M) := by
  have hr := h.1
  have hn := hr.1
  have hl := h.2.1
  rcases proc_or x n with ⟨p, hp, rfl⟩ | hp
  · have i1 : (0 : Int) ≤ p ∧ (p : Int) < 16 := by omega
    have eT : ((p : Int)).toNat = p := by omega
    have e7 : ∀ M, SimB k n ls none none C M → gI C 15 p 0 = gI M 110 7 p := fun M hM => (hM.2.2.2.2.2.1 p hp).2.2.2.2.2.1
    by_cases hw : gI C 15 p 0 = 0
    · refine LockB.read (-3) (fun po hpo => ?_) (fun M hM po hpo => ?_)
      · unfold wp_X7_signal
        rw [sp_processAt hx hr.1 hr.2.2.2, if_pos (by omega)]
        simp [nm_gI, hw, hpo]
      · have hm := hM.1
        have := e7 M hM
        unfold wp_X8_signal
        rw [sp_isProcess hx hm.1 hm.2.2.1]
        simp only [nm_bI, bI_0, hx, ne_eq, Decidable.not_not, eT]
        rw [hw] at this
        simp [nm_gI, ← this, hpo, show (p : Int) < n by omega, i1, show nm 0 = 0 by decide]
    · refine ⟨1, goOnS C ls p (-16), fun po hpo => ?_, ?_, fun M hM => ?_⟩
      · unfold wp_X7_signal
        rw [sp_processAt hx hr.1 hr.2.2.2, if_pos (by omega)]
        refine ⟨fun z => (by cases z), ?_⟩
        rintro _ ⟨rfl⟩
        rw [nm_gI, eT]
        exact ⟨fun _ => run_goOn hl.1 hl.2.1 hl.2.2.1 hpo, fun z => absurd z hw⟩
      · exact ⟨fun f a b hf => by rw [gI_goOnS, if_neg (by omega), if_neg (by omega), if_neg (by omega)], fun f a b hf => rfl⟩
      · have hm := hM.1
        have := e7 M hM
        refine ⟨goM M p (-16), fun po hpo => ?_, ?_, n, without ls p, hM.goOn (by decide)⟩
        · show wp_X8_signal _ M po
          unfold wp_X8_signal
          rw [sp_isProcess hx hm.1 hm.2.2.1]
          simp only [nm_bI, bI_0, hx, ne_eq, Decidable.not_not, eT]
          refine ⟨fun _ => ⟨i1, fun _ => run_goesOn (by omega) hpo, fun z => ?_⟩, fun z => absurd (by omega) z⟩
          rw [nm_gI, ← this] at z
          exact absurd z hw
        · exact ((CEq.rf.uI _ _ _ _ (by decide)).uI _ _ _ _ (by decide))
  · refine LockB.read (-2) (fun po hpo => ?_) (fun M hM po hpo => ?_)
    · unfold wp_X7_signal
      rw [sp_processAt hx hr.1 hr.2.2.2, if_neg hp]
      simpa using hpo
    · have hm := hM.1
      unfold wp_X8_signal
      rw [sp_isProcess hx hm.1 hm.2.2.1]
      simp only [nm_bI, bI_0, hx, ne_eq, Decidable.not_not]
      simp [hp, hpo]

/-- both tell the same -/
theorem SimB.tell {k n : Nat} {ls : List Nat} {e e2 : Option Nat} {C M : St} {p : Nat} {r : Int} (h : SimB k n ls e e2 C M) (he : e = none ∨ e = some p) (hpn : p < n := by assumption) : SimB k n ls none e2 (uI C 14 p 0 r) (uI M 110 4 p r) := by
  refine h.priv (PrivC.rf.uI _ _ _ _ (by simp)) (PrivM.rf.uI _ _ _ (by simp)) (fun q hq => ?_) (fun hF q h1 h2 => by
    obtain ⟨f1, f2, f3, f4, f5⟩ := hF q h1 h2
    exact ⟨by rw [gI_uI, if_neg (by omega)]; exact f1, by rw [gI_uI, if_neg (by omega)]; exact f2, by rw [gI_uI, if_neg (by omega)]; exact f3, f4, fun i hi => by rw [gI_uI, if_neg (by omega)]; exact f5 i hi⟩)
  obtain ⟨a1, a2, a3, a4, a5, a6, a7, a8⟩ := h.2.2.2.2.2.1 q hq
  refine ⟨by simpa [gI_uI] using a1, by simpa [gI_uI] using a2, by simpa [gI_uI] using a3, by simpa [gI_uI] using a4, fun _ => ?_, by simpa [gI_uI] using a6, a7, fun i hi => by simpa [gI_uI] using a8 i hi⟩
  by_cases hc : q = p
  · subst hc; simp [gI_uI]
  · rw [gI_uI, gI_uI, if_neg (by omega), if_neg (by omega)]
    refine a5 ?_
    rcases he with rfl | rfl
    · simp
    · intro z; cases z; exact hc rfl
/-- the class tells what the model told before -/
theorem SimB.told {k n : Nat} {ls : List Nat} {e2 : Option Nat} {C M : St} {p : Nat} {r : Int} (h : SimB k n ls (some p) e2 C M) (hr : gI M 110 4 p = nm r) : SimB k n ls none e2 (uI C 14 p 0 r) M := by
  refine h.priv (PrivC.rf.uI _ _ _ _ (by simp)) PrivM.rf (fun q hq => ?_) id
  obtain ⟨a1, a2, a3, a4, a5, a6, a7, a8⟩ := h.2.2.2.2.2.1 q hq
  refine ⟨by simpa [gI_uI] using a1, by simpa [gI_uI] using a2, by simpa [gI_uI] using a3, by simpa [gI_uI] using a4, fun _ => ?_, by simpa [gI_uI] using a6, a7, fun i hi => by simpa [gI_uI] using a8 i hi⟩
  by_cases hc : q = p
  · subst hc; rw [gI_uI, hr]; simp
  · rw [gI_uI, if_neg (by omega)]
    exact a5 (by intro z; cases z; exact hc rfl)
/-- the model tells ahead of the class -/
theorem SimB.ahead {k n : Nat} {ls : List Nat} {e2 : Option Nat} {C M : St} {p : Nat} {r : Int} (h : SimB k n ls none e2 C M) (hpn : p < n := by assumption) : SimB k n ls (some p) e2 C (uI M 110 4 p r) := by
  refine h.priv PrivC.rf (PrivM.rf.uI _ _ _ (by simp)) (fun q hq => ?_) (fun hF q h1 h2 => by
    obtain ⟨f1, f2, f3, f4, f5⟩ := hF q h1 h2
    exact ⟨by rw [gI_uI, if_neg (by omega)]; exact f1, by rw [gI_uI, if_neg (by omega)]; exact f2, by rw [gI_uI, if_neg (by omega)]; exact f3, f4, fun i hi => by rw [gI_uI, if_neg (by omega)]; exact f5 i hi⟩)
  obtain ⟨a1, a2, a3, a4, a5, a6, a7, a8⟩ := h.2.2.2.2.2.1 q hq
  refine ⟨a1, by simpa [gI_uI] using a2, by simpa [gI_uI] using a3, by simpa [gI_uI] using a4, fun z => ?_, by simpa [gI_uI] using a6, a7, fun i hi => by simpa [gI_uI] using a8 i hi⟩
  rw [gI_uI, if_neg (by rintro ⟨-, -, rfl⟩; exact z rfl)]
  exact a5 (by simp)
/-- what a free process's call does in both -/
def MainL (k k' n : Nat) (ls : List Nat) (p : Nat) (C : St) (ic : (Int → St → Prop) → Prop) (im : St → (Int → St → Prop) → Prop) : Prop :=
  ∃ r C1, (∀ po, po r C1 → ic po) ∧ MEq C C1 ∧ ∀ M, SimB k n ls none none C M → ∃ M', (∀ po, po r M' → im M po) ∧ CEq M M' ∧ Sim k' (uI C1 14 p 0 r) M'
theorem MainL.refuse {k n : Nat} {ls : List Nat} {p : Nat} {C : St} {ic : (Int → St → Prop) → Prop} {im : St → (Int → St → Prop) → Prop} (r : Int) (h1 : ∀ po, po r C → ic po) (h2 : ∀ M, SimB k n ls none none C M → ∀ po, po r (uI M 110 4 p r) → im M po) (hpn : p < n := by assumption) : MainL k k n ls p C ic im :=
  ⟨r, C, h1, MEq.rf, fun M hM => ⟨uI M 110 4 p r, h2 M hM, CEq.rf.uI _ _ _ _ (by decide), n, ls, hM.tell (Or.inl rfl)⟩⟩
theorem caller_lock {k k' n : Nat} {ls : List Nat} {C M0 : St} {x : Int} {ic : Nat → St → (Int → St → Prop) → Prop} {im : St → (Int → St → Prop) → Prop} (hk : k ≤ k') (hx : nm x = x) (h : SimB k n ls none none C M0)
    (main : ∀ p : Nat, p < n → x = p → gI C 13 p 0 ≠ 0 → gI C 15 p 0 = 0 → p ∉ ls → MainL k k' n ls p C (ic p C) im) :
    LockB k k' n ls (fun po => wp_X7_processAt x C (fun o s => (o = none → po (-2) s) ∧ (∀ a, o = some a → wp_X2_isFree a s (fun r s => (nm r = 0 → po (-3) s) ∧ (nm r ≠ 0 → ic a s (fun r s => wp_X2_told a r s (fun r s => po r s))))))) C
      (fun M po => wp_X8_isProcess x M (fun r s => (nm r ≠ 0 → wp_X8_isFree x s (fun r s => (nm r ≠ 0 → im s po) ∧ (nm r = 0 → po (-3) s))) ∧ (nm r = 0 → po (-2) s))) := by
  have hr := h.1
  have hn := hr.1
  have rd : ∀ {wc : (Int → St → Prop) → Prop} {wm : St → (Int → St → Prop) → Prop}, LockB k k n ls wc C wm → LockB k k' n ls wc C wm := by
    rintro wc wm ⟨r, C', h1, h2, h3⟩
    refine ⟨r, C', h1, h2, fun M hM => ?_⟩
    obtain ⟨M', g1, g2, g3⟩ := h3 M hM
    exact ⟨M', g1, g2, g3.mono hk⟩
  rcases proc_or x n with ⟨p, hp, rfl⟩ | hp
  · have i1 : (0 : Int) ≤ p ∧ (p : Int) < n := by omega
    have eT : ((p : Int)).toNat = p := by omega
    by_cases hf : gI C 13 p 0 ≠ 0 ∧ gI C 15 p 0 = 0
    · have hnl : p ∉ ls := fun z => ((h.2.1.2.2.2.2 p).mp z).2 hf.2
      obtain ⟨r, C1, h1, h2, h3⟩ := main p hp rfl hf.1 hf.2 hnl
      refine ⟨r, uI C1 14 p 0 r, fun po hpo => ?_, h2.uI _ _ _ _ (by decide), fun M hM => ?_⟩
      · show wp_X7_processAt _ _ _
        rw [sp_processAt hx hr.1 hr.2.2.2, if_pos i1]
        refine ⟨fun z => (by cases z), ?_⟩
        rintro _ ⟨rfl⟩
        rw [eT]
        refine sp_isFree ⟨fun z => ?_, fun _ => h1 _ ?_⟩
        · rw [nm_bI, bI_0] at z; exact absurd hf z
        · rintro _ rfl; exact hpo
      · obtain ⟨M', g1, g2, g3⟩ := h3 M hM
        have hm := hM.1
        have hq := hM.2.2.2.2.2.1 p hp
        refine ⟨M', fun po hpo => ?_, g2, g3⟩
        show wp_X8_isProcess _ _ _
        rw [sp_isProcess hx hm.1 hm.2.2.1]
        refine ⟨fun _ => sp_isFreeM (by omega) ⟨fun _ => g1 po hpo, fun z => ?_⟩, fun z => ?_⟩
        · rw [nm_bI, bI_0, ← hq.2.2.2.1 (by simp), ← hq.2.2.2.2.2.1] at z; exact absurd hf z
        · rw [nm_bI, bI_0] at z; exact absurd i1 z
    · refine rd (LockB.read (-3) (fun po hpo => ?_) (fun M hM po hpo => ?_))
      · show wp_X7_processAt _ _ _
        rw [sp_processAt hx hr.1 hr.2.2.2, if_pos i1]
        refine ⟨fun z => (by cases z), ?_⟩
        rintro _ ⟨rfl⟩
        rw [eT]
        refine sp_isFree ⟨fun _ => hpo, fun z => ?_⟩
        rw [nm_bI] at z; exact absurd ((bI_0 _).mpr hf) z
      · have hm := hM.1
        have hq := hM.2.2.2.2.2.1 p hp
        show wp_X8_isProcess _ _ _
        rw [sp_isProcess hx hm.1 hm.2.2.1]
        refine ⟨fun _ => sp_isFreeM (by omega) ⟨fun z => ?_, fun _ => hpo⟩, fun z => ?_⟩
        · rw [nm_bI, ← hq.2.2.2.1 (by simp), ← hq.2.2.2.2.2.1] at z; exact absurd ((bI_0 _).mpr hf) z
        · rw [nm_bI, bI_0] at z; exact absurd i1 z
  · refine rd (LockB.read (-2) (fun po hpo => ?_) (fun M hM po hpo => ?_))
    · show wp_X7_processAt _ _ _
      rw [sp_processAt hx hr.1 hr.2.2.2, if_neg hp]
      exact ⟨fun _ => hpo, fun a z => (by cases z)⟩
    · have hm := hM.1
      show wp_X8_isProcess _ _ _
      rw [sp_isProcess hx hm.1 hm.2.2.1]
      refine ⟨fun z => ?_, fun _ => hpo⟩
      rw [nm_bI] at z; exact absurd ((bI_0 _).mpr hp) z
