/-! LAYER 2: locks where the class makes things anew; one begins to wait -/
def LockW (k k' n : Nat) (ls : List Nat) (wc : (Int → St → Prop) → Prop) (C : St) (wm : St → (Int → St → Prop) → Prop) : Prop :=
  ∀ po : Int → St → Prop, (∀ r C', MEq C C' → (∀ M, SimB k n ls none none C M → ∃ M', (∀ po, po r M' → wm M po) ∧ CEq M M' ∧ Sim k' C' M') → po r C') → wc po
theorem LockB.toW {k k' n : Nat} {ls : List Nat} {wc : (Int → St → Prop) → Prop} {C : St} {wm : St → (Int → St → Prop) → Prop} (h : LockB k k' n ls wc C wm) : LockW k k' n ls wc C wm := by
  obtain ⟨r, C', h1, h2, h3⟩ := h
  exact fun po hpo => h1 po (hpo r C' h2 h3)
theorem LockW.mono {k k' k2 n : Nat} {ls : List Nat} {wc : (Int → St → Prop) → Prop} {C : St} {wm : St → (Int → St → Prop) → Prop} (h : LockW k k' n ls wc C wm) (hk : k' ≤ k2) : LockW k k2 n ls wc C wm := by
  refine fun po hpo => h po (fun r C' h1 h2 => hpo r C' h1 (fun M hM => ?_))
  obtain ⟨M', a1, a2, a3⟩ := h2 M hM
  exact ⟨M', a1, a2, a3.mono hk⟩
def MainW (k k' n : Nat) (ls : List Nat) (p : Nat) (C : St) (ic : (Int → St → Prop) → Prop) (im : St → (Int → St → Prop) → Prop) : Prop :=
  ∀ po : Int → St → Prop, (∀ r C1, MEq C C1 → (∀ M, SimB k n ls none none C M → ∃ M', (∀ po, po r M' → im M po) ∧ CEq M M' ∧ Sim k' (uI C1 14 p 0 r) M') → po r C1) → ic po
theorem MainL.toW {k k' n : Nat} {ls : List Nat} {p : Nat} {C : St} {ic : (Int → St → Prop) → Prop} {im : St → (Int → St → Prop) → Prop} (h : MainL k k' n ls p C ic im) : MainW k k' n ls p C ic im := by
  obtain ⟨r, C', h1, h2, h3⟩ := h
  exact fun po hpo => h1 po (hpo r C' h2 h3)
theorem MainL.mono {k k' k2 n : Nat} {ls : List Nat} {p : Nat} {C : St} {ic : (Int → St → Prop) → Prop} {im : St → (Int → St → Prop) → Prop} (h : MainL k k' n ls p C ic im) (hk : k' ≤ k2) : MainL k k2 n ls p C ic im := by
  obtain ⟨r, C', h1, h2, h3⟩ := h
  refine ⟨r, C', h1, h2, fun M hM => ?_⟩
  obtain ⟨M', a1, a2, a3⟩ := h3 M hM
  exact ⟨M', a1, a2, a3.mono hk⟩
theorem MainW.refuse {k k' n : Nat} {ls : List Nat} {p : Nat} {C : St} {ic : (Int → St → Prop) → Prop} {im : St → (Int → St → Prop) → Prop} (hk : k ≤ k') (r : Int) (h1 : ∀ po, po r C → ic po) (h2 : ∀ M, SimB k n ls none none C M → ∀ po, po r (uI M 110 4 p r) → im M po) (hpn : p < n := by assumption) : MainW k k' n ls p C ic im :=
  ((MainL.refuse r h1 h2).mono hk).toW
theorem caller_lockW {k k' n : Nat} {ls : List Nat} {C M0 : St} {x : Int} {ic : Nat → St → (Int → St → Prop) → Prop} {im : St → (Int → St → Prop) → Prop} (hk : k ≤ k') (hx : nm x = x) (h : SimB k n ls none none C M0)
    (main : ∀ p : Nat, p < n → x = p → gI C 13 p 0 ≠ 0 → gI C 15 p 0 = 0 → p ∉ ls → MainW k k' n ls p C (ic p C) im) :
    LockW k k' n ls (fun po => wp_X7_processAt x C (fun o s => (o = none → po (-2) s) ∧ (∀ a, o = some a → wp_X2_isFree a s (fun r s => (nm r = 0 → po (-3) s) ∧ (nm r ≠ 0 → ic a s (fun r s => wp_X2_told a r s (fun r s => po r s))))))) C
      (fun M po => wp_X8_isProcess x M (fun r s => (nm r ≠ 0 → wp_X8_isFree x s (fun r s => (nm r ≠ 0 → im s po) ∧ (nm r = 0 → po (-3) s))) ∧ (nm r = 0 → po (-2) s))) := by
  have hr := h.1
  have hn := hr.1
  rcases proc_or x n with ⟨p, hp, rfl⟩ | hp
  · have i1 : (0 : Int) ≤ p ∧ (p : Int) < n := by omega
    have eT : ((p : Int)).toNat = p := by omega
    by_cases hf : gI C 13 p 0 ≠ 0 ∧ gI C 15 p 0 = 0
    · have hnl : p ∉ ls := fun z => ((h.2.1.2.2.2.2 p).mp z).2 hf.2
      intro po hpo
      show wp_X7_processAt _ _ _
      rw [sp_processAt hx hr.1 hr.2.2.2, if_pos i1]
      refine ⟨fun z => (by cases z), ?_⟩
      rintro _ ⟨rfl⟩
      rw [eT]
      refine sp_isFree ⟨fun z => ?_, fun _ => main p hp rfl hf.1 hf.2 hnl _ (fun r C1 h2 h3 => ?_)⟩
      · rw [nm_bI, bI_0] at z; exact absurd hf z
      · rintro _ rfl
        refine hpo r _ (h2.uI _ _ _ _ (by decide)) (fun M hM => ?_)
        obtain ⟨M', g1, g2, g3⟩ := h3 M hM
        have hm := hM.1
        have hq := hM.2.2.2.2.2.1 p hp
        refine ⟨M', fun po hpo => ?_, g2, g3⟩
        show wp_X8_isProcess _ _ _
        rw [sp_isProcess hx hm.1 hm.2.2.1]
        refine ⟨fun _ => sp_isFreeM (by omega) ⟨fun _ => g1 po hpo, fun z => ?_⟩, fun z => ?_⟩
        · rw [nm_bI, bI_0, ← hq.2.2.2.1 (by simp), ← hq.2.2.2.2.2.1] at z; exact absurd hf z
        · rw [nm_bI, bI_0] at z; exact absurd i1 z
    · refine (LockB.toW (LockB.read (-3) (fun po hpo => ?_) (fun M hM po hpo => ?_))).mono hk
      · show wp_X7_processAt _ _ _
        rw [sp_processAt hx hr.1 hr.2.2.2, if_pos i1]
        refine ⟨fun z => (by cases z), ?_⟩
        rintro _ ⟨rfl⟩
        rw [eT]
        refine sp_isFree ⟨fun _ => hpo, fun z => ?_⟩
        rw [nm_bI] at z; exact absurd ((bI_0 _).mpr hf) z
      · have hm := hM.1
        have hq := hM.2.2.2.2.2.1 p hp
        show wp_X8_isProcess _ _ _
        rw [sp_isProcess hx hm.1 hm.2.2.1]
        refine ⟨fun _ => sp_isFreeM (by omega) ⟨fun z => ?_, fun _ => hpo⟩, fun z => ?_⟩
        · rw [nm_bI, ← hq.2.2.2.1 (by simp), ← hq.2.2.2.2.2.1] at z; exact absurd ((bI_0 _).mpr hf) z
        · rw [nm_bI, bI_0] at z; exact absurd i1 z
  · refine (LockB.toW (LockB.read (-2) (fun po hpo => ?_) (fun M hM po hpo => ?_))).mono hk
    · show wp_X7_processAt _ _ _
      rw [sp_processAt hx hr.1 hr.2.2.2, if_neg hp]
      exact ⟨fun _ => hpo, fun a z => (by cases z)⟩
    · have hm := hM.1
      show wp_X8_isProcess _ _ _
      rw [sp_isProcess hx hm.1 hm.2.2.1]
      refine ⟨fun z => ?_, fun _ => hpo⟩
      rw [nm_bI] at z; exact absurd ((bI_0 _).mpr hp) z
theorem nodup_lt : ∀ (n : Nat) (ls : List Nat), ls.Nodup → (∀ x ∈ ls, x < n) → ls.length ≤ n := by
  intro n
  induction n with
  | zero =>
    intro ls _ h
    cases ls with
    | nil => exact Nat.le_refl _
    | cons a t => exact absurd (h a (by simp)) (by omega)
  | succ n ih =>
    intro ls hd h
    by_cases hn : n ∈ ls
    · have h1 := ih (ls.erase n) (hd.erase n) (fun x hx => by
        have h2 := (List.Nodup.mem_erase_iff hd).mp hx
        have := h x h2.2
        have := h2.1
        omega)
      have := List.length_erase_of_mem hn
      omega
    · have := ih ls hd (fun x hx => by
        have := h x hx
        have : x ≠ n := fun z => hn (z ▸ hx)
        omega)
      omega
theorem line_room {k n : Nat} {ls : List Nat} {e e2 : Option Nat} {C M : St} {p : Nat} (h : SimB k n ls e e2 C M) (hp : p < n) (hnl : p ∉ ls) : ls.length < 16 := by
  have h1 := nodup_lt n (p :: ls) (List.nodup_cons.mpr ⟨hnl, h.2.1.2.2.2.1⟩) (fun x hx => by
    rcases List.mem_cons.mp hx with rfl | z
    · exact hp
    · exact ((h.2.1.2.2.2.2 x).mp z).1)
  have := h.1.1
  simp at h1
  omega
def bgC (C : St) (p len : Nat) (kd : Int) (o : Option Nat) : St := uI (uR (uR (uI C 15 p 0 kd) 10 p 0 o) 4 0 len (some p)) 2 0 0 ((len : Int) + 1)
def bgM (M : St) (p : Nat) (kd sl : Int) : St := uI (uI (uI (uI M 110 7 p kd) 110 9 p sl) 101 0 0 (gI M 101 0 0 + 1)) 110 8 p (gI M 101 0 0 + 1)
theorem gI_bgC (C : St) (p len : Nat) (kd : Int) (o : Option Nat) (f a b : Nat) : gI (bgC C p len kd o) f a b = if f = 2 ∧ a = 0 ∧ b = 0 then nm ((len : Int) + 1) else if f = 15 ∧ a = p ∧ b = 0 then nm kd else gI C f a b := by
  unfold bgC
  rw [gI_uI, gI_uR, gI_uR, gI_uI]
theorem gL_bgC (C : St) (p len : Nat) (kd : Int) (o : Option Nat) (f a b : Nat) : gL (bgC C p len kd o) f a b = gL C f a b := rfl
theorem gR_bgC (C : St) (p len : Nat) (kd : Int) (o : Option Nat) (f a b : Nat) : gR (bgC C p len kd o) f a b = if f = 4 ∧ a = 0 ∧ b = len then some p else if f = 10 ∧ a = p ∧ b = 0 then o else gR C f a b := rfl
theorem gI_bgM (M : St) (p : Nat) (kd sl : Int) (f a b : Nat) : gI (bgM M p kd sl) f a b = if f = 110 ∧ a = 8 ∧ b = p then nm (gI M 101 0 0 + 1) else if f = 101 ∧ a = 0 ∧ b = 0 then nm (gI M 101 0 0 + 1) else if f = 110 ∧ a = 9 ∧ b = p then nm sl else if f = 110 ∧ a = 7 ∧ b = p then nm kd else gI M f a b := by
  unfold bgM
  rw [gI_uI, gI_uI, gI_uI, gI_uI]
theorem gL_bgM (M : St) (p : Nat) (kd sl : Int) (f a b : Nat) : gL (bgM M p kd sl) f a b = gL M f a b := rfl
theorem run_begin {n : Nat} {ls : List Nat} {C : St} {p : Nat} {kd : Int} {o : Option Nat} {po : St → Prop} (h : lineOK n ls C) (hl : ls.length < 16) (hpo : po (bgC C p ls.length kd o)) : wp_X7_beginWait (some p) kd o C po := by
  have nl : nm (ls.length : Int) = ls.length := nm_nat (n := 16) hl (by omega)
  have eT : ((ls.length : Int)).toNat = ls.length := by omega
  unfold wp_X7_beginWait
  rw [nm_gI, h.2.1, show nm 16 = 16 by decide]
  refine ⟨fun z => absurd z (by omega), fun _ => ⟨p, rfl, ?_⟩⟩
  rintro _ rfl _ rfl
  have e2 : ∀ X, gI (uR (uI C 15 p 0 kd) 10 p 0 X) 2 0 0 = ls.length := fun X => by rw [gI_uR, gI_uI, if_neg (by omega), h.2.1]
  rw [e2, nl, eT]
  refine ⟨by omega, ?_⟩
  rintro _ rfl _ rfl
  rw [gI_uR, e2]
  exact hpo
theorem run_wait {M : St} {p : Nat} {kd sl : Int} {po : St → Prop} (hp : p < 16) (h0 : 0 ≤ gI M 101 0 0 ∧ gI M 101 0 0 ≤ 65536) (h : po (bgM M p kd sl)) : wp_X8_wait (p : Int) kd sl M po := by
  have eT : ((p : Int)).toNat = p := by omega
  have i16 : (0 : Int) ≤ p ∧ (p : Int) < 16 := by omega
  unfold wp_X8_wait
  rw [nm_nat (n := 16) hp (by omega), eT]
  refine ⟨i16, ?_⟩
  rintro _ rfl
  refine ⟨i16, ?_⟩
  rintro _ rfl _ rfl
  refine ⟨i16, ?_⟩
  rintro _ rfl
  have e : gI (uI (uI M 110 7 p kd) 110 9 p sl) 101 0 0 = gI M 101 0 0 := by rw [gI_uI, if_neg (by omega), gI_uI, if_neg (by omega)]
  rw [e, gI_uI, if_pos ⟨rfl, rfl, rfl⟩, nm_id (by omega)]
  exact h
theorem SimB.begin {k n : Nat} {ls : List Nat} {e e2 : Option Nat} {C M : St} {p : Nat} {kd : Int} {o : Option Nat} {sl : Int} (h : SimB k n ls e e2 C M) (hk : k ≤ 65536) (hp : p < n) (hnl : p ∉ ls) (hkd : nm kd = kd) (hkd0 : kd ≠ 0) (hw : waitOK (bgC C p ls.length kd o) (bgM M p kd sl) p) : SimB (k + 1) n (ls ++ [p]) e e2 (bgC C p ls.length kd o) (bgM M p kd sl) := by
  have hl := line_room h hp hnl
  have hT := h.2.2.1
  have nT : nm (gI M 101 0 0 + 1) = gI M 101 0 0 + 1 := by have := hT.1; have := hT.2.1; exact nm_id (by omega)
  have h' := h.mono (show k ≤ k + 1 by omega)
  have hC : AgC [1, 10, 11, 12, 13, 14, 16, 17, 18, 19, 20, 21, 22, 23, 24, 25, 26, 27, 30, 31, 32, 33, 34, 35, 36, 37, 38, 39, 40, 41, 42, 45, 46, 47, 48] [10, 11, 12] [1, 2, 3, 11] C (bgC C p ls.length kd o) :=
    ((((AgC.rf.uI _ _ _ (by decide)).uR _ _ _ (by decide)).uR _ _ _ (by decide)).uI _ _ _ (by decide))
  have mI : ∀ f, f ≠ 7 → f ≠ 8 → f ≠ 9 → ∀ b, gI (bgM M p kd sl) 110 f b = gI M 110 f b := fun f z1 z2 z3 b => by
    rw [gI_bgM, if_neg (by omega), if_neg (by omega), if_neg (by omega), if_neg (by omega)]
  have m100 : gI (bgM M p kd sl) 100 0 0 = gI M 100 0 0 := by rw [gI_bgM, if_neg (by omega), if_neg (by omega), if_neg (by omega), if_neg (by omega)]
  -- the model's part but for the turn
  have hfr : Frame1 C (bgC C p ls.length kd o) M (bgM M p kd sl) := by
    refine ⟨rfl, fun f hf a b => ?_, fun a b => rfl, fun f hf a b => ?_, fun a ha b => ?_, fun b => rfl, m100⟩
    · rw [gI_bgC, if_neg (by rintro ⟨rfl, -⟩; revert hf; decide), if_neg (by rintro ⟨rfl, -⟩; revert hf; decide)]
    · rw [gR_bgC, if_neg (by rintro ⟨rfl, -⟩; revert hf; decide), if_neg (by rintro ⟨rfl, -⟩; revert hf; decide)]
    · exact mI a (by rintro rfl; revert ha; decide) (by rintro rfl; revert ha; decide) (by rintro rfl; revert ha; decide) b
  obtain ⟨h1, h2, h3, h4, h5, h6, h7, h8, h9, h10, h11, h12⟩ := h'
  obtain ⟨g1, g4, g5, g7, g9, g10, g11⟩ := frame1 hfr ⟨h1, h4, h5, h7, h9, h10, h11⟩
  refine ⟨g1, ?_, ?_, g4, g5, fun q hq => ?_, g7, fun q hq => ?_, g9, g10, g11, fun q h1 h2 => (by
    obtain ⟨f1, f2, f3, f4, f5⟩ := h12 q h1 h2
    refine ⟨by rw [mI 4 (by decide) (by decide) (by decide)]; exact f1, ?_, by rw [mI 16 (by decide) (by decide) (by decide)]; exact f3, f4, fun i hi => by rw [mI 5 (by decide) (by decide) (by decide)]; exact f5 i hi⟩
    rw [gI_bgM, if_neg (by omega), if_neg (by omega), if_neg (by omega), if_neg (by omega)]; exact f2)⟩
  · obtain ⟨a1, a2, a3, a4, a5⟩ := h2
    refine ⟨fun i => ?_, ?_, by simp; omega, ?_, fun q => ?_⟩
    · rw [gR_bgC]
      by_cases z : i = ls.length
      · rw [if_pos ⟨rfl, rfl, z⟩, z]; simp
      · rw [if_neg (by omega), if_neg (by omega), a1, List.getElem?_append]
        by_cases z2 : i < ls.length
        · rw [if_pos z2]
        · rw [if_neg z2, List.getElem?_eq_none (by omega), List.getElem?_eq_none (by simp; omega)]
    · rw [gI_bgC, if_pos ⟨rfl, rfl, rfl⟩, nm_id (by omega)]; simp
    · rw [List.nodup_append]
      refine ⟨a4, by simp, fun x hx y hy => ?_⟩
      rw [List.mem_singleton.mp hy]
      exact fun z => hnl (z ▸ hx)
    · rw [List.mem_append, List.mem_singleton, a5, gI_bgC, if_neg (by omega)]
      by_cases z : q = p
      · subst z; rw [if_pos ⟨rfl, rfl, rfl⟩, hkd]; exact ⟨fun _ => ⟨hp, hkd0⟩, fun _ => Or.inr rfl⟩
      · rw [if_neg (by omega)]; exact ⟨fun y => y.resolve_right z, fun y => Or.inl y⟩
  · have e101 : gI (bgM M p kd sl) 101 0 0 = gI M 101 0 0 + 1 := by rw [gI_bgM, if_neg (by omega), if_pos ⟨rfl, rfl, rfl⟩, nT]
    have e8 : ∀ q, gI (bgM M p kd sl) 110 8 q = if q = p then gI M 101 0 0 + 1 else gI M 110 8 q := fun q => by
      rw [gI_bgM]
      by_cases z : q = p
      · rw [if_pos ⟨rfl, rfl, z⟩, if_pos z, nT]
      · rw [if_neg (by omega), if_neg (by omega), if_neg (by omega), if_neg (by omega), if_neg z]
    have hlt : ∀ q ∈ ls, q ≠ p := fun q hq z => hnl (z ▸ hq)
    refine ⟨by rw [e101]; have := hT.1; omega, by rw [e101]; have := hT.2.1; omega, fun q hq => ?_, ?_⟩
    · rw [e101, e8]
      rcases List.mem_append.mp hq with z | z
      · rw [if_neg (hlt q z)]; have := hT.2.2.1 q z; omega
      · rw [if_pos (List.mem_singleton.mp z)]; have := hT.1; omega
    · rw [List.pairwise_append]
      refine ⟨?_, by simp, fun x hx y hy => ?_⟩
      · refine List.Pairwise.imp_of_mem ?_ hT.2.2.2
        intro a b ha hb hab
        rw [e8, e8, if_neg (hlt a ha), if_neg (hlt b hb)]; exact hab
      · rw [List.mem_singleton.mp hy, e8, e8, if_neg (hlt x hx), if_pos rfl]
        have := hT.2.2.1 x hx
        omega
  · obtain ⟨b1, b2, b3, b4, b5, b6, b7, b8⟩ := h6 q hq
    refine ⟨?_, ?_, ?_, ?_, ?_, ?_, b7, fun j hj => ?_⟩
    · rw [gI_bgC]; simpa using b1
    · rw [gI_bgC, mI 1 (by decide) (by decide) (by decide)]; simpa using b2
    · rw [gI_bgC, mI 2 (by decide) (by decide) (by decide)]; simpa using b3
    · rw [gI_bgC, mI 3 (by decide) (by decide) (by decide)]; simpa using b4
    · rw [gI_bgC, mI 4 (by decide) (by decide) (by decide)]; simpa using b5
    · simp only [gI_bgC, gI_bgM]
      by_cases z : q = p <;> simp [z, b6]
    · rw [gI_bgC, mI 5 (by decide) (by decide) (by decide)]; simpa using b8 j hj
  · by_cases z : q = p
    · rw [z]; exact hw
    · have hh := frame1_hre hfr
      have := h8 q hq
      unfold waitOK sendOK takeOK tryOK stepOK at this ⊢
      simp only [hh]
      simpa [gI_bgC, gI_bgM, gR_bgC, gL_bgC, gL_bgM, z] using this
