/-! LAYER 2: senders are looked at -/
def cnd (C : St) (p s : Nat) : Prop := gI C 15 p 0 = 1 ∧ gR C 10 p 0 = some s ∧ fitC C s (gI C 17 (2 * p) 0)
theorem cnd_or (C : St) (ls : List Nat) : (∀ p ∈ ls, ∀ s, ¬ cnd C p s) ∨ ∃ l1 p l2 s, ls = l1 ++ p :: l2 ∧ (∀ p ∈ l1, ∀ s, ¬ cnd C p s) ∧ cnd C p s := by
  induction ls with
  | nil => exact Or.inl (fun p hp => by cases hp)
  | cons p t ih =>
    rcases Classical.em (∃ s, cnd C p s) with ⟨s, hs⟩ | hn
    · exact Or.inr ⟨[], p, t, s, rfl, fun p hp => by (cases hp), hs⟩
    · rcases ih with h | ⟨l1, q, l2, s, rfl, h1, h2⟩
      · refine Or.inl (fun q hq s hc => ?_)
        rcases List.mem_cons.mp hq with rfl | hq
        · exact hn ⟨s, hc⟩
        · exact h q hq s hc
      · refine Or.inr ⟨p :: l1, q, l2, s, rfl, fun q' hq s' hc => ?_, h2⟩
        rcases List.mem_cons.mp hq with rfl | hq
        · exact hn ⟨s', hc⟩
        · exact h1 q' hq s' hc
theorem sdr_facts {k n : Nat} {ls : List Nat} {e e2 : Option Nat} {C M : St} {p : Nat} (h : SimB k n ls e e2 C M) (hp : p < n) (h1 : gI C 15 p 0 = 1) : sendOK C M p ∧ ∃ s : Nat, s < 12 ∧ gR C 10 p 0 = some s ∧ gI M 110 9 p = s ∧ hre C s := by
  rcases h.2.2.2.2.2.2.2.1 p hp with ⟨w, -⟩ | ⟨w, w1, w2⟩ | ⟨w, -⟩ | ⟨w, -⟩
  · omega
  · exact ⟨w1, w2⟩
  · omega
  · omega
theorem adm_at {k n : Nat} {ls : List Nat} {e e2 : Option Nat} {C M0 : St} {i p m : Nat} {po : Int → St → Prop} (h : SimB k n ls e e2 C M0) (hi : ls[i]? = some p) (h0 : (∀ s, ¬ cnd C p s) → wp_X7_admitFirstSender_2 po m ((i + 1 : Nat) : Int) C) (h1 : ∀ s, s < 12 → hre C s → cnd C p s → wp_X7_goOn (some p) 0 C (fun s103 => wp_X7_handToTaker (some s) (some (2 * p)) s103 (fun r102 s104 => (nm r102 ≠ 0 → po 1 s104) ∧ (nm r102 = 0 → wp_X3_append s (some (2 * p)) s104 (fun s105 => po 1 s105))))) : wp_X7_admitFirstSender_2 po (m + 1) (i : Int) C := by
  have hil := (List.getElem?_eq_some_iff.mp hi).1
  have h16 := h.2.1.2.2.1
  have hpn := ((h.2.1.2.2.2.2 p).mp (List.mem_of_getElem? hi)).1
  unfold wp_X7_admitFirstSender_2
  rw [nm_nat (n := 17) (by omega) (by omega), show nm 16 = 16 by decide]
  refine ⟨fun z => absurd z (by omega), fun _ => sp_inLine_some h.2.1 hi ⟨fun z => (by cases z), ?_⟩⟩
  rintro _ ⟨rfl⟩
  rw [nm_gI, show nm 1 = 1 by decide, show ((i : Int) + 1) = ((i + 1 : Nat) : Int) by omega]
  refine ⟨fun z => ?_, fun z => h0 (fun s hc => z hc.1)⟩
  obtain ⟨-, s, hs, hr, -, hh⟩ := sdr_facts h hpn z
  rintro _ rfl
  rw [hr]
  refine ⟨fun z => (by cases z), ?_⟩
  rintro _ ⟨rfl⟩
  refine ⟨hs, sp_fits hs h.rootT (fun hf => ⟨fun z => absurd z (by decide), fun _ => h1 s hs hh ⟨z, hr, hf⟩⟩) (fun hf => ⟨fun _ => h0 (fun s' hc => ?_), fun z => absurd n0 z⟩)⟩
  have := hc.2.1
  rw [hr] at this
  cases this
  exact hf hc.2.2
theorem adm_skip {k n : Nat} {ls : List Nat} {e e2 : Option Nat} {C M0 : St} {po : Int → St → Prop} (h : SimB k n ls e e2 C M0) : ∀ (l1 done rest : List Nat), ls = done ++ (l1 ++ rest) → (∀ p ∈ l1, ∀ s, ¬ cnd C p s) → ∀ m, wp_X7_admitFirstSender_2 po m ((done.length + l1.length : Nat) : Int) C → wp_X7_admitFirstSender_2 po (m + l1.length) (done.length : Int) C := by
  intro l1
  induction l1 with
  | nil => intro done rest _ _ m hw; exact hw
  | cons p t ih =>
    intro done rest hl hn m hw
    have hat : ls[done.length]? = some p := by rw [hl]; simp
    have := ih (done ++ [p]) rest (by rw [hl]; simp) (fun q hq => hn q (List.mem_cons_of_mem _ hq)) m (by
      rw [List.length_append, List.length_singleton, show done.length + 1 + t.length = done.length + (p :: t).length by simp; omega]
      exact hw)
    rw [List.length_append, List.length_singleton] at this
    refine adm_at h hat (fun _ => this) (fun s hs hh hc => absurd hc (hn p (by simp) s))
theorem adm_idle {n : Nat} {ls : List Nat} {C : St} {po : Int → St → Prop} (h : lineOK n ls C) (hpo : po 0 C) : ∀ m i : Nat, i + m = 16 → ls.length ≤ i → wp_X7_admitFirstSender_2 po (m + 1) (i : Int) C := by
  intro m
  induction m with
  | zero =>
    intro i hi hl
    have e : i = 16 := by omega
    subst e
    unfold wp_X7_admitFirstSender_2
    exact ⟨fun _ => hpo, fun z => absurd z (by decide)⟩
  | succ m ih =>
    intro i hi hl
    have ih := ih (i + 1) (by omega) (by omega)
    unfold wp_X7_admitFirstSender_2
    rw [nm_nat (n := 17) (by omega) (by omega), show nm 16 = 16 by decide]
    exact ⟨fun z => absurd z (by omega), fun _ => sp_inLine_none h hl (by omega) ⟨fun _ => ih, fun a z => (by cases z)⟩⟩
/-- the model's look, down the line -/
theorem look_skip {k n : Nat} {ls : List Nat} {e e2 : Option Nat} {C M : St} {po : St → Prop} {X2 : Int → St → Prop} (h : SimB k n ls e e2 C M) : ∀ (l1 done rest : List Nat), ls = done ++ (l1 ++ rest) → (∀ p ∈ l1, ∀ s, ¬ cnd C p s) →
    (∀ bh : Int, nm bh = bh → (∀ p ∈ done ++ l1, gI C 15 p 0 = 1 → gI M 110 8 p ≤ bh) → (∀ p ∈ rest, bh < gI M 110 8 p) → ∃ nf, wp_X8_waiter 1 (-1) bh M (fun r s => wp_X8_lookAtSenders_16 po X2 nf 0 r s)) →
    ∀ bh : Int, nm bh = bh → (∀ p ∈ done, gI C 15 p 0 = 1 → gI M 110 8 p ≤ bh) → (∀ p ∈ l1 ++ rest, bh < gI M 110 8 p) → ∃ nf, wp_X8_waiter 1 (-1) bh M (fun r s => wp_X8_lookAtSenders_16 po X2 nf 0 r s) := by
  intro l1
  induction l1 with
  | nil => intro done rest _ _ hfin bh hb h1 h2; exact hfin bh hb (by simpa using h1) h2
  | cons p t ih =>
    intro done rest hl hn hfin bh hb h1 h2
    have hpl : p ∈ ls := by rw [hl]; simp
    have hpn := ((h.2.1.2.2.2.2 p).mp hpl).1
    have ih := ih (done ++ [p]) rest (by rw [hl]; simp) (fun q hq => hn q (List.mem_cons_of_mem _ hq)) (by simpa using hfin)
    by_cases hk : gI C 15 p 0 = 1
    · obtain ⟨hsd, s, hs, hr, h9, hh⟩ := sdr_facts h hpn hk
      have hpw := h.2.2.1.2.2.2
      rw [hl] at hpw
      have hpt := (List.pairwise_cons.mp (List.pairwise_append.mp hpw).2.1).1
      obtain ⟨nf, hnf⟩ := ih (gI M 110 8 p) (nm_gI _ _ _ _) (fun q hq hq1 => by
        rcases List.mem_append.mp hq with z | z
        · have := h1 q z hq1; have := h2 p (by simp); omega
        · rw [List.mem_singleton.mp z]; exact Int.le_refl _) hpt
      have e7 := (h.2.2.2.2.2.1 p hpn).2.2.2.2.2.1
      refine ⟨nf + 1, sp_waiter_first (l1 := done) (l2 := t ++ rest) (q := p) (by rw [hl] at h; exact h) (by decide) (by decide) hb (by decide) ⟨by rw [← e7]; exact hk, Or.inl (by decide), h2 p (by simp)⟩ (fun q hq hw => ?_) ?_⟩
      · have hqn := ((h.2.1.2.2.2.2 q).mp (by rw [hl]; simp [hq])).1
        have := (h.2.2.2.2.2.1 q hqn).2.2.2.2.2.1
        have := h1 q hq (by rw [this]; exact hw.1)
        have := hw.2.2
        omega
      · have ep : ((p : Int)).toNat = p := by omega
        have hn16 := h.1.1
        have np : nm (p : Int) = p := nm_nat (n := 16) (by omega) (by omega)
        have i16 : (0 : Int) ≤ p ∧ (p : Int) < 16 := by omega
        unfold wp_X8_lookAtSenders_16
        rw [np, ep]
        refine ⟨fun z => absurd z (by rw [nm_m1]; omega), fun _ => ⟨fun z => absurd n0 z, fun _ => ⟨i16, i16, ?_⟩⟩⟩
        rw [h9, ← hsd.2.2.1]
        refine sp_fitsM h hs hh (fun hf => absurd ⟨hk, hr, hf⟩ (hn p (by simp) s)) (fun hf => ⟨fun _ => ⟨i16, hnf⟩, fun z => absurd n0 z⟩)
    · exact ih bh hb (fun q hq hq1 => by
        rcases List.mem_append.mp hq with z | z
        · exact h1 q z hq1
        · rw [List.mem_singleton.mp z] at hq1; exact absurd hq1 hk) (fun q hq => h2 q (by simp at hq ⊢; exact Or.inr hq))
