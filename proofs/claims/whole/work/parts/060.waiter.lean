/-! LAYER 2: who waits so, and came next -/
def wtP (M : St) (kd sl bh : Int) (q : Nat) : Prop := gI M 110 7 q = kd ∧ (sl < 0 ∨ gI M 110 9 q = sl) ∧ bh < gI M 110 8 q
def wtB (M : St) (kd sl bh : Int) (i : Nat) (b : Int) : Prop := (b = -1 ∧ ∀ q, q < i → ¬ wtP M kd sl bh q) ∨ ∃ q : Nat, q < i ∧ b = q ∧ wtP M kd sl bh q ∧ ∀ q', q' < i → wtP M kd sl bh q' → gI M 110 8 q ≤ gI M 110 8 q'
theorem wtB_no {M : St} {kd sl bh : Int} {i : Nat} {b : Int} (h : wtB M kd sl bh i b) (hn : ¬ wtP M kd sl bh i) : wtB M kd sl bh (i + 1) b := by
  rcases h with ⟨h1, h2⟩ | ⟨q, h1, h2, h3, h4⟩
  · refine Or.inl ⟨h1, fun q hq => ?_⟩
    rcases Nat.lt_or_ge q i with z | z
    · exact h2 q z
    · rw [show q = i by omega]; exact hn
  · refine Or.inr ⟨q, by omega, h2, h3, fun q' hq' hp => ?_⟩
    rcases Nat.lt_or_ge q' i with z | z
    · exact h4 q' z hp
    · rw [show q' = i by omega] at hp; exact absurd hp hn
theorem wtB_new {M : St} {kd sl bh : Int} {i : Nat} {b : Int} (h : wtB M kd sl bh i b) (hp : wtP M kd sl bh i) (hlt : b = -1 ∨ ∃ q : Nat, b = q ∧ gI M 110 8 i < gI M 110 8 q) : wtB M kd sl bh (i + 1) (i : Int) := by
  refine Or.inr ⟨i, by omega, rfl, hp, fun q' hq' hp' => ?_⟩
  rcases Nat.lt_or_ge q' i with z | z
  · rcases h with ⟨h1, h2⟩ | ⟨q, h1, h2, h3, h4⟩
    · exact absurd hp' (h2 q' z)
    · have := h4 q' z hp'
      rcases hlt with e | ⟨r, e, e2⟩
      · omega
      · rw [show r = q by omega] at e2; omega
  · rw [show q' = i by omega]; exact Int.le_refl _
theorem wtB_keep {M : St} {kd sl bh : Int} {i q : Nat} (h : wtB M kd sl bh i (q : Int)) (hge : gI M 110 8 q ≤ gI M 110 8 i) : wtB M kd sl bh (i + 1) (q : Int) := by
  rcases h with ⟨h1, h2⟩ | ⟨r, h1, h2, h3, h4⟩
  · omega
  · have e : r = q := by omega
    subst e
    refine Or.inr ⟨r, by omega, rfl, h3, fun q' hq' hp => ?_⟩
    rcases Nat.lt_or_ge q' i with z | z
    · exact h4 q' z hp
    · rw [show q' = i by omega]; exact hge
theorem waiter_57 {M : St} {X : Int → Int → Int → Int → Int → St → Prop} {po : Int → St → Prop} {kd sl bh b : Int} {i : Nat} {y : Int} (hi : i < 16) (hb : b = -1 ∨ ∃ q : Nat, q < 16 ∧ b = q) (h0 : y = 0 → X kd sl bh b ((i : Int) + 1) M) (h1 : y = 1 → (b = -1 ∨ ∃ q : Nat, b = q ∧ gI M 110 8 i < gI M 110 8 q) → X kd sl bh (i : Int) ((i : Int) + 1) M) (h2 : y = 1 → ∀ q : Nat, b = q → gI M 110 8 q ≤ gI M 110 8 i → X kd sl bh b ((i : Int) + 1) M) (hy : y = 0 ∨ y = 1) : wp_X8_waiter_57 po X kd sl bh b (i : Int) y M := by
  unfold wp_X8_waiter_57
  have ei : ((i : Int)).toNat = i := by omega
  have ni : nm (i : Int) = i := nm_nat (n := 16) hi (by omega)
  have nb : nm b = b := by
    rcases hb with rfl | ⟨q, hq, rfl⟩
    · decide
    · exact nm_nat (n := 16) hq (by omega)
  rw [ni, nb, ei]
  refine ⟨fun z => h0 ?_, fun z => ?_⟩
  · rcases hy with rfl | rfl
    · rfl
    · exact absurd z (by decide)
  · have hy1 : y = 1 := by
      rcases hy with rfl | rfl
      · exact absurd n0 z
      · rfl
    refine ⟨fun z4 => h1 hy1 ?_, fun z4 => ?_⟩
    · rcases hb with h | ⟨q, hq, rfl⟩
      · exact Or.inl h
      · omega
    · obtain ⟨q, hq, rfl⟩ : ∃ q : Nat, q < 16 ∧ b = q := by
        rcases hb with rfl | h
        · omega
        · exact h
      have eq : ((q : Int)).toNat = q := by omega
      rw [eq, nm_gI, nm_gI]
      exact ⟨⟨by omega, by omega⟩, ⟨by omega, by omega⟩, fun z5 => h2 hy1 q rfl z5, fun z5 => h1 hy1 (Or.inr ⟨q, rfl, z5⟩)⟩
theorem sp_waiter_loop {M : St} {n : Nat} {kd sl bh : Int} {po : Int → St → Prop} (hn : gI M 100 0 0 = n) (hn16 : n ≤ 16) (hkd : nm kd = kd) (hsl : nm sl = sl) (hbh : nm bh = bh) (hpo : ∀ b, wtB M kd sl bh n b → po b M) :
    ∀ (m i : Nat) (b : Int), i + m = n → wtB M kd sl bh i b → wp_X8_waiter_6 po (m + 1) kd sl bh b (i : Int) M := by
  intro m
  induction m with
  | zero =>
    intro i b hi hb
    have e : i = n := by omega
    subst e
    unfold wp_X8_waiter_6
    rw [hn, nm_nat (n := 17) (by omega) (by omega)]
    exact ⟨fun _ => hpo b hb, fun z => absurd z (by omega)⟩
  | succ m ih =>
    intro i b hi hb
    have ei : ((i : Int)).toNat = i := by omega
    have hb2 : b = -1 ∨ ∃ q : Nat, q < 16 ∧ b = q := by
      rcases hb with ⟨h1, -⟩ | ⟨q, h1, h2, -⟩
      · exact Or.inl h1
      · exact Or.inr ⟨q, by omega, h2⟩
    have c0 : ¬ wtP M kd sl bh i → wp_X8_waiter_57 po (fun x1 x2 x3 x4 x5 s9 => wp_X8_waiter_6 po (m + 1) x1 x2 x3 x4 x5 s9) kd sl bh b (i : Int) 0 M := by
      intro hno
      exact waiter_57 (by omega) hb2 (fun _ => ih (i + 1) b (by omega) (wtB_no hb hno)) (fun z => absurd z (by decide)) (fun z => absurd z (by decide)) (Or.inl rfl)
    have c1 : wtP M kd sl bh i → wp_X8_waiter_57 po (fun x1 x2 x3 x4 x5 s9 => wp_X8_waiter_6 po (m + 1) x1 x2 x3 x4 x5 s9) kd sl bh b (i : Int) 1 M := by
      intro hyes
      refine waiter_57 (by omega) hb2 (fun z => absurd z (by decide)) (fun _ z => ih (i + 1) (i : Int) (by omega) (wtB_new hb hyes z)) (fun _ q e z => ?_) (Or.inr rfl)
      subst e
      exact ih (i + 1) (q : Int) (by omega) (wtB_keep hb z)
    unfold wp_X8_waiter_6
    rw [hn, nm_nat (n := 17) (by omega) (by omega), nm_nat (n := 17) (by omega) (by omega), ei, hkd, hsl, hbh, nm_gI, nm_gI, nm_gI]
    have i16 : (0 : Int) ≤ i ∧ (i : Int) < 16 := by omega
    refine ⟨fun z => absurd z (by omega), fun _ => ⟨i16, fun z => c0 (fun w => z w.1), fun h7 => ⟨fun hs => ⟨i16, fun z => c0 (fun w => by have := w.2.2; omega), fun z => c1 ⟨h7, Or.inl hs, z⟩⟩, fun hs => ⟨i16, fun z => c0 (fun w => ?_), fun h9 => ⟨i16, fun z => c0 (fun w => by have := w.2.2; omega), fun z => c1 ⟨h7, Or.inr h9, z⟩⟩⟩⟩⟩⟩
    rcases w.2.1 with w1 | w1
    · omega
    · exact z w1
theorem sp_waiter {M : St} {n : Nat} {kd sl bh : Int} {po : Int → St → Prop} (hn : gI M 100 0 0 = n) (hn16 : n ≤ 16) (hkd : nm kd = kd) (hsl : nm sl = sl) (hbh : nm bh = bh) (hpo : ∀ b, wtB M kd sl bh n b → po b M) : wp_X8_waiter kd sl bh M po :=
  ⟨n + 1, sp_waiter_loop hn hn16 hkd hsl hbh hpo n 0 (-1) (by omega) (Or.inl ⟨rfl, fun q hq => absurd hq (by omega)⟩)⟩
/-- the first in the line that waits so -/
theorem sp_waiter_first {k n : Nat} {l1 l2 : List Nat} {q : Nat} {e e2 : Option Nat} {C M : St} {kd sl bh : Int} {po : Int → St → Prop} (h : SimB k n (l1 ++ q :: l2) e e2 C M) (hkd : nm kd = kd) (hsl : nm sl = sl) (hbh : nm bh = bh) (hk0 : kd ≠ 0) (hq : wtP M kd sl bh q) (hl : ∀ p ∈ l1, ¬ wtP M kd sl bh p) (hpo : po (q : Int) M) : wp_X8_waiter kd sl bh M po := by
  have hin : ∀ p, p < n → wtP M kd sl bh p → p ∈ l1 ++ q :: l2 := fun p hp hw => (h.2.1.2.2.2.2 p).mpr ⟨hp, by rw [(h.2.2.2.2.2.1 p hp).2.2.2.2.2.1, hw.1]; exact hk0⟩
  have hqn : q < n := ((h.2.1.2.2.2.2 q).mp (by simp)).1
  refine sp_waiter h.1.2.2.1 h.1.1 hkd hsl hbh (fun b hb => ?_)
  rcases hb with ⟨-, h2⟩ | ⟨r, h1, rfl, h3, h4⟩
  · exact absurd hq (h2 q hqn)
  · have hr := hin r h1 h3
    rcases List.mem_append.mp hr with z | z
    · exact absurd h3 (hl r z)
    · rcases List.mem_cons.mp z with z | z
      · rw [z]; exact hpo
      · have hs := h.2.2.1.2.2.2
        have hlt := (List.pairwise_cons.mp (List.pairwise_append.mp hs).2.1).1 r z
        have := h4 q hqn hq
        omega
theorem sp_waiter_none {k n : Nat} {ls : List Nat} {e e2 : Option Nat} {C M : St} {kd sl bh : Int} {po : Int → St → Prop} (h : SimB k n ls e e2 C M) (hkd : nm kd = kd) (hsl : nm sl = sl) (hbh : nm bh = bh) (hk0 : kd ≠ 0) (hl : ∀ p ∈ ls, ¬ wtP M kd sl bh p) (hpo : po (-1) M) : wp_X8_waiter kd sl bh M po := by
  refine sp_waiter h.1.2.2.1 h.1.1 hkd hsl hbh (fun b hb => ?_)
  rcases hb with ⟨rfl, -⟩ | ⟨r, h1, rfl, h3, h4⟩
  · exact hpo
  · exact absurd h3 (hl r ((h.2.1.2.2.2.2 r).mpr ⟨h1, by rw [(h.2.2.2.2.2.1 r h1).2.2.2.2.2.1, h3.1]; exact hk0⟩))
