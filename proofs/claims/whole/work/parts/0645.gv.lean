/-! LAYER 2: the model, with one that it will let go on -/
theorem St_ext {x y : St} (h1 : x.1 = y.1) (h2 : x.2.1 = y.2.1) (hI : ∀ f a b, gI x f a b = gI y f a b) (hL : ∀ f a b, gL x f a b = gL y f a b) (hR : ∀ f a b, gR x f a b = gR y f a b) : x = y := by
  refine Prod.ext h1 (Prod.ext h2 (Prod.ext ?_ (Prod.ext ?_ ?_)))
  · funext f a b; exact Int32.toInt_inj.mp (hI f a b)
  · funext f a b; exact Int64.toInt_inj.mp (hL f a b)
  · funext f a b; exact hR f a b
def gv (o : Option Nat) (M : St) : St := match o with | none => M | some p => goM M p 0
def gvo (o : Option Nat) (M : St) : Prop := ∀ p, o = some p → gI M 110 7 p = 1
theorem gI_gv (o : Option Nat) (M : St) {f : Nat} (b : Nat) (hf : f ≠ 7 ∧ f ≠ 4) : gI (gv o M) 110 f b = gI M 110 f b := by
  unfold gv
  split
  · rfl
  · rw [gI_goM, if_neg (by omega), if_neg (by omega)]
theorem gI_gv0 (o : Option Nat) (M : St) {f : Nat} (a b : Nat) (hf : f ≠ 110) : gI (gv o M) f a b = gI M f a b := by
  unfold gv
  split
  · rfl
  · rw [gI_goM, if_neg (by omega), if_neg (by omega)]
theorem gL_gv (o : Option Nat) (M : St) (f a b : Nat) : gL (gv o M) f a b = gL M f a b := by
  unfold gv
  split <;> rfl
theorem gv_go {o : Option Nat} {M : St} {q : Nat} {r : Int} (h : o ≠ some q) : gv o (goM M q r) = goM (gv o M) q r := by
  cases o with
  | none => rfl
  | some p =>
    have hpq : p ≠ q := fun z => h (by rw [z])
    show goM (goM M q r) p 0 = goM (goM M p 0) q r
    refine St_ext rfl rfl (fun f a b => ?_) (fun f a b => rfl) (fun f a b => rfl)
    simp only [gI_goM]
    by_cases h1 : f = 110 ∧ a = 4 ∧ b = p
    · rw [if_pos h1, if_neg (by omega), if_neg (by omega), if_pos h1]
    · rw [if_neg h1]
      by_cases h2 : f = 110 ∧ a = 7 ∧ b = p
      · rw [if_pos h2, if_neg (by omega), if_neg (by omega), if_neg h1, if_pos h2]
      · rw [if_neg h2, if_neg h1, if_neg h2]
theorem gv_dlv {o : Option Nat} {M : St} {q c d m : Nat} {ty : Int} (h : o ≠ some q) (hc : c ≠ 7 ∧ c ≠ 4) : gv o (dlvM M q c d ty m) = dlvM (gv o M) q c d ty m := by
  cases o with
  | none => rfl
  | some p =>
    have hpq : p ≠ q := fun z => h (by rw [z])
    show goM (dlvM M q c d ty m) p 0 = dlvM (goM M p 0) q c d ty m
    unfold dlvM
    refine St_ext rfl rfl (fun f a b => ?_) (fun f a b => rfl) (fun f a b => rfl)
    simp only [gI_goM, gI_givS, gI_uI]
    by_cases h1 : f = 110 ∧ a = 4 ∧ b = p
    · rw [if_pos h1, if_neg (by omega), if_neg (by omega), if_neg (by omega), if_pos h1]
    · rw [if_neg h1]
      by_cases h2 : f = 110 ∧ a = 7 ∧ b = p
      · rw [if_pos h2, if_neg (by omega), if_neg (by omega), if_neg (by omega), if_neg h1, if_pos h2]
      · rw [if_neg h2]
        simp [h1, h2, hc.1, hc.2]
theorem wtP_gv {o : Option Nat} {M : St} (h : gvo o M) (sl bh : Int) (q : Nat) : wtP M 2 sl bh q ↔ wtP (gv o M) 2 sl bh q := by
  unfold wtP
  rw [gI_gv o M (f := 9) q (by decide), gI_gv o M (f := 8) q (by decide)]
  have : gI M 110 7 q = 2 ↔ gI (gv o M) 110 7 q = 2 := by
    cases o with
    | none => exact Iff.rfl
    | some p =>
      show _ ↔ gI (goM M p 0) 110 7 q = 2
      have := h p rfl
      rw [gI_goM, if_neg (by omega)]
      by_cases hq : q = p
      · subst hq; rw [if_pos ⟨rfl, rfl, rfl⟩, this]; decide
      · rw [if_neg (by omega)]
  rw [this]
theorem wtB_gv {o : Option Nat} {M : St} (h : gvo o M) {sl bh b : Int} {i : Nat} (hb : wtB M 2 sl bh i b) : wtB (gv o M) 2 sl bh i b := by
  unfold wtB at hb ⊢
  simp only [← wtP_gv h, gI_gv o M (f := 8) _ (by decide)]
  exact hb
theorem wtB_first {k n : Nat} {l1 l2 : List Nat} {q : Nat} {e e2 : Option Nat} {C M : St} {kd sl bh b : Int} (h : SimB k n (l1 ++ q :: l2) e e2 C M) (hk0 : kd ≠ 0) (hq : wtP M kd sl bh q) (hl : ∀ p ∈ l1, ¬ wtP M kd sl bh p) (hb : wtB M kd sl bh n b) : b = (q : Int) := by
  have hin : ∀ p, p < n → wtP M kd sl bh p → p ∈ l1 ++ q :: l2 := fun p hp hw => (h.2.1.2.2.2.2 p).mpr ⟨hp, by rw [(h.2.2.2.2.2.1 p hp).2.2.2.2.2.1, hw.1]; exact hk0⟩
  have hqn : q < n := ((h.2.1.2.2.2.2 q).mp (by simp)).1
  rcases hb with ⟨-, h2⟩ | ⟨r, h1, rfl, h3, h4⟩
  · exact absurd hq (h2 q hqn)
  · have hr := hin r h1 h3
    rcases List.mem_append.mp hr with z | z
    · exact absurd h3 (hl r z)
    · rcases List.mem_cons.mp z with z | z
      · rw [z]
      · have hs := h.2.2.1.2.2.2
        have hlt := (List.pairwise_cons.mp (List.pairwise_append.mp hs).2.1).1 r z
        have := h4 q hqn hq
        omega
theorem wtB_none {k n : Nat} {ls : List Nat} {e e2 : Option Nat} {C M : St} {kd sl bh b : Int} (h : SimB k n ls e e2 C M) (hk0 : kd ≠ 0) (hl : ∀ p ∈ ls, ¬ wtP M kd sl bh p) (hb : wtB M kd sl bh n b) : b = -1 := by
  rcases hb with ⟨rfl, -⟩ | ⟨r, h1, rfl, h3, h4⟩
  · rfl
  · exact absurd h3 (hl r ((h.2.1.2.2.2.2 r).mpr ⟨h1, by rw [(h.2.2.2.2.2.1 r h1).2.2.2.2.2.1, h3.1]; exact hk0⟩))
theorem sp_waiterV_first {k n : Nat} {l1 l2 : List Nat} {q : Nat} {e e2 o : Option Nat} {C M : St} {sl bh : Int} {po : Int → St → Prop} (h : SimB k n (l1 ++ q :: l2) e e2 C (gv o M)) (ho : gvo o M) (hsl : nm sl = sl) (hbh : nm bh = bh) (hq : wtP (gv o M) 2 sl bh q) (hl : ∀ p ∈ l1, ¬ wtP (gv o M) 2 sl bh p) (hpo : po (q : Int) M) : wp_X8_waiter 2 sl bh M po := by
  refine sp_waiter (n := n) (by rw [← gI_gv0 o M 0 0 (by decide)]; exact h.1.2.2.1) h.1.1 (by decide) hsl hbh (fun b hb => ?_)
  rw [wtB_first h (by decide) hq hl (wtB_gv ho hb)]
  exact hpo
theorem sp_waiterV_none {k n : Nat} {ls : List Nat} {e e2 o : Option Nat} {C M : St} {sl bh : Int} {po : Int → St → Prop} (h : SimB k n ls e e2 C (gv o M)) (ho : gvo o M) (hsl : nm sl = sl) (hbh : nm bh = bh) (hl : ∀ p ∈ ls, ¬ wtP (gv o M) 2 sl bh p) (hpo : po (-1) M) : wp_X8_waiter 2 sl bh M po := by
  refine sp_waiter (n := n) (by rw [← gI_gv0 o M 0 0 (by decide)]; exact h.1.2.2.1) h.1.1 (by decide) hsl hbh (fun b hb => ?_)
  rw [wtB_none h (by decide) hl (wtB_gv ho hb)]
  exact hpo
theorem sumM_gv (o : Option Nat) (M : St) : ∀ i, sumM (gv o M) i = sumM M i := by
  intro i
  induction i with
  | zero => rfl
  | succ i ih => unfold sumM; rw [ih, gI_gv o M i (by decide), gI_gv o M i (by decide)]
theorem sp_fitsV {k n : Nat} {ls : List Nat} {e e2 o : Option Nat} {C M : St} {s : Nat} {x : Int} {po : Int → St → Prop} (h : SimB k n ls e e2 C (gv o M)) (hs : s < 12) (hh : hre C s) (h1 : fitC C s x → po 1 M) (h0 : ¬ fitC C s x → po 0 M) : wp_X8_fits (s : Int) x M po := by
  have es : ((s : Int)).toNat = s := by omega
  obtain ⟨q1, q2, q3, q4, q5, -⟩ := h.2.2.2.2.2.2.2.2.2.1 s hs hh
  have hsum := sum_CM h 12 (by omega)
  unfold fitC at h1 h0
  rw [gI_gv o M s (by decide)] at q1 q4 q5
  rw [sumM_gv] at hsum
  rw [q1, q4, q5, hsum] at h1 h0
  unfold wp_X8_fits
  rw [nm_nat (n := 12) hs (by omega), es, nm_gI, nm_gI, show nm 40 = 40 by decide]
  have i12 : (0 : Int) ≤ s ∧ (s : Int) < 12 := by omega
  refine ⟨i12, i12, fun z => h0 (by omega), fun z => ⟨i12, fun z2 => h0 (by omega), fun z2 => sp_allBytesM ?_⟩⟩
  rw [show nm 1000 = 1000 by decide]
  exact ⟨fun z3 => h0 (by omega), fun z3 => h1 ⟨z, z2, z3⟩⟩
