/-! LAYER 2: what is counted -/
noncomputable def cntI (P : Nat → Prop) : Nat → Int
  | 0 => 0
  | i + 1 => cntI P i + @ite Int (P i) (Classical.propDecidable _) 1 0
theorem cntI_yes {P : Nat → Prop} {i : Nat} (h : P i) : cntI P (i + 1) = cntI P i + 1 := by
  show cntI P i + _ = _
  rw [if_pos h]
theorem cntI_no {P : Nat → Prop} {i : Nat} (h : ¬ P i) : cntI P (i + 1) = cntI P i := by
  show cntI P i + _ = _
  rw [if_neg h]; omega
theorem cntI_congr {P Q : Nat → Prop} : ∀ n, (∀ q, q < n → (P q ↔ Q q)) → cntI P n = cntI Q n := by
  intro n
  induction n with
  | zero => intro _; rfl
  | succ n ih =>
    intro h
    have ih := ih (fun q hq => h q (by omega))
    rcases Classical.em (P n) with z | z
    · rw [cntI_yes z, cntI_yes ((h n (by omega)).mp z), ih]
    · rw [cntI_no z, cntI_no (fun y => z ((h n (by omega)).mpr y)), ih]
theorem cntI_more {P : Nat → Prop} {n : Nat} (h : ∀ q, n ≤ q → ¬ P q) : ∀ d, cntI P (n + d) = cntI P n := by
  intro d
  induction d with
  | zero => rfl
  | succ d ih => rw [show n + (d + 1) = n + d + 1 by omega, cntI_no (h _ (by omega)), ih]
theorem cntI_len {P : Nat → Prop} : ∀ n (ls : List Nat), ls.Nodup → (∀ x ∈ ls, x < n ∧ P x) → (∀ x, x < n → P x → x ∈ ls) → (ls.length : Int) = cntI P n := by
  intro n
  induction n with
  | zero =>
    intro ls _ h _
    cases ls with
    | nil => rfl
    | cons a t => exact absurd (h a (by simp)).1 (by omega)
  | succ n ih =>
    intro ls hd h h2
    rcases Classical.em (P n) with z | z
    · have hn : n ∈ ls := h2 n (by omega) z
      have h1 := ih (ls.erase n) (hd.erase n) (fun x hx => by
        have h3 := (List.Nodup.mem_erase_iff hd).mp hx
        have := h x h3.2
        exact ⟨by have := h3.1; omega, this.2⟩) (fun x hx hp => (List.Nodup.mem_erase_iff hd).mpr ⟨by omega, h2 x (by omega) hp⟩)
      have h4 := List.length_erase_of_mem hn
      have h5 : 0 < ls.length := List.length_pos_of_mem hn
      rw [cntI_yes z, ← h1]
      omega
    · rw [cntI_no z]
      refine ih ls hd (fun x hx => ⟨?_, (h x hx).2⟩) (fun x hx => h2 x (by omega))
      have h3 := h x hx
      have : x ≠ n := fun y => z (y ▸ h3.2)
      omega
theorem sp_count51 {M : St} {n : Nat} {po : Int → St → Prop} (hn : gI M 100 0 0 = n) (hn16 : n ≤ 16) (h : po (cntI (fun q => gI M 110 3 q ≠ 0) n) M) : ∀ m i : Nat, i + m = n → wp_X8_count_51 po (m + 1) (cntI (fun q => gI M 110 3 q ≠ 0) i) (i : Int) M := by
  intro m
  induction m with
  | zero =>
    intro i hi
    have e : i = n := by omega
    subst e
    unfold wp_X8_count_51
    rw [nm_gI, hn, nm_nat (n := 17) (by omega) (by omega)]
    exact ⟨fun _ => h, fun z => absurd z (by omega)⟩
  | succ m ih =>
    intro i hi
    have ih := ih (i + 1) (by omega)
    have ei : ((i : Int)).toNat = i := by omega
    unfold wp_X8_count_51
    rw [nm_gI, hn, nm_nat (n := 17) (by omega) (by omega), ei, nm_gI]
    refine ⟨fun z => absurd z (by omega), fun _ => ⟨by omega, fun z => ?_, fun z => ?_⟩⟩
    · rw [cntI_no (by simpa using z)] at ih; rw [Int.add_zero]; exact ih
    · rw [cntI_yes (by simpa using z)] at ih; exact ih
theorem sp_count86 {M : St} {n : Nat} {po : Int → St → Prop} (hn : gI M 100 0 0 = n) (hn16 : n ≤ 16) (h : po (cntI (fun q => gI M 110 7 q ≠ 0) n) M) : ∀ m i : Nat, i + m = n → wp_X8_count_86 po (m + 1) (cntI (fun q => gI M 110 7 q ≠ 0) i) (i : Int) M := by
  intro m
  induction m with
  | zero =>
    intro i hi
    have e : i = n := by omega
    subst e
    unfold wp_X8_count_86
    rw [nm_gI, hn, nm_nat (n := 17) (by omega) (by omega)]
    exact ⟨fun _ => h, fun z => absurd z (by omega)⟩
  | succ m ih =>
    intro i hi
    have ih := ih (i + 1) (by omega)
    have ei : ((i : Int)).toNat = i := by omega
    unfold wp_X8_count_86
    rw [nm_gI, hn, nm_nat (n := 17) (by omega) (by omega), ei, nm_gI]
    refine ⟨fun z => absurd z (by omega), fun _ => ⟨by omega, fun z => ?_, fun z => ?_⟩⟩
    · rw [cntI_no (by simpa using z)] at ih; rw [Int.add_zero]; exact ih
    · rw [cntI_yes (by simpa using z)] at ih; exact ih
theorem sp_count121 {M : St} {po : Int → St → Prop} (h : po (cntI (fun q => gI M 110 24 q ≠ 0) 12) M) : ∀ m i : Nat, i + m = 12 → wp_X8_count_121 po (m + 1) (cntI (fun q => gI M 110 24 q ≠ 0) i) (i : Int) M := by
  intro m
  induction m with
  | zero =>
    intro i hi
    have e : i = 12 := by omega
    subst e
    unfold wp_X8_count_121
    exact ⟨fun _ => h, fun z => absurd z (by decide)⟩
  | succ m ih =>
    intro i hi
    have ih := ih (i + 1) (by omega)
    have ei : ((i : Int)).toNat = i := by omega
    unfold wp_X8_count_121
    rw [nm_nat (n := 17) (by omega) (by omega), show nm 12 = 12 by decide, ei, nm_gI]
    refine ⟨fun z => absurd z (by omega), fun _ => ⟨by omega, fun z => ?_, fun z => ?_⟩⟩
    · rw [cntI_no (by simpa using z)] at ih; rw [Int.add_zero]; exact ih
    · rw [cntI_yes (by simpa using z)] at ih; exact ih
theorem sp_count155 {M : St} {po : Int → St → Prop} (h : po (cntI (fun q => gI M 110 24 (12 + q) ≠ 0) 12) M) : ∀ m i : Nat, i + m = 12 → wp_X8_count_155 po (m + 1) (cntI (fun q => gI M 110 24 (12 + q) ≠ 0) i) ((12 + i : Nat) : Int) M := by
  intro m
  induction m with
  | zero =>
    intro i hi
    have e : i = 12 := by omega
    subst e
    unfold wp_X8_count_155
    exact ⟨fun _ => h, fun z => absurd z (by decide)⟩
  | succ m ih =>
    intro i hi
    have ih := ih (i + 1) (by omega)
    have ei : (((12 + i : Nat) : Int)).toNat = 12 + i := by omega
    have e1 : ((12 + i : Nat) : Int) + 1 = ((12 + (i + 1) : Nat) : Int) := by omega
    unfold wp_X8_count_155
    rw [nm_nat (n := 25) (by omega) (by omega), show nm 24 = 24 by decide, ei, nm_gI, e1]
    refine ⟨fun z => absurd z (by omega), fun _ => ⟨by omega, fun z => ?_, fun z => ?_⟩⟩
    · rw [cntI_no (by simpa using z)] at ih; rw [Int.add_zero]; exact ih
    · rw [cntI_yes (by simpa using z)] at ih; exact ih
theorem sp_living {C : St} {n : Nat} {po : Int → St → Prop} (hn16 : n ≤ 16) (hR : ∀ i, gR C 1 0 i = if i < n then some i else none) (h : po (cntI (fun q => q < n ∧ gI C 13 q 0 ≠ 0) 16) C) : ∀ m i : Nat, i + m = 16 → wp_X7_living_4 po (m + 1) (cntI (fun q => q < n ∧ gI C 13 q 0 ≠ 0) i) (i : Int) C := by
  intro m
  induction m with
  | zero =>
    intro i hi
    have e : i = 16 := by omega
    subst e
    unfold wp_X7_living_4
    exact ⟨fun _ => h, fun z => absurd z (by decide)⟩
  | succ m ih =>
    intro i hi
    have ih := ih (i + 1) (by omega)
    have ei : ((i : Int)).toNat = i := by omega
    unfold wp_X7_living_4
    rw [nm_nat (n := 17) (by omega) (by omega), show nm 16 = 16 by decide, ei, hR]
    refine ⟨fun z => absurd z (by omega), fun _ => ⟨by omega, ?_⟩⟩
    rintro _ rfl
    by_cases hin : i < n
    · rw [if_pos hin]
      refine ⟨fun z => (by cases z), ?_⟩
      rintro _ ⟨rfl⟩
      rw [nm_gI]
      refine ⟨fun z => ?_, fun z => ?_⟩
      · rw [cntI_no (fun y => y.2 z)] at ih; exact ih
      · rw [cntI_yes ⟨hin, z⟩] at ih; exact ih
    · rw [if_neg hin]
      refine ⟨fun _ => ?_, fun a z => (by cases z)⟩
      rw [cntI_no (fun y => hin y.1)] at ih; exact ih
theorem sp_thingsIn {C : St} {k b : Nat} {po : Int → St → Prop} (hk : kb k b) (hr : rootT C) (h : po (cntI (fun q => hre C (b + q)) 12) C) : ∀ m i : Nat, i + m = 12 → wp_X7_thingsIn_4 po (m + 1) k (some 0) (cntI (fun q => hre C (b + q)) i) (i : Int) C := by
  intro m
  induction m with
  | zero =>
    intro i hi
    have e : i = 12 := by omega
    subst e
    unfold wp_X7_thingsIn_4
    exact ⟨fun _ => h, fun z => absurd z (by decide)⟩
  | succ m ih =>
    intro i hi
    have ih := ih (i + 1) (by omega)
    have ni : nm (i : Int) = i := nm_nat (n := 17) (by omega) (by omega)
    unfold wp_X7_thingsIn_4
    rw [ni, show nm 12 = 12 by decide]
    refine ⟨fun z => absurd z (by omega), fun _ => ?_⟩
    rcases Classical.em (hre C (b + i)) with z | z
    · refine sp_thingIn_some hk (by omega) z ⟨fun y => (by cases y), fun a _ => ?_⟩
      rw [cntI_yes (P := fun q => hre C (b + q)) z] at ih; exact ih
    · refine sp_thingIn_none hk ni hr (fun s hs e => by rw [show s = i by omega]; exact z) ⟨fun _ => ?_, fun a y => (by cases y)⟩
      rw [cntI_no (P := fun q => hre C (b + q)) z] at ih; exact ih
def msC (C : St) : Nat → Int
  | 0 => 0
  | i + 1 => msC C i + (if gR C 2 0 i = none then 0 else if gI C 32 i 0 = 0 then 0 else gI C 40 i 0)
def msM (M : St) : Nat → Int
  | 0 => 0
  | i + 1 => msM M i + (if gI M 110 24 i = 0 then 0 else gI M 110 34 i)
theorem ms_CM {k n : Nat} {ls : List Nat} {e e2 : Option Nat} {C M : St} (h : SimB k n ls e e2 C M) : ∀ i, i ≤ 12 → msC C i = msM M i := by
  intro i
  induction i with
  | zero => intro _; rfl
  | succ i ih =>
    intro hi
    unfold msC msM
    rw [ih (by omega)]
    congr 1
    obtain ⟨a1, a2, a3, a4, a5, a6, a7⟩ := h.thing i (by omega)
    rw [rt_lo C (by omega)] at a1 a4 a6
    by_cases h1 : gR C 2 0 i = none
    · rw [if_pos h1, if_pos (a4 h1).1]
    · have h2 := a1.resolve_left h1
      rw [if_neg h1]
      by_cases h3 : gI C 32 i 0 = 0
      · rw [if_pos h3, if_pos (a6 h2 h3).1]
      · have hh : hre C i := ⟨by rw [rt_lo C (by omega)]; exact h2, h3⟩
        have h4 := h.is_of (by omega) hh
        rw [if_neg h3, if_neg (by omega)]
        exact (h.2.2.2.2.2.2.2.2.2.1 i (by omega) hh).1
theorem sp_allMessages {C : St} {po : Int → St → Prop} (hr : rootT C) (h : po (msC C 12) C) : ∀ m i : Nat, i + m = 12 → wp_X7_allMessages_4 po (m + 1) (msC C i) (i : Int) C := by
  intro m
  induction m with
  | zero =>
    intro i hi
    have e : i = 12 := by omega
    subst e
    unfold wp_X7_allMessages_4
    exact ⟨fun _ => h, fun z => absurd z (by decide)⟩
  | succ m ih =>
    intro i hi
    have ih := ih (i + 1) (by omega)
    have ei : ((i : Int)).toNat = i := by omega
    have hi' := hr i (by omega)
    rw [rt_lo C (by omega)] at hi'
    unfold wp_X7_allMessages_4
    rw [nm_nat (n := 17) (by omega) (by omega), show nm 12 = 12 by decide, ei]
    refine ⟨fun z => absurd z (by omega), fun _ => ⟨by omega, ?_⟩⟩
    rintro _ rfl
    unfold msC at ih
    rcases hi' with z | z
    · rw [if_pos z, Int.add_zero] at ih
      exact ⟨fun _ => ih, fun a y => by rw [z] at y; cases y⟩
    · rw [if_neg (by rw [z]; simp)] at ih
      rw [z]
      refine ⟨fun y => (by cases y), ?_⟩
      rintro _ ⟨rfl⟩
      rw [nm_gI]
      refine ⟨by omega, fun y => ?_, fun y => ?_⟩
      · rw [if_pos y, Int.add_zero] at ih; exact ih
      · rw [if_neg y] at ih; exact ih
theorem sp_count193 {M : St} {po : Int → St → Prop} (h : po (msM M 12) M) : ∀ m i : Nat, i + m = 12 → wp_X8_count_193 po (m + 1) (msM M i) (i : Int) M := by
  intro m
  induction m with
  | zero =>
    intro i hi
    have e : i = 12 := by omega
    subst e
    unfold wp_X8_count_193
    exact ⟨fun _ => h, fun z => absurd z (by decide)⟩
  | succ m ih =>
    intro i hi
    have ih := ih (i + 1) (by omega)
    have ei : ((i : Int)).toNat = i := by omega
    unfold wp_X8_count_193
    rw [nm_nat (n := 17) (by omega) (by omega), show nm 12 = 12 by decide, ei, nm_gI]
    unfold msM at ih
    refine ⟨fun z => absurd z (by omega), fun _ => ⟨by omega, fun z => ?_, fun z => ⟨by omega, ?_⟩⟩⟩
    · rw [if_pos z] at ih; exact ih
    · rw [if_neg z] at ih; exact ih
theorem op_count {k n : Nat} {ls : List Nat} {C M0 : St} {x : Int} (hx : nm x = x) (h : SimB k n ls none none C M0) : LockB k k n ls (wp_X7_count x C) C (fun M => wp_X8_count x M) := by
  have cls : ∀ (y : Int) (po : Int → St → Prop), (x = 0 → po (gI C 1 0 0) C) → (x = 1 → po (cntI (fun q => q < n ∧ gI C 13 q 0 ≠ 0) 16) C) → (x = 2 → po (gI C 2 0 0) C) → (x = 3 → po (cntI (fun q => hre C (0 + q)) 12) C) → (x = 4 → po (cntI (fun q => hre C (12 + q)) 12) C) → (x = 5 → po (sumC C 12) C) → (x = 6 → po (msC C 12) C) → ((x < 0 ∨ 6 < x) → po (-4) C) → wp_X7_count x C po := by
    intro y po h0 h1 h2 h3 h4 h5 h6 h7
    unfold wp_X7_count
    rw [hx]
    exact ⟨h0, fun z => ⟨17, sp_living h.1.1 h.1.2.2.2 (h1 z) 16 0 rfl⟩, h2, fun z => ⟨13, sp_thingsIn (Or.inl ⟨rfl, rfl⟩) h.rootT (h3 z) 12 0 rfl⟩, fun z => ⟨13, sp_thingsIn (Or.inr ⟨rfl, rfl⟩) h.rootT (h4 z) 12 0 rfl⟩, fun z => sp_allBytes h.rootT (h5 z), fun z => ⟨13, sp_allMessages h.rootT (h6 z) 12 0 rfl⟩, h7⟩
  have mod : ∀ M, SimB k n ls none none C M → ∀ po : Int → St → Prop, (x = 0 → po (gI M 100 0 0) M) → (x = 1 → po (cntI (fun q => gI M 110 3 q ≠ 0) n) M) → (x = 2 → po (cntI (fun q => gI M 110 7 q ≠ 0) n) M) → (x = 3 → po (cntI (fun q => gI M 110 24 q ≠ 0) 12) M) → (x = 4 → po (cntI (fun q => gI M 110 24 (12 + q) ≠ 0) 12) M) → (x = 5 → po (sumM M 12) M) → (x = 6 → po (msM M 12) M) → ((x < 0 ∨ 6 < x) → po (-4) M) → wp_X8_count x M po := by
    intro M hM po h0 h1 h2 h3 h4 h5 h6 h7
    unfold wp_X8_count
    rw [hx]
    exact ⟨h0, fun z => ⟨n + 1, sp_count51 hM.1.2.2.1 hM.1.1 (h1 z) n 0 (by omega)⟩, fun z => ⟨n + 1, sp_count86 hM.1.2.2.1 hM.1.1 (h2 z) n 0 (by omega)⟩, fun z => ⟨13, sp_count121 (h3 z) 12 0 rfl⟩, fun z => ⟨13, sp_count155 (h4 z) 12 0 rfl⟩, fun z => sp_allBytesM (h5 z), fun z => ⟨13, sp_count193 (h6 z) 12 0 rfl⟩, h7⟩
  have e0 : ∀ M, SimB k n ls none none C M → gI C 1 0 0 = gI M 100 0 0 := fun M hM => by rw [hM.1.2.1, hM.1.2.2.1]
  have e1 : ∀ M, SimB k n ls none none C M → cntI (fun q => q < n ∧ gI C 13 q 0 ≠ 0) 16 = cntI (fun q => gI M 110 3 q ≠ 0) n := fun M hM => by
    have := cntI_more (P := fun q => q < n ∧ gI C 13 q 0 ≠ 0) (n := n) (fun q hq y => by omega) (16 - n)
    rw [show n + (16 - n) = 16 by have := hM.1.1; omega] at this
    rw [this]
    exact cntI_congr n (fun q hq => by rw [(hM.2.2.2.2.2.1 q hq).2.2.2.1 (by simp)]; exact ⟨fun y => y.2, fun y => ⟨hq, y⟩⟩)
  have e2 : ∀ M, SimB k n ls none none C M → gI C 2 0 0 = cntI (fun q => gI M 110 7 q ≠ 0) n := fun M hM => by
    rw [hM.2.1.2.1]
    refine cntI_len n ls hM.2.1.2.2.2.1 (fun q hq => ?_) (fun q hq hp => ?_)
    · have := (hM.2.1.2.2.2.2 q).mp hq
      exact ⟨this.1, by rw [← (hM.2.2.2.2.2.1 q this.1).2.2.2.2.2.1]; exact this.2⟩
    · exact (hM.2.1.2.2.2.2 q).mpr ⟨hq, by rw [(hM.2.2.2.2.2.1 q hq).2.2.2.2.2.1]; exact hp⟩
  have e34 : ∀ M, SimB k n ls none none C M → ∀ t, t < 24 → (hre C t ↔ gI M 110 24 t ≠ 0) := fun M hM t ht => ⟨fun z => by rw [hM.is_of ht z]; decide, fun z => hM.hre_of ht z⟩
  have e3 : ∀ M, SimB k n ls none none C M → cntI (fun q => hre C (0 + q)) 12 = cntI (fun q => gI M 110 24 q ≠ 0) 12 := fun M hM => cntI_congr 12 (fun q hq => by rw [Nat.zero_add]; exact e34 M hM q (by omega))
  have e4 : ∀ M, SimB k n ls none none C M → cntI (fun q => hre C (12 + q)) 12 = cntI (fun q => gI M 110 24 (12 + q) ≠ 0) 12 := fun M hM => cntI_congr 12 (fun q hq => e34 M hM (12 + q) (by omega))
  have cas : x = 0 ∨ x = 1 ∨ x = 2 ∨ x = 3 ∨ x = 4 ∨ x = 5 ∨ x = 6 ∨ (x < 0 ∨ 6 < x) := by omega
  rcases cas with z | z | z | z | z | z | z | z
  · refine LockB.read (gI C 1 0 0) (fun po hpo => cls 0 po (fun _ => hpo) ?_ ?_ ?_ ?_ ?_ ?_ ?_) (fun M hM po hpo => mod M hM po (fun _ => by rw [← e0 M hM]; exact hpo) ?_ ?_ ?_ ?_ ?_ ?_ ?_) <;> (intro y; omega)
  · refine LockB.read (cntI (fun q => q < n ∧ gI C 13 q 0 ≠ 0) 16) (fun po hpo => cls 0 po ?_ (fun _ => hpo) ?_ ?_ ?_ ?_ ?_ ?_) (fun M hM po hpo => mod M hM po ?_ (fun _ => by rw [← e1 M hM]; exact hpo) ?_ ?_ ?_ ?_ ?_ ?_) <;> (intro y; omega)
  · refine LockB.read (gI C 2 0 0) (fun po hpo => cls 0 po ?_ ?_ (fun _ => hpo) ?_ ?_ ?_ ?_ ?_) (fun M hM po hpo => mod M hM po ?_ ?_ (fun _ => by rw [← e2 M hM]; exact hpo) ?_ ?_ ?_ ?_ ?_) <;> (intro y; omega)
  · refine LockB.read (cntI (fun q => hre C (0 + q)) 12) (fun po hpo => cls 0 po ?_ ?_ ?_ (fun _ => hpo) ?_ ?_ ?_ ?_) (fun M hM po hpo => mod M hM po ?_ ?_ ?_ (fun _ => by rw [← e3 M hM]; exact hpo) ?_ ?_ ?_ ?_) <;> (intro y; omega)
  · refine LockB.read (cntI (fun q => hre C (12 + q)) 12) (fun po hpo => cls 0 po ?_ ?_ ?_ ?_ (fun _ => hpo) ?_ ?_ ?_) (fun M hM po hpo => mod M hM po ?_ ?_ ?_ ?_ (fun _ => by rw [← e4 M hM]; exact hpo) ?_ ?_ ?_) <;> (intro y; omega)
  · refine LockB.read (sumC C 12) (fun po hpo => cls 0 po ?_ ?_ ?_ ?_ ?_ (fun _ => hpo) ?_ ?_) (fun M hM po hpo => mod M hM po ?_ ?_ ?_ ?_ ?_ (fun _ => by rw [← sum_CM hM 12 (by omega)]; exact hpo) ?_ ?_) <;> (intro y; omega)
  · refine LockB.read (msC C 12) (fun po hpo => cls 0 po ?_ ?_ ?_ ?_ ?_ ?_ (fun _ => hpo) ?_) (fun M hM po hpo => mod M hM po ?_ ?_ ?_ ?_ ?_ ?_ (fun _ => by rw [← ms_CM hM 12 (by omega)]; exact hpo) ?_) <;> (intro y; omega)
  · refine LockB.read (-4) (fun po hpo => cls 0 po ?_ ?_ ?_ ?_ ?_ ?_ ?_ (fun _ => hpo)) (fun M hM po hpo => mod M hM po ?_ ?_ ?_ ?_ ?_ ?_ ?_ (fun _ => hpo)) <;> (intro y; omega)
