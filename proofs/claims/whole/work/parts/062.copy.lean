/-! LAYER 2: bytes that are copied -/
def cpI (σ : St) (f a d g c o m : Nat) : St := (σ.1, σ.2.1, fun f' a' b' => if f' = f ∧ a' = a ∧ d ≤ b' ∧ b' < d + m then σ.2.2.1 g c (o + (b' - d)) else σ.2.2.1 f' a' b', σ.2.2.2.1, σ.2.2.2.2)
theorem gI_cpI (σ : St) (f a d g c o m f' a' b' : Nat) : gI (cpI σ f a d g c o m) f' a' b' = if f' = f ∧ a' = a ∧ d ≤ b' ∧ b' < d + m then gI σ g c (o + (b' - d)) else gI σ f' a' b' := by
  unfold gI cpI
  show (if f' = f ∧ a' = a ∧ d ≤ b' ∧ b' < d + m then σ.2.2.1 g c (o + (b' - d)) else σ.2.2.1 f' a' b').toInt = _
  split <;> rfl
theorem gL_cpI (σ : St) (f a d g c o m f' a' b' : Nat) : gL (cpI σ f a d g c o m) f' a' b' = gL σ f' a' b' := rfl
theorem gR_cpI (σ : St) (f a d g c o m f' a' b' : Nat) : gR (cpI σ f a d g c o m) f' a' b' = gR σ f' a' b' := rfl
theorem cpI_0 (σ : St) (f a d g c o : Nat) : cpI σ f a d g c o 0 = σ := by
  unfold cpI
  refine Prod.ext rfl (Prod.ext rfl (Prod.ext ?_ rfl))
  funext f' a' b'
  show (if f' = f ∧ a' = a ∧ d ≤ b' ∧ b' < d + 0 then _ else _) = _
  rw [if_neg (by omega)]
theorem cpI_step {σ : St} {f a d g c o m : Nat} (hne : ¬ (g = f ∧ c = a)) : uI (cpI σ f a d g c o m) f a (d + m) (gI (cpI σ f a d g c o m) g c (o + m)) = cpI σ f a d g c o (m + 1) := by
  rw [gI_cpI, if_neg (by omega)]
  unfold uI cpI
  refine Prod.ext rfl (Prod.ext rfl (Prod.ext ?_ rfl))
  funext f' a' b'
  show (if f' = f ∧ a' = a ∧ b' = d + m then Int32.ofInt (gI σ g c (o + m)) else if f' = f ∧ a' = a ∧ d ≤ b' ∧ b' < d + m then σ.2.2.1 g c (o + (b' - d)) else σ.2.2.1 f' a' b') = if f' = f ∧ a' = a ∧ d ≤ b' ∧ b' < d + (m + 1) then σ.2.2.1 g c (o + (b' - d)) else σ.2.2.1 f' a' b'
  by_cases h1 : f' = f ∧ a' = a ∧ b' = d + m
  · rw [if_pos h1, if_pos (by omega)]
    rw [show o + (b' - d) = o + m by omega]
    exact i32_of _
  · rw [if_neg h1]
    by_cases h2 : f' = f ∧ a' = a ∧ d ≤ b' ∧ b' < d + m
    · rw [if_pos h2, if_pos (by omega)]
    · rw [if_neg h2, if_neg (by omega)]
theorem AgC.cp {LI LL LR : List Nat} {C C1 : St} (h : AgC LI LL LR C C1) {f : Nat} (a d g c o m : Nat) (hf : f ∉ LI) : AgC LI LL LR C (cpI C1 f a d g c o m) := by
  refine ⟨h.1, fun f' hf' a' b' => ?_, h.2.2.1, h.2.2.2⟩
  rw [gI_cpI, if_neg (by rintro ⟨rfl, -⟩; exact hf hf')]; exact h.2.1 f' hf' a' b'
theorem AgM.cp {LI LL : List Nat} {M M1 : St} (h : AgM LI LL M M1) {a : Nat} (d g c o m : Nat) (hf : a ∉ LI) : AgM LI LL M (cpI M1 110 a d g c o m) := by
  refine ⟨fun f' hf' b' => ?_, h.2.1, ?_, ?_⟩
  · rw [gI_cpI, if_neg (by rintro ⟨-, rfl, -⟩; exact hf hf')]; exact h.1 f' hf' b'
  · rw [gI_cpI, if_neg (by rintro ⟨z, -⟩; cases z)]; exact h.2.2.1
  · rw [gI_cpI, if_neg (by rintro ⟨z, -⟩; cases z)]; exact h.2.2.2
theorem MEq.cp {σ τ : St} (h : MEq σ τ) (f a d g c o m : Nat) (hf : f < 100) : MEq σ (cpI τ f a d g c o m) := by
  refine ⟨fun f' a' b' h' => ?_, fun f' a' b' h' => h.2 f' a' b' h'⟩
  rw [gI_cpI, if_neg (by omega)]; exact h.1 f' a' b' h'
theorem CEq.cp {σ τ : St} (h : CEq σ τ) (f a d g c o m : Nat) (hf : 100 ≤ f) : CEq σ (cpI τ f a d g c o m) := by
  refine ⟨h.1, fun f' a' b' h' => ?_, h.2.2.1, h.2.2.2⟩
  rw [gI_cpI, if_neg (by omega)]; exact h.2.1 f' a' b' h'
theorem sp_fill_loop {C : St} {u k a g len m0 : Nat} {po : St → Prop} (hT : aTy k a = 1) (hF : aFd k = g) (hL : aLen k a = len) (hm : m0 ≤ 64) (hm2 : m0 ≤ len) (hlen : len ≤ 65536) (hne : ¬ (g = 18 ∧ a = u)) (h : po (cpI C 18 u 0 g a 0 m0)) :
    ∀ m i : Nat, i + m = m0 → wp_X1_fill_13 po (m + 1) u (m0 : Int) k (some a) (i : Int) (cpI C 18 u 0 g a 0 i) := by
  intro m
  induction m with
  | zero =>
    intro i hi
    have e : i = m0 := by omega
    subst e
    unfold wp_X1_fill_13
    rw [nm_nat (n := 65) (by omega) (by omega)]
    exact ⟨fun _ => h, fun z => absurd z (by omega)⟩
  | succ m ih =>
    intro i hi
    have ei : ((i : Int)).toNat = i := by omega
    have ih := ih (i + 1) (by omega)
    have hs := cpI_step (σ := C) (f := 18) (a := u) (d := 0) (g := g) (c := a) (o := 0) (m := i) hne
    unfold wp_X1_fill_13
    rw [nm_nat (n := 65) (by omega) (by omega), nm_nat (n := 65) (by omega) (by omega), show nm 64 = 64 by decide, ei]
    refine ⟨fun z => absurd z (by omega), fun _ => ⟨fun z => absurd z (by omega), fun _ => ⟨a, rfl, hT, ?_⟩⟩⟩
    rw [hF, hL, show nm (len : Int) = len from nm_id (by omega)]
    refine ⟨fun z => absurd z (by omega), fun _ => ⟨hT, ⟨by omega, by omega⟩, ⟨by omega, by omega⟩, ?_⟩⟩
    rintro _ rfl
    simp only [Nat.zero_add] at hs
    rw [hs]
    exact ih
theorem sp_fill {C : St} {u k a g len m0 : Nat} {ty : Int} {po : St → Prop} (hT : aTy k a = 1) (hF : aFd k = g) (hL : aLen k a = len) (hm : m0 ≤ 64) (hm2 : m0 ≤ len) (hlen : len ≤ 65536) (hne : ¬ (g = 18 ∧ a = u)) (h : po (cpI (uI (uL C 11 u 0 ty) 17 u 0 (m0 : Int)) 18 u 0 g a 0 m0)) : wp_X1_fill u ty (m0 : Int) k (some a) C po := by
  unfold wp_X1_fill
  rintro _ rfl _ rfl
  refine ⟨m0 + 1, ?_⟩
  have := sp_fill_loop hT hF hL hm hm2 hlen hne h m0 0 (by omega)
  rw [cpI_0] at this
  exact this
/-- a taker's area, and the type -/
def recS (C : St) (p u m : Nat) : St := uL (cpI C 16 p 0 18 u 0 m) 10 p 0 (gL C 11 u 0)
theorem sp_receive_loop {C : St} {p u m0 : Nat} {po : Int → St → Prop} (hm : m0 ≤ 64) (h : po (m0 : Int) (recS C p u m0)) : ∀ m i : Nat, i + m = m0 → wp_X2_receive_17 po (m + 1) p (some u) (m0 : Int) (i : Int) (cpI C 16 p 0 18 u 0 i) := by
  intro m
  induction m with
  | zero =>
    intro i hi
    have e : i = m0 := by omega
    subst e
    unfold wp_X2_receive_17
    rw [nm_nat (n := 65) (by omega) (by omega)]
    refine ⟨fun _ => ⟨u, rfl, ?_⟩, fun z => absurd z (by omega)⟩
    rintro _ rfl
    exact h
  | succ m ih =>
    intro i hi
    have ei : ((i : Int)).toNat = i := by omega
    have ih := ih (i + 1) (by omega)
    have hs := cpI_step (σ := C) (f := 16) (a := p) (d := 0) (g := 18) (c := u) (o := 0) (m := i) (by omega)
    unfold wp_X2_receive_17
    rw [nm_nat (n := 65) (by omega) (by omega), nm_nat (n := 65) (by omega) (by omega), show nm 64 = 64 by decide, ei]
    refine ⟨fun z => absurd z (by omega), fun _ => ⟨fun z => absurd z (by omega), fun _ => ⟨u, rfl, ⟨by omega, by omega⟩, ⟨by omega, by omega⟩, ?_⟩⟩⟩
    rintro _ rfl
    simp only [Nat.zero_add] at hs
    rw [hs]
    exact ih
theorem zmin_nat {x y : Int} (h1 : 0 ≤ x ∧ x ≤ 64) (h2 : 0 ≤ y ∧ y ≤ 64) : zmin x y = ((min x.toNat y.toNat : Nat) : Int) := by
  unfold zmin
  rw [nm_id (by omega), nm_id (by omega)]
  split <;> omega
theorem sp_receive {C : St} {p u : Nat} {po : Int → St → Prop} (h1 : 0 ≤ gI C 19 p 0 ∧ gI C 19 p 0 ≤ 64) (h2 : 0 ≤ gI C 17 u 0 ∧ gI C 17 u 0 ≤ 64) (h : po ((min (gI C 19 p 0).toNat (gI C 17 u 0).toNat : Nat) : Int) (recS C p u (min (gI C 19 p 0).toNat (gI C 17 u 0).toNat))) : wp_X2_receive p (some u) C po := by
  unfold wp_X2_receive
  refine ⟨u, rfl, min (gI C 19 p 0).toNat (gI C 17 u 0).toNat + 1, ?_⟩
  rw [zmin_nat h1 h2]
  have := sp_receive_loop (p := p) (u := u) (by omega) h (min (gI C 19 p 0).toNat (gI C 17 u 0).toNat) 0 (by omega)
  rw [cpI_0] at this
  exact this
def givS (M : St) (p c o : Nat) (ty : Int) (m : Nat) : St := uI (uL (cpI M 110 5 (64 * p) 110 c o m) 110 6 p ty) 110 4 p (m : Int)
theorem sp_give_loop {M : St} {p c o m0 : Nat} {ty : Int} {po : St → Prop} (hp : p < 16) (hm : m0 ≤ 64) (hT : aTy 31 c = 1) (hb : o + m0 ≤ aLen 31 c) (hl : aLen 31 c ≤ 65536) (hc : c ≠ 5) (h : po (givS M p c o ty m0)) :
    ∀ m i : Nat, i + m = m0 → wp_X8_give_19 po (m + 1) (p : Int) ty 31 (some c) (o : Int) (m0 : Int) (i : Int) (cpI M 110 5 (64 * p) 110 c o i) := by
  have ep : ((p : Int)).toNat = p := by omega
  have np : nm (p : Int) = p := nm_nat (n := 16) hp (by omega)
  intro m
  induction m with
  | zero =>
    intro i hi
    have e : i = m0 := by omega
    subst e
    unfold wp_X8_give_19
    rw [nm_nat (n := 65) (by omega) (by omega), np, ep]
    refine ⟨fun _ => ⟨⟨by omega, by omega⟩, ?_⟩, fun z => absurd z (by omega)⟩
    rintro _ rfl
    refine ⟨⟨by omega, by omega⟩, ?_⟩
    rintro _ rfl
    exact h
  | succ m ih =>
    intro i hi
    have ih := ih (i + 1) (by omega)
    have hs := cpI_step (σ := M) (f := 110) (a := 5) (d := 64 * p) (g := 110) (c := c) (o := o) (m := i) (by omega)
    have e1 : nm ((o : Int) + i) = ((o + i : Nat) : Int) := by rw [nm_id (by omega)]; omega
    have e2 : nm (64 * (p : Int) + i) = ((64 * p + i : Nat) : Int) := by rw [nm_id (by omega)]; omega
    have e3 : (((o + i : Nat) : Int)).toNat = o + i := by omega
    have e4 : (((64 * p + i : Nat) : Int)).toNat = 64 * p + i := by omega
    unfold wp_X8_give_19
    rw [nm_nat (n := 65) (by omega) (by omega), nm_nat (n := 65) (by omega) (by omega), e1, e2, e3, e4, show aFd 31 = 110 from rfl]
    refine ⟨fun z => absurd z (by omega), fun _ => ⟨c, rfl, hT, ⟨by omega, by omega⟩, ⟨by omega, by omega⟩, ?_⟩⟩
    rintro _ rfl
    rw [hs]
    exact ih
theorem sp_give {M : St} {p c o : Nat} {x y : Int} {ty : Int} {po : St → Prop} (hp : p < 16) (hx : 0 ≤ x ∧ x ≤ 64) (hy : 0 ≤ y ∧ y ≤ 64) (hT : aTy 31 c = 1) (hb : o + min y.toNat x.toNat ≤ aLen 31 c) (hl : aLen 31 c ≤ 65536) (hc : c ≠ 5) (h : po (givS M p c o ty (min y.toNat x.toNat))) : wp_X8_give (p : Int) ty x 31 (some c) (o : Int) y M po := by
  have key := sp_give_loop (M := M) hp (show min y.toNat x.toNat ≤ 64 by omega) hT hb hl hc h (min y.toNat x.toNat) 0 (by omega)
  rw [cpI_0] at key
  unfold wp_X8_give
  rw [nm_id (by omega : -2147483648 ≤ x ∧ x < 2147483648), nm_id (by omega : -2147483648 ≤ y ∧ y < 2147483648)]
  refine ⟨fun z => ⟨min y.toNat x.toNat + 1, ?_⟩, fun z => ⟨min y.toNat x.toNat + 1, ?_⟩⟩
  · rw [show ((min y.toNat x.toNat : Nat) : Int) = y by omega] at key; exact key
  · rw [show ((min y.toNat x.toNat : Nat) : Int) = x by omega] at key; exact key
