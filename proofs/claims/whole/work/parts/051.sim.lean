/-! LAYER 2: the relation between the class's part of a store C and the model's part of a store M -/
def rt (C : St) (t : Nat) : Option Nat := if t < 12 then gR C 2 0 t else gR C 3 0 (t - 12)
def hre (C : St) (t : Nat) : Prop := rt C t = some t ∧ gI C 32 t 0 ≠ 0
def stepOK (C M : St) (p i s1 s2 s3 : Nat) : Prop := gI C 22 p i = gI M 110 s1 (8 * p + i) ∧ gI C 23 p i = gI M 110 s2 (8 * p + i) ∧ gI C 24 p i = gI M 110 s3 (8 * p + i) ∧ 0 ≤ gI C 22 p i ∧ gI C 22 p i ≤ 7 ∧ -32767 ≤ gI C 23 p i ∧ gI C 23 p i ≤ 32767 ∧ 0 ≤ gI C 24 p i ∧ gI C 24 p i ≤ 3
/-- e: a process whose result isn't told yet; e2: one that is ending -/
def procOK (e e2 : Option Nat) (C M : St) (p : Nat) : Prop :=
  gI C 10 p 0 = p ∧ gI C 11 p 0 = gI M 110 1 p ∧ gI C 12 p 0 = gI M 110 2 p ∧ (e2 ≠ some p → gI C 13 p 0 = gI M 110 3 p) ∧ (e ≠ some p → gI C 14 p 0 = gI M 110 4 p) ∧ gI C 15 p 0 = gI M 110 7 p ∧ gL C 10 p 0 = gL M 110 6 p ∧ ∀ j : Nat, j < 64 → gI C 16 p j = gI M 110 5 (64 * p + j)
def toldOK (C M : St) (p : Nat) : Prop :=
  0 ≤ gI C 25 p 0 ∧ gI C 25 p 0 ≤ 8 ∧ gI C 25 p 0 = gI M 110 16 p ∧ ∀ i : Nat, (i : Int) < gI C 25 p 0 → stepOK C M p i 17 18 19
def sendOK (C M : St) (p : Nat) : Prop :=
  gL C 11 (2 * p) 0 = gL M 110 10 p ∧ 1 ≤ gL C 11 (2 * p) 0 ∧ gI C 17 (2 * p) 0 = gI M 110 11 p ∧ 0 ≤ gI C 17 (2 * p) 0 ∧ gI C 17 (2 * p) 0 ≤ 64 ∧ ∀ j : Nat, (j : Int) < gI C 17 (2 * p) 0 → gI C 18 (2 * p) j = gI M 110 13 (64 * p + j)
def takeOK (C M : St) (p : Nat) : Prop :=
  gI C 19 p 0 = gI M 110 11 p ∧ 0 ≤ gI C 19 p 0 ∧ gI C 19 p 0 ≤ 64 ∧ gL C 12 p 0 = gL M 110 10 p ∧ (gI C 20 p 0 = 0 ↔ zand (gI M 110 12 p) 2 = 0) ∧ (gI C 21 p 0 = 0 ↔ zand (gI M 110 12 p) 4 = 0) ∧ (gI C 21 p 0 = 0 ∨ gI C 21 p 0 = 1)
def tryOK (C M : St) (p s : Nat) : Prop :=
  gI C 25 p 0 = 0 ∧ 1 ≤ gI C 26 p 0 ∧ gI C 26 p 0 ≤ 8 ∧ gI C 26 p 0 = gI M 110 20 p ∧ 0 ≤ gI C 27 p 0 ∧ gI C 27 p 0 < gI C 26 p 0 ∧ gI C 27 p 0 = gI M 110 14 p ∧ ∀ i : Nat, (i : Int) < gI C 26 p 0 → stepOK C M p i 21 22 23 ∧ gI C 22 p i < gI C 45 (12 + s) 0
def waitOK (C M : St) (p : Nat) : Prop :=
  (gI C 15 p 0 = 0 ∧ gR C 10 p 0 = none) ∨
  (gI C 15 p 0 = 1 ∧ sendOK C M p ∧ ∃ s : Nat, s < 12 ∧ gR C 10 p 0 = some s ∧ gI M 110 9 p = s ∧ hre C s) ∨
  (gI C 15 p 0 = 2 ∧ takeOK C M p ∧ ∃ s : Nat, s < 12 ∧ gR C 10 p 0 = some s ∧ gI M 110 9 p = s ∧ hre C s) ∨
  (gI C 15 p 0 = 3 ∧ ∃ s : Nat, s < 12 ∧ gR C 10 p 0 = some (12 + s) ∧ gI M 110 9 p = s ∧ hre C (12 + s) ∧ tryOK C M p s)
def thingOK (k : Nat) (C M : St) (t : Nat) : Prop :=
  (rt C t = none ∨ rt C t = some t) ∧ 0 ≤ gI M 110 25 t ∧ gI M 110 25 t ≤ k ∧
  (rt C t = none → gI M 110 24 t = 0 ∧ gI M 110 25 t = 0) ∧
  (rt C t = some t → gI C 30 t 0 = (t % 12 : Nat)) ∧
  (rt C t = some t → gI C 32 t 0 = 0 → gI M 110 24 t = 0 ∧ gI C 31 t 0 = gI M 110 25 t) ∧
  (hre C t → gI M 110 24 t = 1 ∧ gI C 31 t 0 = gI M 110 25 t + 1 ∧ gI C 33 t 0 = (t % 12 : Nat) + 12 * gI M 110 25 t ∧ gI C 34 t 0 = gI M 110 26 t ∧ gI C 35 t 0 = gI M 110 27 t ∧ gI C 36 t 0 = gI M 110 28 t ∧ gI C 37 t 0 = gI M 110 29 t ∧ gI C 38 t 0 = gI M 110 30 t ∧ gI C 39 t 0 = gI M 110 31 t ∧ 0 ≤ gI C 39 t 0 ∧ gI C 39 t 0 ≤ 511)
def msgOK (C M : St) (u j : Nat) : Prop :=
  gL C 11 u 0 = gL M 110 35 j ∧ 1 ≤ gL C 11 u 0 ∧ gI C 17 u 0 = gI M 110 36 j ∧ 0 ≤ gI C 17 u 0 ∧ gI C 17 u 0 ≤ 64 ∧ ∀ b : Nat, (b : Int) < gI C 17 u 0 → gI C 18 u b = gI M 110 37 (64 * j + b)
def queueOK (C M : St) (s : Nat) : Prop :=
  hre C s → gI C 40 s 0 = gI M 110 34 s ∧ 0 ≤ gI C 40 s 0 ∧ gI C 40 s 0 ≤ 40 ∧ gI C 41 s 0 = gI M 110 32 s ∧ gI C 42 s 0 = gI M 110 33 s ∧ 0 ≤ gI C 42 s 0 ∧ gI C 42 s 0 ≤ 1000 ∧ ∀ i : Nat, (i : Int) < gI C 40 s 0 → ∃ u, gR C 11 s i = some u ∧ msgOK C M u (40 * s + i)
def setOK (C M : St) (s : Nat) : Prop :=
  hre C (12 + s) → gI C 45 (12 + s) 0 = gI M 110 38 s ∧ 1 ≤ gI C 45 (12 + s) 0 ∧ gI C 45 (12 + s) 0 ≤ 8 ∧ ∀ c : Nat, (c : Int) < gI C 45 (12 + s) 0 →
    gI C 46 (12 + s) c = gI M 110 39 (8 * s + c) ∧ 0 ≤ gI C 46 (12 + s) c ∧ gI C 46 (12 + s) c ≤ 32767 ∧ gI C 47 (12 + s) c = gI M 110 40 (8 * s + c) ∧
    ∀ p : Nat, p < 16 → gI C 48 (12 + s) (8 * p + c) = gI M 110 41 (96 * p + (8 * s + c)) ∧ -32767 ≤ gI C 48 (12 + s) (8 * p + c) ∧ gI C 48 (12 + s) (8 * p + c) ≤ 32767
def lineOK (n : Nat) (ls : List Nat) (C : St) : Prop :=
  (∀ i : Nat, gR C 4 0 i = ls[i]?) ∧ gI C 2 0 0 = ls.length ∧ ls.length ≤ 16 ∧ ls.Nodup ∧ ∀ p, p ∈ ls ↔ p < n ∧ gI C 15 p 0 ≠ 0
def turnOK (k : Nat) (ls : List Nat) (M : St) : Prop :=
  0 ≤ gI M 101 0 0 ∧ gI M 101 0 0 ≤ k ∧ (∀ p ∈ ls, 1 ≤ gI M 110 8 p ∧ gI M 110 8 p ≤ gI M 101 0 0) ∧ ls.Pairwise (fun p q => gI M 110 8 p < gI M 110 8 q)
def tagOK (n : Nat) (C : St) : Prop :=
  ∀ k a, (k, a) ∈ C.2.1 → ((k = 10 ∨ k = 11 ∨ (14 ≤ k ∧ k ≤ 18)) → a < n) ∧ ((k = 12 ∨ k = 13) → a % 2 = 0 → a < 2 * n) ∧ ((20 ≤ k ∧ k ≤ 26) → a < 24 ∧ rt C a = some a)
def rowOK (C : St) : Prop :=
  (∀ s i u, gR C 11 s i = some u → u % 2 = 1 ∧ (12, u) ∈ C.2.1) ∧ ∀ s i s' i' u, gR C 11 s i = some u → gR C 11 s' i' = some u → s = s' ∧ i = i'
def rootOK (n : Nat) (C M : St) : Prop := n ≤ 16 ∧ gI C 1 0 0 = n ∧ gI M 100 0 0 = n ∧ ∀ i, gR C 1 0 i = if i < n then some i else none
def freM (n : Nat) (M : St) : Prop := ∀ p : Nat, n ≤ p → p < 16 → gI M 110 4 p = 0 ∧ gI M 110 7 p = 0 ∧ gI M 110 16 p = 0 ∧ gL M 110 6 p = 0 ∧ ∀ j : Nat, j < 64 → gI M 110 5 (64 * p + j) = 0
def SimB (k n : Nat) (ls : List Nat) (e e2 : Option Nat) (C M : St) : Prop :=
  rootOK n C M ∧ lineOK n ls C ∧ turnOK k ls M ∧ tagOK n C ∧ rowOK C ∧ (∀ p, p < n → procOK e e2 C M p) ∧ (∀ p, p < n → toldOK C M p) ∧ (∀ p, p < n → waitOK C M p) ∧ (∀ t, t < 24 → thingOK k C M t) ∧ (∀ s, s < 12 → queueOK C M s) ∧ (∀ s, s < 12 → setOK C M s) ∧ freM n M
def Sim (k : Nat) (C M : St) : Prop := ∃ n ls, SimB k n ls none none C M
theorem rt_congr {C C' : St} (h : ∀ f a b, gR C' f a b = gR C f a b) (t : Nat) : rt C' t = rt C t := by unfold rt; rw [h, h]
theorem hre_congr {C C' : St} (hR : ∀ f a b, gR C' f a b = gR C f a b) (hI : ∀ t, gI C' 32 t 0 = gI C 32 t 0) (t : Nat) : hre C' t ↔ hre C t := by unfold hre; rw [rt_congr hR, hI]
theorem SimB.congr {k n : Nat} {ls : List Nat} {e e2 : Option Nat} {C C' M M' : St} (hC : CEq C C') (hM : MEq M M') (h : SimB k n ls e e2 C M) : SimB k n ls e e2 C' M' := by
  obtain ⟨htg, hI, hL, hR⟩ := hC
  obtain ⟨mI, mL⟩ := hM
  have hr := rt_congr hR
  have hh : ∀ t, hre C' t ↔ hre C t := hre_congr hR (fun t => hI 32 t 0 (by decide))
  have i : ∀ {f : Nat}, f < 100 → ∀ a b, gI C' f a b = gI C f a b := fun h a b => hI _ a b h
  have l : ∀ {f : Nat}, f < 100 → ∀ a b, gL C' f a b = gL C f a b := fun h a b => hL _ a b h
  have mi := fun a b => mI 110 a b (by decide)
  have ml := fun a b => mL 110 a b (by decide)
  have m0 := mI 100 0 0 (by decide)
  have m1 := mI 101 0 0 (by decide)
  unfold SimB freM rootOK lineOK turnOK tagOK rowOK procOK toldOK waitOK thingOK queueOK setOK msgOK sendOK takeOK tryOK stepOK at h ⊢
  simp only [hr, hh, htg, hR, mi, ml, m0, m1, i (show 1 < 100 by decide), i (show 2 < 100 by decide), i (show 10 < 100 by decide), i (show 11 < 100 by decide), i (show 12 < 100 by decide), i (show 13 < 100 by decide), i (show 14 < 100 by decide), i (show 15 < 100 by decide), i (show 16 < 100 by decide), i (show 17 < 100 by decide), i (show 18 < 100 by decide), i (show 19 < 100 by decide), i (show 20 < 100 by decide), i (show 21 < 100 by decide), i (show 22 < 100 by decide), i (show 23 < 100 by decide), i (show 24 < 100 by decide), i (show 25 < 100 by decide), i (show 26 < 100 by decide), i (show 27 < 100 by decide), i (show 30 < 100 by decide), i (show 31 < 100 by decide), i (show 32 < 100 by decide), i (show 33 < 100 by decide), i (show 34 < 100 by decide), i (show 35 < 100 by decide), i (show 36 < 100 by decide), i (show 37 < 100 by decide), i (show 38 < 100 by decide), i (show 39 < 100 by decide), i (show 40 < 100 by decide), i (show 41 < 100 by decide), i (show 42 < 100 by decide), i (show 45 < 100 by decide), i (show 46 < 100 by decide), i (show 47 < 100 by decide), i (show 48 < 100 by decide), l (show 10 < 100 by decide), l (show 11 < 100 by decide), l (show 12 < 100 by decide)]
  exact h
/-- only what procOK looks at was written: lives, results, areas, types that were taken -/
def PrivC (C C' : St) : Prop := C'.2.1 = C.2.1 ∧ (∀ f a b, f < 100 → f ≠ 13 → f ≠ 14 → f ≠ 16 → gI C' f a b = gI C f a b) ∧ (∀ f a b, f < 100 → f ≠ 10 → gL C' f a b = gL C f a b) ∧ ∀ f a b, gR C' f a b = gR C f a b
def PrivM (M M' : St) : Prop := (∀ f a b, (f = 110 → a ≠ 3 ∧ a ≠ 4 ∧ a ≠ 5) → gI M' f a b = gI M f a b) ∧ ∀ a b, a ≠ 6 → gL M' 110 a b = gL M 110 a b
theorem SimB.priv {k n : Nat} {ls : List Nat} {e e2 f e3 : Option Nat} {C C' M M' : St} (hC : PrivC C C') (hM : PrivM M M') (hp : ∀ p, p < n → procOK f e3 C' M' p) (h : SimB k n ls e e2 C M) (hF : freM n M → freM n M') : SimB k n ls f e3 C' M' := by
  obtain ⟨htg, hI, hL, hR⟩ := hC
  obtain ⟨mI, mL⟩ := hM
  obtain ⟨h1, h2, h3, h4, h5, -, h7, h8, h9, h10, h11, h12⟩ := h
  suffices hs : rootOK n C' M' ∧ lineOK n ls C' ∧ turnOK k ls M' ∧ tagOK n C' ∧ rowOK C' ∧ (∀ p, p < n → toldOK C' M' p) ∧ (∀ p, p < n → waitOK C' M' p) ∧ (∀ t, t < 24 → thingOK k C' M' t) ∧ (∀ s, s < 12 → queueOK C' M' s) ∧ (∀ s, s < 12 → setOK C' M' s) by
    obtain ⟨g1, g2, g3, g4, g5, g7, g8, g9, g10, g11⟩ := hs
    exact ⟨g1, g2, g3, g4, g5, hp, g7, g8, g9, g10, g11, hF h12⟩
  have h := And.intro h1 (And.intro h2 (And.intro h3 (And.intro h4 (And.intro h5 (And.intro h7 (And.intro h8 (And.intro h9 (And.intro h10 h11))))))))
  have hr := rt_congr hR
  have hh : ∀ t, hre C' t ↔ hre C t := hre_congr hR (fun t => hI 32 t 0 (by decide) (by decide) (by decide) (by decide))
  have i : ∀ {f : Nat}, (f < 100 ∧ f ≠ 13 ∧ f ≠ 14 ∧ f ≠ 16) → ∀ a b, gI C' f a b = gI C f a b := fun h a b => hI _ a b h.1 h.2.1 h.2.2.1 h.2.2.2
  have l : ∀ {f : Nat}, (f < 100 ∧ f ≠ 10) → ∀ a b, gL C' f a b = gL C f a b := fun h a b => hL _ a b h.1 h.2
  have mi : ∀ {a : Nat}, (a ≠ 3 ∧ a ≠ 4 ∧ a ≠ 5) → ∀ b, gI M' 110 a b = gI M 110 a b := fun h b => mI 110 _ b (fun _ => h)
  have ml : ∀ {a : Nat}, a ≠ 6 → ∀ b, gL M' 110 a b = gL M 110 a b := fun h b => mL _ b h
  have m0 := mI 100 0 0 (by intro h; cases h)
  have m1 := mI 101 0 0 (by intro h; cases h)
  unfold rootOK lineOK turnOK tagOK rowOK toldOK waitOK thingOK queueOK setOK msgOK sendOK takeOK tryOK stepOK at h ⊢
  simp only [hr, hh, htg, hR, m0, m1, mi (show 1 ≠ 3 ∧ 1 ≠ 4 ∧ 1 ≠ 5 by decide), mi (show 2 ≠ 3 ∧ 2 ≠ 4 ∧ 2 ≠ 5 by decide), mi (show 7 ≠ 3 ∧ 7 ≠ 4 ∧ 7 ≠ 5 by decide), mi (show 8 ≠ 3 ∧ 8 ≠ 4 ∧ 8 ≠ 5 by decide), mi (show 9 ≠ 3 ∧ 9 ≠ 4 ∧ 9 ≠ 5 by decide), mi (show 11 ≠ 3 ∧ 11 ≠ 4 ∧ 11 ≠ 5 by decide), mi (show 12 ≠ 3 ∧ 12 ≠ 4 ∧ 12 ≠ 5 by decide), mi (show 13 ≠ 3 ∧ 13 ≠ 4 ∧ 13 ≠ 5 by decide), mi (show 14 ≠ 3 ∧ 14 ≠ 4 ∧ 14 ≠ 5 by decide), mi (show 16 ≠ 3 ∧ 16 ≠ 4 ∧ 16 ≠ 5 by decide), mi (show 20 ≠ 3 ∧ 20 ≠ 4 ∧ 20 ≠ 5 by decide), mi (show 24 ≠ 3 ∧ 24 ≠ 4 ∧ 24 ≠ 5 by decide), mi (show 25 ≠ 3 ∧ 25 ≠ 4 ∧ 25 ≠ 5 by decide), mi (show 26 ≠ 3 ∧ 26 ≠ 4 ∧ 26 ≠ 5 by decide), mi (show 27 ≠ 3 ∧ 27 ≠ 4 ∧ 27 ≠ 5 by decide), mi (show 28 ≠ 3 ∧ 28 ≠ 4 ∧ 28 ≠ 5 by decide), mi (show 29 ≠ 3 ∧ 29 ≠ 4 ∧ 29 ≠ 5 by decide), mi (show 30 ≠ 3 ∧ 30 ≠ 4 ∧ 30 ≠ 5 by decide), mi (show 31 ≠ 3 ∧ 31 ≠ 4 ∧ 31 ≠ 5 by decide), mi (show 32 ≠ 3 ∧ 32 ≠ 4 ∧ 32 ≠ 5 by decide), mi (show 33 ≠ 3 ∧ 33 ≠ 4 ∧ 33 ≠ 5 by decide), mi (show 34 ≠ 3 ∧ 34 ≠ 4 ∧ 34 ≠ 5 by decide), mi (show 36 ≠ 3 ∧ 36 ≠ 4 ∧ 36 ≠ 5 by decide), mi (show 37 ≠ 3 ∧ 37 ≠ 4 ∧ 37 ≠ 5 by decide), mi (show 38 ≠ 3 ∧ 38 ≠ 4 ∧ 38 ≠ 5 by decide), mi (show 39 ≠ 3 ∧ 39 ≠ 4 ∧ 39 ≠ 5 by decide), mi (show 40 ≠ 3 ∧ 40 ≠ 4 ∧ 40 ≠ 5 by decide), mi (show 41 ≠ 3 ∧ 41 ≠ 4 ∧ 41 ≠ 5 by decide), mi (show 17 ≠ 3 ∧ 17 ≠ 4 ∧ 17 ≠ 5 by decide), mi (show 18 ≠ 3 ∧ 18 ≠ 4 ∧ 18 ≠ 5 by decide), mi (show 19 ≠ 3 ∧ 19 ≠ 4 ∧ 19 ≠ 5 by decide), mi (show 21 ≠ 3 ∧ 21 ≠ 4 ∧ 21 ≠ 5 by decide), mi (show 22 ≠ 3 ∧ 22 ≠ 4 ∧ 22 ≠ 5 by decide), mi (show 23 ≠ 3 ∧ 23 ≠ 4 ∧ 23 ≠ 5 by decide), ml (show 10 ≠ 6 by decide), ml (show 35 ≠ 6 by decide), i (show 1 < 100 ∧ 1 ≠ 13 ∧ 1 ≠ 14 ∧ 1 ≠ 16 by decide), i (show 2 < 100 ∧ 2 ≠ 13 ∧ 2 ≠ 14 ∧ 2 ≠ 16 by decide), i (show 10 < 100 ∧ 10 ≠ 13 ∧ 10 ≠ 14 ∧ 10 ≠ 16 by decide), i (show 11 < 100 ∧ 11 ≠ 13 ∧ 11 ≠ 14 ∧ 11 ≠ 16 by decide), i (show 12 < 100 ∧ 12 ≠ 13 ∧ 12 ≠ 14 ∧ 12 ≠ 16 by decide), i (show 15 < 100 ∧ 15 ≠ 13 ∧ 15 ≠ 14 ∧ 15 ≠ 16 by decide), i (show 17 < 100 ∧ 17 ≠ 13 ∧ 17 ≠ 14 ∧ 17 ≠ 16 by decide), i (show 18 < 100 ∧ 18 ≠ 13 ∧ 18 ≠ 14 ∧ 18 ≠ 16 by decide), i (show 19 < 100 ∧ 19 ≠ 13 ∧ 19 ≠ 14 ∧ 19 ≠ 16 by decide), i (show 20 < 100 ∧ 20 ≠ 13 ∧ 20 ≠ 14 ∧ 20 ≠ 16 by decide), i (show 21 < 100 ∧ 21 ≠ 13 ∧ 21 ≠ 14 ∧ 21 ≠ 16 by decide), i (show 22 < 100 ∧ 22 ≠ 13 ∧ 22 ≠ 14 ∧ 22 ≠ 16 by decide), i (show 23 < 100 ∧ 23 ≠ 13 ∧ 23 ≠ 14 ∧ 23 ≠ 16 by decide), i (show 24 < 100 ∧ 24 ≠ 13 ∧ 24 ≠ 14 ∧ 24 ≠ 16 by decide), i (show 25 < 100 ∧ 25 ≠ 13 ∧ 25 ≠ 14 ∧ 25 ≠ 16 by decide), i (show 26 < 100 ∧ 26 ≠ 13 ∧ 26 ≠ 14 ∧ 26 ≠ 16 by decide), i (show 27 < 100 ∧ 27 ≠ 13 ∧ 27 ≠ 14 ∧ 27 ≠ 16 by decide), i (show 30 < 100 ∧ 30 ≠ 13 ∧ 30 ≠ 14 ∧ 30 ≠ 16 by decide), i (show 31 < 100 ∧ 31 ≠ 13 ∧ 31 ≠ 14 ∧ 31 ≠ 16 by decide), i (show 32 < 100 ∧ 32 ≠ 13 ∧ 32 ≠ 14 ∧ 32 ≠ 16 by decide), i (show 33 < 100 ∧ 33 ≠ 13 ∧ 33 ≠ 14 ∧ 33 ≠ 16 by decide), i (show 34 < 100 ∧ 34 ≠ 13 ∧ 34 ≠ 14 ∧ 34 ≠ 16 by decide), i (show 35 < 100 ∧ 35 ≠ 13 ∧ 35 ≠ 14 ∧ 35 ≠ 16 by decide), i (show 36 < 100 ∧ 36 ≠ 13 ∧ 36 ≠ 14 ∧ 36 ≠ 16 by decide), i (show 37 < 100 ∧ 37 ≠ 13 ∧ 37 ≠ 14 ∧ 37 ≠ 16 by decide), i (show 38 < 100 ∧ 38 ≠ 13 ∧ 38 ≠ 14 ∧ 38 ≠ 16 by decide), i (show 39 < 100 ∧ 39 ≠ 13 ∧ 39 ≠ 14 ∧ 39 ≠ 16 by decide), i (show 40 < 100 ∧ 40 ≠ 13 ∧ 40 ≠ 14 ∧ 40 ≠ 16 by decide), i (show 41 < 100 ∧ 41 ≠ 13 ∧ 41 ≠ 14 ∧ 41 ≠ 16 by decide), i (show 42 < 100 ∧ 42 ≠ 13 ∧ 42 ≠ 14 ∧ 42 ≠ 16 by decide), i (show 45 < 100 ∧ 45 ≠ 13 ∧ 45 ≠ 14 ∧ 45 ≠ 16 by decide), i (show 46 < 100 ∧ 46 ≠ 13 ∧ 46 ≠ 14 ∧ 46 ≠ 16 by decide), i (show 47 < 100 ∧ 47 ≠ 13 ∧ 47 ≠ 14 ∧ 47 ≠ 16 by decide), i (show 48 < 100 ∧ 48 ≠ 13 ∧ 48 ≠ 14 ∧ 48 ≠ 16 by decide), l (show 11 < 100 ∧ 11 ≠ 10 by decide), l (show 12 < 100 ∧ 12 ≠ 10 by decide)]
  exact h
theorem Sim.congr {k : Nat} {C C' M M' : St} (hC : CEq C C') (hM : MEq M M') (h : Sim k C M) : Sim k C' M' := by
  obtain ⟨n, ls, h⟩ := h
  exact ⟨n, ls, h.congr hC hM⟩
/-- one call of both: the class from C, the model from any M beside it -/
def Lock (k k' : Nat) (wc : (Int → St → Prop) → Prop) (C : St) (wm : St → (Int → St → Prop) → Prop) : Prop :=
  ∃ r C', (∀ po, po r C' → wc po) ∧ MEq C C' ∧ ∀ M, Sim k C M → ∃ M', (∀ po, po r M' → wm M po) ∧ CEq M M' ∧ Sim k' C' M'
theorem SimB.mono {k k' n : Nat} {ls : List Nat} {e e2 : Option Nat} {C M : St} (hk : k ≤ k') (h : SimB k n ls e e2 C M) : SimB k' n ls e e2 C M := by
  obtain ⟨h1, h2, h3, h4, h5, h6, h7, h8, h9, h10, h11⟩ := h
  refine ⟨h1, h2, ⟨h3.1, by have := h3.2.1; omega, h3.2.2⟩, h4, h5, h6, h7, h8, fun t ht => ?_, h10, h11⟩
  obtain ⟨a, b, c, d⟩ := h9 t ht
  exact ⟨a, b, by omega, d⟩
theorem Sim.mono {k k' : Nat} {C M : St} (hk : k ≤ k') (h : Sim k C M) : Sim k' C M := by
  obtain ⟨n, ls, h⟩ := h
  exact ⟨n, ls, h.mono hk⟩
