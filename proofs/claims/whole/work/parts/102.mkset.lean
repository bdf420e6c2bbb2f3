/-! LAYER 2: a set is made, both -/
def L45 (t : Nat) : Nat → Nat → Nat → Prop := fun f a _ => (45 ≤ f ∧ f ≤ 48) ∧ a = t
theorem clear35 {D : St} {t : Nat} (h12 : 12 ≤ t) : ∀ (m i : Nat) (σ : St), i + m = 128 → XI (L45 t) D σ → (∀ b, b < i → gI σ 48 t b = 0) → (∀ f b, f ≠ 48 → gI σ f t b = gI D f t b) → ∃ C1, XI (L45 t) D C1 ∧ (∀ b, b < 128 → gI C1 48 t b = 0) ∧ (∀ f b, f ≠ 48 → gI C1 f t b = gI D f t b) ∧ ∀ po : St → Prop, po C1 → wp_X0_clear_35 po (m + 1) t (i : Int) σ := by
  intro m
  induction m with
  | zero =>
    intro i σ hi hx h1 h2
    have e : i = 128 := by omega
    subst e
    refine ⟨σ, hx, h1, h2, fun po hpo => ?_⟩
    unfold wp_X0_clear_35
    exact ⟨fun _ => hpo, fun z => absurd z (by decide)⟩
  | succ m ih =>
    intro i σ hi hx h1 h2
    have ni : nm (i : Int) = i := nm_nat (n := 129) (by omega) (by omega)
    obtain ⟨C1, g1, g2, g3, g4⟩ := ih (i + 1) (uI σ 48 t i 0) (by omega) (hx.uI _ (by unfold L45; omega)) (fun b hb => by
      rw [gI_uI]
      by_cases z : b = i
      · rw [if_pos ⟨rfl, rfl, z⟩, n0]
      · rw [if_neg (by omega)]; exact h1 b (by omega)) (fun f b hf => by rw [gI_uI, if_neg (by omega)]; exact h2 f b hf)
    refine ⟨C1, g1, g2, g3, fun po hpo => ?_⟩
    rw [wp_X0_clear_35]
    rw [ni, Int.toNat_natCast, show nm 128 = 128 by decide, show ((i : Int) + 1) = ((i + 1 : Nat) : Int) by omega]
    refine ⟨fun z => absurd z (by omega), fun _ => ⟨h12, by omega, ?_⟩⟩
    rintro _ rfl
    exact g4 po hpo
theorem clear7 {D : St} {t : Nat} (h12 : 12 ≤ t) : ∀ (m i : Nat) (σ : St), i + m = 8 → XI (L45 t) D σ → (∀ c, c < i → gI σ 46 t c = 0 ∧ gI σ 47 t c = -1) → gI σ 45 t 0 = gI D 45 t 0 → ∃ C1, XI (L45 t) D C1 ∧ gI C1 45 t 0 = gI D 45 t 0 ∧ (∀ c, c < 8 → gI C1 46 t c = 0 ∧ gI C1 47 t c = -1) ∧ (∀ b, b < 128 → gI C1 48 t b = 0) ∧ ∀ po : St → Prop, po C1 → wp_X0_clear_7 po (m + 1) t (i : Int) σ := by
  intro m
  induction m with
  | zero =>
    intro i σ hi hx h1 h2
    have e : i = 8 := by omega
    subst e
    obtain ⟨C1, g1, g2, g3, g4⟩ := clear35 (D := σ) h12 128 0 σ (by omega) XI.rf (fun b hb => absurd hb (by omega)) (fun _ _ _ => rfl)
    refine ⟨C1, hx.tr g1, by rw [g3 45 0 (by decide)]; exact h2, fun c hc => by rw [g3 46 c (by decide), g3 47 c (by decide)]; exact h1 c hc, g2, fun po hpo => ?_⟩
    unfold wp_X0_clear_7
    exact ⟨fun _ => ⟨129, g4 po hpo⟩, fun z => absurd z (by decide)⟩
  | succ m ih =>
    intro i σ hi hx h1 h2
    have ni : nm (i : Int) = i := nm_nat (n := 9) (by omega) (by omega)
    obtain ⟨C1, g1, g2, g3, g4, g5⟩ := ih (i + 1) (uI (uI σ 46 t i 0) 47 t i (-1)) (by omega) ((hx.uI _ (by unfold L45; omega)).uI _ (by unfold L45; omega)) (fun c hc => by
      by_cases z : c = i
      · subst z
        exact ⟨by rw [gI_uI, if_neg (by omega), gI_uI, if_pos ⟨rfl, rfl, rfl⟩, n0], by rw [gI_uI, if_pos ⟨rfl, rfl, rfl⟩, nm_m1]⟩
      · rw [gI_uI, if_neg (by omega), gI_uI, if_neg (by omega), gI_uI, if_neg (by omega), gI_uI, if_neg (by omega)]
        exact h1 c (by omega)) (by rw [gI_uI, if_neg (by omega), gI_uI, if_neg (by omega)]; exact h2)
    refine ⟨C1, g1, g2, g3, g4, fun po hpo => ?_⟩
    rw [wp_X0_clear_7]
    rw [ni, Int.toNat_natCast, show nm 8 = 8 by decide, show ((i : Int) + 1) = ((i + 1 : Nat) : Int) by omega]
    refine ⟨fun z => absurd z (by omega), fun _ => ⟨h12, by omega, ?_⟩⟩
    rintro _ rfl
    refine ⟨by omega, ?_⟩
    rintro _ rfl
    exact g5 po hpo
theorem s69 {D : St} {s p : Nat} {key way c : Int} (hs : s < 12) (hkey : nm key = key) (hc : nm c = c) (h30 : gI D 30 (12 + s) 0 = s) (h31 : 0 ≤ gI D 31 (12 + s) 0 ∧ gI D 31 (12 + s) 0 ≤ 65536) :
    ∃ C', C'.2.1 = D.2.1 ∧ (∀ f a b, ¬ ((31 ≤ f ∧ f ≤ 48) ∧ a = 12 + s) → gI C' f a b = gI D f a b) ∧ (∀ f a b, gL C' f a b = gL D f a b) ∧ (∀ f a b, gR C' f a b = if f = 3 ∧ a = 0 ∧ b = s then some (12 + s) else gR D f a b) ∧
      gI C' 33 (12 + s) 0 = (s : Int) + 12 * gI D 31 (12 + s) 0 ∧ gI C' 31 (12 + s) 0 = gI D 31 (12 + s) 0 + 1 ∧ gI C' 32 (12 + s) 0 = 1 ∧ gI C' 34 (12 + s) 0 = key ∧ gI C' 35 (12 + s) 0 = gI D 11 p 0 ∧ gI C' 36 (12 + s) 0 = gI D 12 p 0 ∧ gI C' 37 (12 + s) 0 = gI D 11 p 0 ∧ gI C' 38 (12 + s) 0 = gI D 12 p 0 ∧ gI C' 39 (12 + s) 0 = zand way 511 ∧ gI C' 45 (12 + s) 0 = c ∧ (∀ x, x < 8 → gI C' 46 (12 + s) x = 0 ∧ gI C' 47 (12 + s) x = -1) ∧ (∀ b, b < 128 → gI C' 48 (12 + s) b = 0) ∧
      ∀ po : Int → St → Prop, po ((s : Int) + 12 * gI D 31 (12 + s) 0) C' → wp_X7_makeSet_69 po (some p) key c way (s : Int) (some (12 + s)) D := by
  have ns : nm (s : Int) = s := nm_nat (n := 12) hs (by omega)
  have h12 : 12 ≤ 12 + s := by omega
  have eD : ∀ f a b, gI (uR D 3 0 s (some (12 + s))) f a b = gI D f a b := fun _ _ _ => rfl
  obtain ⟨C1, x, v33, v31, v32, v34, v35, v36, v37, v38, v39, run⟩ := sp_begin (D := uR D 3 0 s (some (12 + s))) (t := 12 + s) (p := p) (key := key) (md := zand way 511) hkey (nm_zand _ _) (by rw [eD, eD, h30]; exact nm_id (by omega)) (by rw [eD]; exact nm_id (by omega))
  simp only [eD] at v33 v31 v35 v36 v37 v38 run
  rw [h30] at v33
  obtain ⟨C2, y, w45, w46, w48, run2⟩ := clear7 (D := uI C1 45 (12 + s) 0 c) h12 8 0 _ (by omega) XI.rf (fun b hb => absurd hb (by omega)) rfl
  have xy : XI (fun f a _ => (31 ≤ f ∧ f ≤ 48) ∧ a = 12 + s) (uR D 3 0 s (some (12 + s))) C2 := ((x.mono (by unfold Lbg; omega)).uI (f := 45) (a := 12 + s) (b := 0) c ⟨⟨by decide, by decide⟩, rfl⟩).tr (y.mono (by unfold L45; omega))
  have e : ∀ f, f < 45 → gI C2 f (12 + s) 0 = gI C1 f (12 + s) 0 := fun f hf => by rw [y.2.1 f _ _ (by unfold L45; omega), gI_uI, if_neg (by omega)]
  refine ⟨C2, xy.1, fun f a b hf => by rw [xy.2.1 f a b hf]; rfl, fun f a b => by rw [xy.2.2.1]; rfl, fun f a b => by rw [xy.2.2.2]; rfl, ?_, ?_, ?_, ?_, ?_, ?_, ?_, ?_, ?_, ?_, w46, w48, fun po hpo => ?_⟩
  · rw [e 33 (by decide)]; exact v33
  · rw [e 31 (by decide)]; exact v31
  · rw [e 32 (by decide)]; exact v32
  · rw [e 34 (by decide)]; exact v34
  · rw [e 35 (by decide)]; exact v35
  · rw [e 36 (by decide)]; exact v36
  · rw [e 37 (by decide)]; exact v37
  · rw [e 38 (by decide)]; exact v38
  · rw [e 39 (by decide)]; exact v39
  · rw [w45, gI_uI, if_pos ⟨rfl, rfl, rfl⟩, hc]
  · unfold wp_X7_makeSet_69
    rw [ns, Int.toNat_natCast]
    refine ⟨by omega, ?_⟩
    rintro _ rfl
    refine ⟨12 + s, rfl, h12, run _ ?_⟩
    unfold wp_X0_clear
    refine ⟨h12, ?_⟩
    rintro _ rfl
    refine ⟨9, run2 _ ?_⟩
    rw [e 33 (by decide), v33]
    exact hpo
theorem gI_mkCounterSet (C : St) (s : Nat) (ad : Nat → Nat) (hs : s < 12) (f a b : Nat) : gI (mkCounterSet C (s : Int) ad) f a b = if f = 30 ∧ a = 12 + s ∧ b = 0 then (s : Int) else if 30 ≤ f ∧ f ≤ 51 ∧ a = 12 + s then 0 else gI C f a b := by
  have ns : nm (s : Int) = s := nm_nat (n := 12) hs (by omega)
  unfold gI mkCounterSet
  rw [ns, Int.toNat_natCast]
  dsimp only
  split
  · exact ns
  · split
    · decide
    · rfl
theorem gR_mkCounterSet (C : St) (s : Nat) (ad : Nat → Nat) (f a b : Nat) : gR (mkCounterSet C (s : Int) ad) f a b = gR C f a b := rfl
theorem tg_mkCounterSet (C : St) (s : Nat) (ad : Nat → Nat) (hs : s < 12) : (mkCounterSet C (s : Int) ad).2.1 = C.2.1 ++ tgSet (12 + s) := by
  have ns : nm (s : Int) = s := nm_nat (n := 12) hs (by omega)
  unfold mkCounterSet
  rw [ns, Int.toNat_natCast]
def L41b (k : Nat) : Nat → Nat → Nat → Prop := fun f a b => f = 110 ∧ a = 41 ∧ b % 96 = k
theorem set277 {N : St} {p t s c : Nat} (hs : s < 12) (hc : c < 8) : ∃ σ', XI (L41b (8 * s + c)) N σ' ∧ (∀ q, q < 16 → gI σ' 110 41 (96 * q + (8 * s + c)) = 0) ∧ ∀ (po : Int → St → Prop) (X : Int → Int → Int → Int → St → Prop), X (p : Int) (t : Int) (s : Int) ((c + 1 : Nat) : Int) σ' → ∃ n9, wp_X8_set_277 po X n9 (p : Int) (t : Int) (s : Int) (c : Int) 0 N := by
  have loop : ∀ (m i : Nat) (σ : St), i + m = 16 → XI (L41b (8 * s + c)) N σ → (∀ q, q < i → gI σ 110 41 (96 * q + (8 * s + c)) = 0) → ∃ σ', XI (L41b (8 * s + c)) N σ' ∧ (∀ q, q < 16 → gI σ' 110 41 (96 * q + (8 * s + c)) = 0) ∧ ∀ (po : Int → St → Prop) (X : Int → Int → Int → Int → St → Prop), X (p : Int) (t : Int) (s : Int) ((c + 1 : Nat) : Int) σ' → wp_X8_set_277 po X (m + 1) (p : Int) (t : Int) (s : Int) (c : Int) (i : Int) σ := by
    intro m
    induction m with
    | zero =>
      intro i σ hi hx h1
      have e : i = 16 := by omega
      subst e
      refine ⟨σ, hx, h1, fun po X hX => ?_⟩
      unfold wp_X8_set_277
      exact ⟨fun _ => hX, fun z => absurd z (by decide)⟩
    | succ m ih =>
      intro i σ hi hx h1
      have ni : nm (i : Int) = i := nm_nat (n := 17) (by omega) (by omega)
      have ek : nm (96 * (i : Int) + 8 * (s : Int) + c) = ((96 * i + (8 * s + c) : Nat) : Int) := by rw [nm_id (by omega)]; omega
      obtain ⟨σ', g1, g2, g3⟩ := ih (i + 1) (uI σ 110 41 (96 * i + (8 * s + c)) 0) (by omega) (hx.uI _ (by unfold L41b; omega)) (fun q hq => by
        rw [gI_uI]
        by_cases z : q = i
        · subst z; rw [if_pos ⟨rfl, rfl, rfl⟩, n0]
        · rw [if_neg (by omega)]; exact h1 q (by omega))
      refine ⟨σ', g1, g2, fun po X hX => ?_⟩
      rw [wp_X8_set_277]
      rw [ni, ek, Int.toNat_natCast, show nm 16 = 16 by decide, show ((i : Int) + 1) = ((i + 1 : Nat) : Int) by omega]
      refine ⟨fun z => absurd z (by omega), fun _ => ⟨by omega, ?_⟩⟩
      rintro _ rfl
      exact g3 po X hX
  obtain ⟨σ', g1, g2, g3⟩ := loop 16 0 N (by omega) XI.rf (fun q hq => absurd hq (by omega))
  exact ⟨σ', g1, g2, fun po X hX => ⟨17, g3 po X hX⟩⟩
def L3x (s : Nat) : Nat → Nat → Nat → Prop := fun f a b => f = 110 ∧ (((a = 39 ∨ a = 40) ∧ 8 * s ≤ b ∧ b < 8 * s + 8) ∨ (a = 41 ∧ 8 * s ≤ b % 96 ∧ b % 96 < 8 * s + 8))
theorem set239 {N : St} {p s : Nat} (hp : p < 16) (hs : s < 12) : ∀ (m c : Nat) (σ : St), c + m = 8 → XI (L3x s) N σ → (∀ x, x < c → gI σ 110 39 (8 * s + x) = 0 ∧ gI σ 110 40 (8 * s + x) = -1 ∧ ∀ q, q < 16 → gI σ 110 41 (96 * q + (8 * s + x)) = 0) →
    ∃ σ', XI (L3x s) N σ' ∧ (∀ x, x < 8 → gI σ' 110 39 (8 * s + x) = 0 ∧ gI σ' 110 40 (8 * s + x) = -1 ∧ ∀ q, q < 16 → gI σ' 110 41 (96 * q + (8 * s + x)) = 0) ∧ ∀ po : Int → St → Prop, po ((s : Int) + 12 * gI N 110 25 (12 + s)) (uI σ' 110 4 p ((s : Int) + 12 * gI N 110 25 (12 + s))) → wp_X8_set_239 po (m + 1) (p : Int) ((12 + s : Nat) : Int) (s : Int) (c : Int) σ := by
  intro m
  induction m with
  | zero =>
    intro c σ hc hx h1
    have e : c = 8 := by omega
    subst e
    refine ⟨σ, hx, h1, fun po hpo => ?_⟩
    unfold wp_X8_set_239
    refine ⟨fun _ => sp_idOf (by omega) (sp_tells hp ?_), fun z => absurd z (by decide)⟩
    rw [hx.2.1 110 25 _ (by unfold L3x; omega), show (12 + s) % 12 = s by omega]
    exact hpo
  | succ m ih =>
    intro c σ hc hx h1
    have nc : nm (c : Int) = c := nm_nat (n := 9) (by omega) (by omega)
    have ek : nm (8 * (s : Int) + c) = ((8 * s + c : Nat) : Int) := by rw [nm_id (by omega)]; omega
    obtain ⟨σ1, x1, z1, run1⟩ := set277 (N := uI (uI σ 110 39 (8 * s + c) 0) 110 40 (8 * s + c) (-1)) (p := p) (t := 12 + s) hs (show c < 8 by omega)
    obtain ⟨σ', g1, g2, g3⟩ := ih (c + 1) σ1 (by omega) (((hx.uI _ (by unfold L3x; omega)).uI _ (by unfold L3x; omega)).tr (x1.mono (by unfold L41b L3x; omega))) (fun x hxx => by
      rw [x1.2.1 110 39 _ (by unfold L41b; omega), x1.2.1 110 40 _ (by unfold L41b; omega)]
      by_cases z : x = c
      · subst z
        exact ⟨by rw [gI_uI, if_neg (by omega), gI_uI, if_pos ⟨rfl, rfl, rfl⟩, n0], by rw [gI_uI, if_pos ⟨rfl, rfl, rfl⟩, nm_m1], z1⟩
      · obtain ⟨q1, q2, q3⟩ := h1 x (by omega)
        refine ⟨by rw [gI_uI, if_neg (by omega), gI_uI, if_neg (by omega)]; exact q1, by rw [gI_uI, if_neg (by omega), gI_uI, if_neg (by omega)]; exact q2, fun q hq => ?_⟩
        rw [x1.2.1 110 41 _ (by unfold L41b; omega), gI_uI, if_neg (by omega), gI_uI, if_neg (by omega)]
        exact q3 q hq)
    refine ⟨σ', g1, g2, fun po hpo => ?_⟩
    rw [wp_X8_set_239]
    rw [nc, ek, Int.toNat_natCast, show nm 8 = 8 by decide]
    refine ⟨fun z => absurd z (by omega), fun _ => ⟨by omega, ?_⟩⟩
    rintro _ rfl
    refine ⟨by omega, ?_⟩
    rintro _ rfl
    exact run1 po _ (g3 po hpo)
theorem s177 {M : St} {s p : Nat} {key way c : Int} (hp : p < 16) (hkey : nm key = key) (hc : nm c = c) (hc0 : c ≠ 0) (hL : Least (fun x => gI M 110 24 (12 + x) = 0) s) :
    ∃ M', XI (Lop (12 + s)) M M' ∧ gI M' 110 24 (12 + s) = 1 ∧ gI M' 110 26 (12 + s) = key ∧ gI M' 110 27 (12 + s) = gI M 110 1 p ∧ gI M' 110 28 (12 + s) = gI M 110 2 p ∧ gI M' 110 29 (12 + s) = gI M 110 1 p ∧ gI M' 110 30 (12 + s) = gI M 110 2 p ∧ gI M' 110 31 (12 + s) = zand way 511 ∧ gI M' 110 38 s = c ∧ (∀ x, x < 8 → gI M' 110 39 (8 * s + x) = 0 ∧ gI M' 110 40 (8 * s + x) = -1 ∧ ∀ q, q < 16 → gI M' 110 41 (96 * q + (8 * s + x)) = 0) ∧
      ∀ po : Int → St → Prop, po ((s : Int) + 12 * gI M 110 25 (12 + s)) (uI M' 110 4 p ((s : Int) + 12 * gI M 110 25 (12 + s))) → wp_X8_set_177 po (p : Int) key c way M := by
  have hs : s < 12 := hL.1
  have ns : nm (s : Int) = s := nm_nat (n := 12) hs (by omega)
  have nt : nm ((12 + s : Nat) : Int) = ((12 + s : Nat) : Int) := nm_nat (n := 24) (by omega) (by omega)
  obtain ⟨M1, x, v24, v26, v27, v28, v29, v30, v31, run⟩ := sp_make (M := M) (t := 12 + s) (p := p) (key := key) (way := way) hp (by omega) hkey
  obtain ⟨M2, y, w, run2⟩ := set239 (N := uI M1 110 38 s c) hp hs 8 0 _ (by omega) XI.rf (fun x hx => absurd hx (by omega))
  have xx : XI (Lop (12 + s)) M M2 := ((x.mono (by unfold LmkM Lop; omega)).uI _ (by unfold Lop; omega)).tr (y.mono (by unfold L3x Lop; omega))
  have e : ∀ a, 24 ≤ a → a ≤ 31 → gI M2 110 a (12 + s) = gI M1 110 a (12 + s) := fun a h1 h2 => by rw [y.2.1 110 a _ (by unfold L3x; omega), gI_uI, if_neg (by omega)]
  have e25 : gI (uI M1 110 38 s c) 110 25 (12 + s) = gI M 110 25 (12 + s) := by rw [gI_uI, if_neg (by omega), x.2.1 110 25 _ (by unfold LmkM; omega)]
  rw [e25] at run2
  refine ⟨M2, xx, by rw [e 24 (by decide) (by decide)]; exact v24, by rw [e 26 (by decide) (by decide)]; exact v26, by rw [e 27 (by decide) (by decide)]; exact v27, by rw [e 28 (by decide) (by decide)]; exact v28, by rw [e 29 (by decide) (by decide)]; exact v29, by rw [e 30 (by decide) (by decide)]; exact v30, by rw [e 31 (by decide) (by decide)]; exact v31, by rw [y.2.1 110 38 _ (by unfold L3x; omega), gI_uI, if_pos ⟨rfl, rfl, rfl⟩, hc], w, fun po hpo => ?_⟩
  unfold wp_X8_set_177
  rw [hc]
  refine ⟨fun _ => sp_freeM (b := 12) (Or.inr rfl) (fun s' hL' => ?_) (fun z => absurd hL.2.1 (z s hs)), fun z => absurd z hc0⟩
  have es : s' = s := least_uniq hL' hL (fun x _ => Iff.rfl)
  subst es
  refine ⟨fun _ => run _ ?_, fun z => absurd z (by rw [nt, nm_m1]; omega)⟩
  rw [show (((12 + s' : Nat) : Int) - 12) = (s' : Int) by omega, ns, Int.toNat_natCast]
  refine ⟨by omega, ?_⟩
  rintro _ rfl
  exact ⟨9, run2 po hpo⟩
