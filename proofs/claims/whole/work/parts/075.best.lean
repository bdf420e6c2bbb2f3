/-! LAYER 2: the message that is wanted -/
def bst (W : Nat → Prop) (T : Nat → Int) (neg : Prop) (lo hi : Nat) (b : Int) : Prop := (b = -1 ∧ ∀ i, lo ≤ i → i < hi → ¬ W i) ∨ ∃ j : Nat, lo ≤ j ∧ j < hi ∧ b = j ∧ W j ∧ ∀ i, lo ≤ i → i < hi → W i → (¬ neg ∧ j ≤ i) ∨ (neg ∧ (T j < T i ∨ (T j = T i ∧ j ≤ i)))
theorem bst_uniq {W : Nat → Prop} {T : Nat → Int} {neg : Prop} {lo hi : Nat} {b b' : Int} (h : bst W T neg lo hi b) (h' : bst W T neg lo hi b') : b = b' := by
  rcases h with ⟨h1, h2⟩ | ⟨j, j1, j2, j3, j4, j5⟩
  · rcases h' with ⟨g1, g2⟩ | ⟨i, i1, i2, i3, i4, i5⟩
    · rw [h1, g1]
    · exact absurd i4 (h2 i i1 i2)
  · rcases h' with ⟨g1, g2⟩ | ⟨i, i1, i2, i3, i4, i5⟩
    · exact absurd j4 (g2 j j1 j2)
    · rcases j5 i i1 i2 i4 with ⟨z1, z2⟩ | ⟨z1, z2⟩ <;> rcases i5 j j1 j2 j4 with ⟨y1, y2⟩ | ⟨y1, y2⟩
      · omega
      · exact absurd y1 z1
      · exact absurd z1 y1
      · omega
theorem bst_up_no {W : Nat → Prop} {T : Nat → Int} {neg : Prop} {lo hi : Nat} {b : Int} (h : bst W T neg lo hi b) (hn : ¬ W hi) : bst W T neg lo (hi + 1) b := by
  have up : ∀ i, i < hi + 1 → W i → i < hi := fun i hi' hw => by
    rcases Nat.lt_or_ge i hi with z | z
    · exact z
    · rw [show i = hi by omega] at hw; exact absurd hw hn
  rcases h with ⟨h1, h2⟩ | ⟨j, j1, j2, j3, j4, j5⟩
  · exact Or.inl ⟨h1, fun i i1 i2 hw => h2 i i1 (up i i2 hw) hw⟩
  · exact Or.inr ⟨j, j1, by omega, j3, j4, fun i i1 i2 hw => j5 i i1 (up i i2 hw) hw⟩
theorem bst_up_first {W : Nat → Prop} {T : Nat → Int} {neg : Prop} {lo hi : Nat} (h : bst W T neg lo hi (-1)) (hl : lo ≤ hi) (hw : W hi) : bst W T neg lo (hi + 1) (hi : Int) := by
  rcases h with ⟨h1, h2⟩ | ⟨j, j1, j2, j3, j4, j5⟩
  · refine Or.inr ⟨hi, hl, by omega, rfl, hw, fun i i1 i2 hw' => ?_⟩
    rcases Nat.lt_or_ge i hi with z | z
    · exact absurd hw' (h2 i i1 z)
    · rw [show i = hi by omega]
      rcases Classical.em neg with y | y
      · exact Or.inr ⟨y, Or.inr ⟨rfl, Nat.le_refl _⟩⟩
      · exact Or.inl ⟨y, Nat.le_refl _⟩
  · omega
theorem bst_up_keep {W : Nat → Prop} {T : Nat → Int} {neg : Prop} {lo hi j : Nat} (h : bst W T neg lo hi (j : Int)) (hk : ¬ neg ∨ (neg ∧ T j ≤ T hi)) : bst W T neg lo (hi + 1) (j : Int) := by
  rcases h with ⟨h1, h2⟩ | ⟨j', j1, j2, j3, j4, j5⟩
  · omega
  · have e : j' = j := by omega
    subst e
    refine Or.inr ⟨j', j1, by omega, rfl, j4, fun i i1 i2 hw' => ?_⟩
    rcases Nat.lt_or_ge i hi with z | z
    · exact j5 i i1 z hw'
    · rw [show i = hi by omega]
      rcases hk with y | ⟨y, y2⟩
      · exact Or.inl ⟨y, by omega⟩
      · refine Or.inr ⟨y, ?_⟩
        omega
theorem bst_up_new {W : Nat → Prop} {T : Nat → Int} {neg : Prop} {lo hi j : Nat} (h : bst W T neg lo hi (j : Int)) (hw : W hi) (hn : neg) (hk : T hi < T j) : bst W T neg lo (hi + 1) (hi : Int) := by
  rcases h with ⟨h1, h2⟩ | ⟨j', j1, j2, j3, j4, j5⟩
  · omega
  · have e : j' = j := by omega
    subst e
    refine Or.inr ⟨hi, by omega, by omega, rfl, hw, fun i i1 i2 hw' => Or.inr ⟨hn, ?_⟩⟩
    rcases Nat.lt_or_ge i hi with z | z
    · rcases j5 i i1 z hw' with ⟨y, -⟩ | ⟨-, y⟩
      · exact absurd hn y
      · omega
    · rw [show i = hi by omega]; omega
theorem bst_dn_no {W : Nat → Prop} {T : Nat → Int} {neg : Prop} {lo hi : Nat} {b : Int} (h : bst W T neg (lo + 1) hi b) (hn : ¬ W lo) : bst W T neg lo hi b := by
  have up : ∀ i, lo ≤ i → W i → lo + 1 ≤ i := fun i hi' hw => by
    rcases Nat.lt_or_ge lo i with z | z
    · exact z
    · rw [show i = lo by omega] at hw; exact absurd hw hn
  rcases h with ⟨h1, h2⟩ | ⟨j, j1, j2, j3, j4, j5⟩
  · exact Or.inl ⟨h1, fun i i1 i2 hw => h2 i (up i i1 hw) i2 hw⟩
  · exact Or.inr ⟨j, by omega, j2, j3, j4, fun i i1 i2 hw => j5 i (up i i1 hw) i2 hw⟩
theorem bst_dn_new {W : Nat → Prop} {T : Nat → Int} {neg : Prop} {lo hi : Nat} {b : Int} (h : bst W T neg (lo + 1) hi b) (hw : W lo) (hl : lo < hi) (hk : ¬ neg ∨ (neg ∧ ∀ j : Nat, b = j → T lo ≤ T j)) : bst W T neg lo hi (lo : Int) := by
  refine Or.inr ⟨lo, Nat.le_refl _, hl, rfl, hw, fun i i1 i2 hw' => ?_⟩
  rcases hk with y | ⟨y, y2⟩
  · exact Or.inl ⟨y, i1⟩
  · refine Or.inr ⟨y, ?_⟩
    rcases Nat.lt_or_ge lo i with z | z
    · rcases h with ⟨h1, h2⟩ | ⟨j, j1, j2, j3, j4, j5⟩
      · exact absurd hw' (h2 i z i2)
      · have := y2 j j3
        rcases j5 i z i2 hw' with ⟨x, -⟩ | ⟨-, x⟩
        · exact absurd y x
        · omega
    · rw [show i = lo by omega]; omega
theorem bst_dn_keep {W : Nat → Prop} {T : Nat → Int} {neg : Prop} {lo hi j : Nat} (h : bst W T neg (lo + 1) hi (j : Int)) (hn : neg) (hk : T j < T lo) : bst W T neg lo hi (j : Int) := by
  rcases h with ⟨h1, h2⟩ | ⟨j', j1, j2, j3, j4, j5⟩
  · omega
  · have e : j' = j := by omega
    subst e
    refine Or.inr ⟨j', by omega, j2, rfl, j4, fun i i1 i2 hw' => ?_⟩
    rcases Nat.lt_or_ge lo i with z | z
    · exact j5 i z i2 hw'
    · rw [show i = lo by omega]; exact Or.inr ⟨hn, Or.inl hk⟩
/-- the types in a row -/
def tyQ (C : St) (s i : Nat) : Int := match gR C 11 s i with | some u => gL C 11 u 0 | none => 0
theorem sp_place {C : St} {s p c : Nat} {po : Int → St → Prop} (hs : s < 12) (hc : gI C 40 s 0 = c) (hc40 : c ≤ 40) (hrow : ∀ i, i < c → ∃ u, gR C 11 s i = some u ∧ 1 ≤ gL C 11 u 0) (ho : gI C 21 p 0 = 0 ∨ gI C 21 p 0 = 1)
    (hpo : ∀ b, bst (fun i => wantN (gL C 12 p 0) (gI C 21 p 0 ≠ 0) (tyQ C s i)) (tyQ C s) (gL C 12 p 0 < 0) 0 c b → po b C) :
    ∀ m i : Nat, i + m = c → ∀ b x3 : Int, bst (fun i => wantN (gL C 12 p 0) (gI C 21 p 0 ≠ 0) (tyQ C s i)) (tyQ C s) (gL C 12 p 0 < 0) 0 i b → (∀ j : Nat, b = j → x3 = tyQ C s j) → wp_X3_placeOfWanted_7 po (m + 1) s (some p) b x3 (i : Int) C := by
  intro m
  induction m with
  | zero =>
    intro i hi b x3 hb hx
    have e : i = c := by omega
    subst e
    unfold wp_X3_placeOfWanted_7
    rw [nm_gI, hc, nm_nat (n := 41) (by omega) (by omega)]
    exact ⟨hs, fun _ => hpo b hb, fun z => absurd z (by omega)⟩
  | succ m ih =>
    intro i hi b x3 hb hx
    obtain ⟨u, hu, hu1⟩ := hrow i (by omega)
    have eT : tyQ C s i = gL C 11 u 0 := by unfold tyQ; rw [hu]
    have ei : ((i : Int)).toNat = i := by omega
    have ni : nm (i : Int) = i := nm_nat (n := 41) (by omega) (by omega)
    have ih := ih (i + 1) (by omega)
    have e1 : (i : Int) + 1 = ((i + 1 : Nat) : Int) := by omega
    have nb : nm b = b := by
      rcases hb with ⟨rfl, -⟩ | ⟨j, -, j2, rfl, -⟩
      · decide
      · exact nm_nat (n := 41) (by omega) (by omega)
    unfold wp_X3_placeOfWanted_7
    rw [nm_gI, hc, ni]
    refine ⟨hs, fun z => absurd z (by omega), fun _ => ?_⟩
    unfold wp_X3_messageAt
    rw [ni, nm_gI, hc, ei, show nm 40 = 40 by decide]
    refine ⟨fun z => absurd z (by omega), fun _ => ⟨hs, fun z => absurd z (by omega), fun _ => ⟨fun z => absurd z (by omega), fun _ => ⟨by omega, ?_⟩⟩⟩⟩
    rintro _ rfl
    rw [hu]
    refine ⟨fun z => (by cases z), ?_⟩
    rintro _ ⟨rfl⟩
    refine ⟨p, rfl, sp_wants ⟨hu1, nmL_gL _ _ _ _⟩ ho (fun hw => ⟨fun z => absurd z (by decide), fun _ => ?_⟩) (fun hw => ⟨fun _ => ?_, fun z => absurd n0 z⟩)⟩
    · have hw' : wantN (gL C 12 p 0) (gI C 21 p 0 ≠ 0) (tyQ C s i) := by rw [eT]; exact hw
      unfold wp_X3_placeOfWanted_46
      rw [nb, nm_m1, l0, e1]
      simp only [nmL_gL]
      refine ⟨fun z => absurd z (by decide), fun _ => ⟨fun z => ⟨u, rfl, ?_⟩, fun z => ⟨p, rfl, fun z2 => ?_, fun z2 => ⟨u, rfl, fun z3 => ?_, fun z3 => ?_⟩⟩⟩⟩
      · subst z
        exact ih _ _ (bst_up_first hb (Nat.zero_le _) hw') (fun j hj => by rw [show j = i by omega, eT])
      all_goals
        obtain ⟨j, rfl⟩ : ∃ j : Nat, b = j := by
          rcases hb with ⟨y, -⟩ | ⟨j, -, -, y, -⟩
          · exact absurd y z
          · exact ⟨j, y⟩
        have hxj := hx j rfl
      · exact ih _ _ (bst_up_keep hb (Or.inl (by omega))) hx
      · have nx : nmL x3 = x3 := by rw [hxj]; unfold tyQ; split; exact nmL_gL _ _ _ _; exact l0
        rw [nx, hxj, ← eT] at z3
        exact ih _ _ (bst_up_keep hb (Or.inr ⟨z2, z3⟩)) hx
      · have nx : nmL x3 = x3 := by rw [hxj]; unfold tyQ; split; exact nmL_gL _ _ _ _; exact l0
        rw [nx, hxj, ← eT] at z3
        exact ih _ _ (bst_up_new hb hw' z2 z3) (fun j' hj' => by rw [show j' = i by omega, eT])
    · have hw' : ¬ wantN (gL C 12 p 0) (gI C 21 p 0 ≠ 0) (tyQ C s i) := by rw [eT]; exact hw
      unfold wp_X3_placeOfWanted_46
      rw [e1]
      exact ⟨fun _ => ih _ _ (bst_up_no hb hw') hx, fun z => absurd n0 z⟩
def bM (s : Nat) (b : Int) : Int := if b = -1 then -1 else 40 * (s : Int) + b
theorem sp_found {M : St} {s c : Nat} {t way : Int} {T : Nat → Int} {po : Int → St → Prop} (hs : s < 12) (hc40 : c ≤ 40) (ht : nmL t = t) (hT : ∀ i, i < c → gL M 110 35 (40 * s + i) = T i ∧ 1 ≤ T i)
    (hpo : ∀ b, bst (fun i => wantN t (zand way 4 ≠ 0) (T i)) T (t < 0) 0 c b → po (bM s b) M) :
    ∀ i : Nat, i ≤ c → ∀ b : Int, bst (fun i => wantN t (zand way 4 ≠ 0) (T i)) T (t < 0) i c b → wp_X8_found_18 po (i + 1) (s : Int) t way (bM s b) (40 * (s : Int) + i - 1) M := by
  intro i
  induction i with
  | zero =>
    intro hi b hb
    unfold wp_X8_found_18
    rw [nm_id (by omega), nm_id (by omega)]
    exact ⟨fun _ => hpo b hb, fun z => absurd z (by omega)⟩
  | succ i ih =>
    intro hi b hb
    have ih := ih (by omega)
    obtain ⟨hT1, hT2⟩ := hT i (by omega)
    have nT : nmL (T i) = T i := by rw [← hT1]; exact nmL_gL _ _ _ _
    have ex : (40 * (s : Int) + ((i + 1 : Nat) : Int) - 1) = ((40 * s + i : Nat) : Int) := by omega
    have nx : nm ((40 * s + i : Nat) : Int) = ((40 * s + i : Nat) : Int) := nm_id (by omega)
    have et : (((40 * s + i : Nat) : Int)).toNat = 40 * s + i := by omega
    have e2 : ((40 * s + i : Nat) : Int) + (-1) = 40 * (s : Int) + i - 1 := by omega
    have eb : ((40 * s + i : Nat) : Int) = bM s (i : Int) := by unfold bM; rw [if_neg (by omega)]; omega
    unfold wp_X8_found_18
    rw [ex, nx, nm_id (show -2147483648 ≤ 40 * (s : Int) ∧ 40 * (s : Int) < 2147483648 by omega), et, e2, hT1]
    refine ⟨fun z => absurd z (by omega), fun _ => ⟨by omega, sp_wantsM ⟨hT2, nT⟩ ht (fun hw => ⟨fun z => absurd z (by decide), fun _ => ?_⟩) (fun hw => ⟨fun _ => ih _ (bst_dn_no hb hw), fun z => absurd n0 z⟩)⟩⟩
    rw [l0, ht]
    rcases hb with ⟨y, y2⟩ | ⟨j, j1, j2, y, j4, j5⟩
    · have e3 : bM s b = -1 := by unfold bM; rw [if_pos y]
      rw [e3, nm_m1, eb]
      refine ⟨fun _ => ih _ (bst_dn_new (Or.inl ⟨y, y2⟩) hw (by omega) ?_), fun z => absurd z (by decide)⟩
      rcases Classical.em (t < 0) with x | x
      · exact Or.inr ⟨x, fun j hj => by omega⟩
      · exact Or.inl x
    · have hb : bst (fun i => wantN t (zand way 4 ≠ 0) (T i)) T (t < 0) (i + 1) c b := Or.inr ⟨j, j1, j2, y, j4, j5⟩
      have e3 : bM s b = ((40 * s + j : Nat) : Int) := by unfold bM; rw [if_neg (by omega)]; omega
      have n3 : nm ((40 * s + j : Nat) : Int) = ((40 * s + j : Nat) : Int) := nm_id (by omega)
      have e4 : (((40 * s + j : Nat) : Int)).toNat = 40 * s + j := by omega
      obtain ⟨hj1, hj2⟩ := hT j j2
      rw [e3, n3, e4, hT1, hj1, nT, show nmL (T j) = T j by rw [← hj1]; exact nmL_gL _ _ _ _]
      refine ⟨fun z => absurd z (by omega), fun _ => ⟨fun z => ?_, fun z => ⟨by omega, by omega, fun z2 => ?_, fun z2 => ?_⟩⟩⟩
      · rw [eb]; exact ih _ (bst_dn_new hb hw (by omega) (Or.inl (by omega)))
      · rw [← e3]; subst y; exact ih _ (bst_dn_keep hb z z2)
      · rw [eb]; exact ih _ (bst_dn_new hb hw (by omega) (Or.inr ⟨z, fun j' hj' => by rw [show j' = j by omega]; exact z2⟩))
