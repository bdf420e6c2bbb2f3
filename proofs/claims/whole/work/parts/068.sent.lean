/-! LAYER 2: a message that is sent: handed over, put at the end, or neither -/
theorem waiter_mono_57 {po po' : Int → St → Prop} {X X' : Int → Int → Int → Int → Int → St → Prop} (hX : ∀ a b c d f s, X a b c d f s → X' a b c d f s) {x1 x2 x3 x4 x5 y : Int} {M : St} (h : wp_X8_waiter_57 po X x1 x2 x3 x4 x5 y M) : wp_X8_waiter_57 po' X' x1 x2 x3 x4 x5 y M := by
  unfold wp_X8_waiter_57 at h ⊢
  refine ⟨fun z => hX _ _ _ _ _ _ (h.1 z), fun z => ⟨fun z2 => hX _ _ _ _ _ _ ((h.2 z).1 z2), fun z2 => ?_⟩⟩
  obtain ⟨a1, a2, a3, a4⟩ := (h.2 z).2 z2
  exact ⟨a1, a2, fun z3 => hX _ _ _ _ _ _ (a3 z3), fun z3 => hX _ _ _ _ _ _ (a4 z3)⟩
theorem waiter_mono_6 {po po' : Int → St → Prop} (hp : ∀ b s, po b s → po' b s) : ∀ (n : Nat) (x1 x2 x3 x4 x5 : Int) (M : St), wp_X8_waiter_6 po n x1 x2 x3 x4 x5 M → wp_X8_waiter_6 po' n x1 x2 x3 x4 x5 M := by
  intro n
  induction n with
  | zero => intro x1 x2 x3 x4 x5 M h; exact h
  | succ n ih =>
    intro x1 x2 x3 x4 x5 M h
    have m : ∀ {a b c d f y : Int} {s : St}, wp_X8_waiter_57 po (fun x1 x2 x3 x4 x5 s9 => wp_X8_waiter_6 po n x1 x2 x3 x4 x5 s9) a b c d f y s → wp_X8_waiter_57 po' (fun x1 x2 x3 x4 x5 s9 => wp_X8_waiter_6 po' n x1 x2 x3 x4 x5 s9) a b c d f y s := fun h => waiter_mono_57 (fun a b c d f s hs => ih a b c d f s hs) h
    unfold wp_X8_waiter_6 at h ⊢
    refine ⟨fun z => hp _ _ (h.1 z), fun z => ?_⟩
    obtain ⟨a1, a2, a3⟩ := h.2 z
    refine ⟨a1, fun z => m (a2 z), fun z => ⟨fun z2 => ?_, fun z2 => ?_⟩⟩
    · obtain ⟨b1, b2, b3⟩ := (a3 z).1 z2
      exact ⟨b1, fun z => m (b2 z), fun z => m (b3 z)⟩
    · obtain ⟨b1, b2, b3⟩ := (a3 z).2 z2
      refine ⟨b1, fun z => m (b2 z), fun z3 => ?_⟩
      obtain ⟨c1, c2, c3⟩ := b3 z3
      exact ⟨c1, fun z => m (c2 z), fun z => m (c3 z)⟩
theorem waiter_mono {po po' : Int → St → Prop} (hp : ∀ b s, po b s → po' b s) {x1 x2 x3 : Int} {M : St} (h : wp_X8_waiter x1 x2 x3 M po) : wp_X8_waiter x1 x2 x3 M po' := by
  unfold wp_X8_waiter at h ⊢
  obtain ⟨n, h⟩ := h
  exact ⟨n, waiter_mono_6 hp n _ _ _ _ _ _ h⟩
theorem sumC_ag {C C' : St} (h2 : ∀ a b, gR C' 2 a b = gR C 2 a b) (h32 : ∀ a b, gI C' 32 a b = gI C 32 a b) (h41 : ∀ a b, gI C' 41 a b = gI C 41 a b) : ∀ i, sumC C' i = sumC C i := by
  intro i
  induction i with
  | zero => rfl
  | succ i ih => unfold sumC; rw [ih, h2, h32, h41]
theorem fit_hf {C C' : St} (h : HFC C C') (s : Nat) (x : Int) : fitC C' s x ↔ fitC C s x := by
  unfold fitC
  rw [sumC_ag (h.1.2.2.2 2 (by decide)) (h.1.2.1 32 (by decide)) (h.1.2.1 41 (by decide)), h.1.2.1 40 (by decide), h.1.2.1 41 (by decide), h.1.2.1 42 (by decide)]
theorem hre_hf {C C' : St} (h : HFC C C') (t : Nat) : hre C' t ↔ hre C t := hre_ag (h.1.2.2.2 2 (by decide)) (h.1.2.2.2 3 (by decide)) (h.1.2.1 32 (by decide)) t
theorem MEq.app (C : St) (s u v i m : Nat) : MEq C (appC C s u v i m) := (((((MEq.rf.uL _ _ _ _ (by decide)).uI _ _ _ _ (by decide)).cp _ _ _ _ _ _ _ (by decide)).uR _ _ _ _).uI _ _ _ _ (by decide)).uI _ _ _ _ (by decide)
theorem CEq.app (M : St) (s p i : Nat) (ty sz : Int) (m : Nat) : CEq M (appM M s p i ty sz m) := (((((CEq.rf.uL _ _ _ _ (by decide)).uI _ _ _ _ (by decide)).cp _ _ _ _ _ _ _ (by decide)).uI _ _ _ _ (by decide)).uI _ _ _ _ (by decide))
theorem MEq.mk {C : St} {v : Nat} {C0 : St} {s i : Nat} (h : spareS C s i v C0) : MEq C C0 := by
  rcases h with ⟨-, rfl⟩ | ⟨-, -, -, -, q1, q2, rfl⟩
  · exact MEq.rf
  · refine ⟨fun f a b hf => ?_, fun f a b hf => ?_⟩
    · rw [gI_mkMsg, if_neg (by omega)]
    · rw [gL_mkMsg, if_neg (by omega)]
def sMI : List Nat := [1, 2, 3, 8, 9, 11, 12, 13, 14, 16, 17, 18, 19, 20, 21, 22, 23, 24, 25, 26, 27, 28, 29, 30, 31, 33, 38, 39, 40, 41]
theorem AgM.app (M : St) (s p i : Nat) (ty sz : Int) (m : Nat) : AgM sMI [10] M (appM M s p i ty sz m) := (((((AgM.rf.uL _ _ (by decide)).uI _ _ (by decide)).cp _ _ _ _ _ (by decide)).uI _ _ (by decide)).uI _ _ (by decide))
def sentQ (k n : Nat) (ls : List Nat) (e e2 : Option Nat) (C : St) (s sp : Nat) (ty : Int) (m : Nat) (b : Int) (ls' : List Nat) (C' : St) : Prop :=
  ∀ o M, SimB k n ls e e2 C (gv o M) → gvo o M → msgM C M (2 * sp) sp ty m → gL M 110 10 sp = ty → gI M 110 11 sp = m → ∃ M', AgM sMI [10] M M' ∧ CEq M M' ∧ (∀ q, q ∉ ls → gI M' 110 4 q = gI M 110 4 q) ∧ gvo o M' ∧ SimB k n ls' e e2 C' (gv o M') ∧ ∀ po : Int → St → Prop, po b M' → wp_X8_isSent (s : Int) (sp : Int) M po
theorem sent {k n : Nat} {ls : List Nat} {e e2 : Option Nat} {C M0 : St} {s sp c m : Nat} {ty : Int} (h : SimB k n ls e e2 C M0) (hs : s < 12) (hsp : sp < 16) (hh : hre C s) (hc : gI C 40 s 0 = c) (hty : 1 ≤ ty ∧ nmL ty = ty) (hm : m ≤ 64) (hmc : msgC C (2 * sp) ty m) (hmm0 : msgM C M0 (2 * sp) sp ty m) :
    ∃ (b : Int) (C1 : St) (ls1 : List Nat), (b = 1 ∨ b = 0) ∧ (∀ po, po b C1 → wp_X7_handToTaker (some s) (some (2 * sp)) C po) ∧ HFC C C1 ∧ ls1.Sublist ls ∧ (∃ M1, SimB k n ls1 e e2 C1 M1) ∧
      (b = 1 → sentQ k n ls e e2 C s sp ty m 1 ls1 C1) ∧ (b = 0 → ¬ fitC C s m → sentQ k n ls e e2 C s sp ty m 0 ls1 C1) ∧ (b = 0 → fitC C s m → ∀ v C0, spareS C1 s c v C0 → sentQ k n ls e e2 C s sp ty m 1 ls1 (appC C0 s (2 * sp) v c m)) := by
  have ns : nm (s : Int) = s := nm_nat (n := 12) hs (by omega)
  have nsp : nm (sp : Int) = sp := nm_nat (n := 16) hsp (by omega)
  have esp : ((sp : Int)).toNat = sp := by omega
  have i16 : (0 : Int) ≤ sp ∧ (sp : Int) < 16 := by omega
  obtain ⟨b, C1, ls1, hb, hr, hf, hsub, hM⟩ := hand_loop (k := k) (n := n) (e := e) (e2 := e2) (u := 2 * sp) hs hsp hty (show 0 ≤ (m : Int) ∧ (m : Int) ≤ 64 by omega) ls [] C M0 16 0 h hmc (by omega) h.2.1.2.2.1
  have turn0 : ∀ o M, SimB k n ls e e2 C (gv o M) → ∀ p ∈ ls, 0 < gI M 110 8 p := fun o M hS p hp => by
    have := (hS.2.2.1.2.2.1 p hp).1
    rw [gI_gv o M p (by decide)] at this
    omega
  -- what the model does, down to the tail
  have mod : ∀ o M, SimB k n ls e e2 C (gv o M) → gvo o M → msgM C M (2 * sp) sp ty m → gL M 110 10 sp = ty → gI M 110 11 sp = m → ∃ M', HFM M M' ∧ (∀ q, q ∉ ls → gI M' 110 4 q = gI M 110 4 q) ∧ gvo o M' ∧ SimB k n ls1 e e2 C1 (gv o M') ∧ ∀ po : Int → St → Prop, (b = 1 → po 1 M') → (b = 0 → wp_X8_isSent_24 po 1 (s : Int) (sp : Int) ty m (-1) M') → wp_X8_isSent (s : Int) (sp : Int) M po := by
    intro o M hS hgo hmm h10 h11
    obtain ⟨M', hfm, h4, hgo', hs', hpo⟩ := hM o M 0 hS hgo hmm (fun p hp => by cases hp) (turn0 o M hS) n0
    refine ⟨M', hfm, by simpa using h4, hgo', hs', fun po h1 h0 => ?_⟩
    obtain ⟨nf, hnf⟩ := hpo po h1 h0
    unfold wp_X8_isSent
    rw [nsp, esp, h10, h11]
    exact ⟨i16, i16, waiter_mono (fun b s hq => ⟨nf, hq⟩) hnf⟩
  have weak : ∀ {M M' : St}, HFM M M' → AgM sMI [10] M M' := fun h => h.1.sub (by decide) (by decide)
  refine ⟨b, C1, ls1, hb, fun po hpo => ⟨17, by have := hr po hpo; simpa using this⟩, hf, hsub, ?_, fun hb1 o M hS hgo hmm h10 h11 => ?_, fun hb0 hnf o M hS hgo hmm h10 h11 => ?_, fun hb0 hfit v C0 hspare o M hS hgo hmm h10 h11 => ?_⟩
  · have t0 := turn0 none M0 h
    obtain ⟨M', -, -, -, hs', -⟩ := hM none M0 0 h (fun p z => by cases z) hmm0 (fun p hp => by cases hp) t0 n0
    exact ⟨M', hs'⟩
  · obtain ⟨M', hfm, h4, hgo', hs', hpo⟩ := mod o M hS hgo hmm h10 h11
    exact ⟨M', weak hfm, hfm.2, h4, hgo', hs', fun po h1 => hpo po (fun _ => h1) (fun z => by omega)⟩
  · obtain ⟨M', hfm, h4, hgo', hs', hpo⟩ := mod o M hS hgo hmm h10 h11
    refine ⟨M', weak hfm, hfm.2, h4, hgo', hs', fun po h1 => hpo po (fun z => by omega) (fun _ => ?_)⟩
    exact sp_tail hs' hs hsp ((hre_hf hf s).mpr hh) (by rw [hf.1.2.1 40 (by decide)]; exact hc) hm (fun z => absurd ((fit_hf hf _ _).mp z) hnf) (fun _ => h1)
  · obtain ⟨M', hfm, h4, hgo', hs', hpo⟩ := mod o M hS hgo hmm h10 h11
    have hmc1 := hmc.hf hf
    have hmm1 := hmm.hf hf hfm
    refine ⟨appM M' s sp c ty m m, (weak hfm).tr (AgM.app _ _ _ _ _ _ _), hfm.2.tr (CEq.app _ _ _ _ _ _ _), fun q hq => (by rw [gI_appM, if_neg (by omega), if_neg (by omega), if_neg (by omega), if_neg (by omega)]; exact h4 q hq), fun p hp => ?_, ?_, fun po h1 => hpo po (fun z => by omega) (fun _ => ?_)⟩
    · rw [gI_appM, if_neg (by omega), if_neg (by omega), if_neg (by omega), if_neg (by omega)]
      exact hgo' p hp
    · rw [gv_app]
      refine hs'.append hs ((hre_hf hf s).mpr hh) (by rw [hf.1.2.1 40 (by decide)]; exact hc) ?_ hspare (by omega) ⟨hmc1.1, hty.1⟩ hmc1.2 hm (fun j hj => by rw [gI_gv o M' _ (by decide)]; exact hmm1 j hj)
      have := hfit.2.1
      omega
    · exact sp_tail hs' hs hsp ((hre_hf hf s).mpr hh) (by rw [hf.1.2.1 40 (by decide)]; exact hc) hm (fun _ => h1) (fun z => absurd ((fit_hf hf _ _).mpr hfit) z)
