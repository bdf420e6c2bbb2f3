/-! THE LAW: its start, from the entry to the loop -/
def adL (b : Nat) : Nat → Nat → Nat := fun k _ => match k with
  | 50 => b
  | _ => 0
def adR (b q0 q1 q2 q3 q4 : Nat) : Nat → Nat → Nat := fun k _ => match k with
  | 0 => q0
  | 1 => q1
  | 2 => q2
  | 3 => q3
  | 4 => q4
  | 50 => b
  | _ => 0
def adM (b q0 q1 q2 q3 q4 m0 : Nat) (mq : List Nat) : Nat → Nat → Nat := fun k a => match k with
  | 0 => q0
  | 1 => q1
  | 2 => q2
  | 3 => q3
  | 4 => q4
  | 30 => m0
  | 31 => mq.getD a 0
  | 50 => b
  | _ => 0
def tgR : List (Nat × Nat) := [(0, 0), (1, 0), (2, 0), (3, 0), (4, 0)]
def tgM : List (Nat × Nat) := [(30, 0), (31, 1), (31, 2), (31, 3), (31, 4), (31, 5), (31, 6), (31, 7), (31, 8), (31, 9), (31, 10), (31, 11), (31, 12), (31, 13), (31, 14), (31, 16), (31, 17), (31, 18), (31, 19), (31, 20), (31, 21), (31, 22), (31, 23), (31, 24), (31, 25), (31, 26), (31, 27), (31, 28), (31, 29), (31, 30), (31, 31), (31, 32), (31, 33), (31, 34), (31, 35), (31, 36), (31, 37), (31, 38), (31, 39), (31, 40), (31, 41), (31, 42), (31, 43)]
def sZ (ad : Nat → Nat → Nat) (tg : List (Nat × Nat)) : St := (ad, tg, fun _ _ _ => 0, fun _ _ _ => 0, fun _ _ _ => none)
theorem sZ_sim (ad : Nat → Nat → Nat) : Sim 0 (sZ ad (tgR ++ tgM)) (sZ ad (tgR ++ tgM)) := by
  have hk : ∀ t ∈ (sZ ad (tgR ++ tgM)).2.1, t.1 < 10 ∨ 26 < t.1 := by
    show ∀ t ∈ tgR ++ tgM, t.1 < 10 ∨ 26 < t.1
    decide
  have g : ∀ f a b, gI (sZ ad (tgR ++ tgM)) f a b = 0 := fun _ _ _ => (by decide : (0 : Int32).toInt = 0)
  have l : ∀ f a b, gL (sZ ad (tgR ++ tgM)) f a b = 0 := fun _ _ _ => (by decide : (0 : Int64).toInt = 0)
  have r : ∀ f a b, gR (sZ ad (tgR ++ tgM)) f a b = none := fun _ _ _ => rfl
  generalize sZ ad (tgR ++ tgM) = σ at hk g l r ⊢
  have rt0 : ∀ t, rt σ t = none := by
    intro t
    unfold rt
    rw [r, r]
    split <;> rfl
  have hre0 : ∀ t, ¬ hre σ t := fun t h => by
    have := h.1
    rw [rt0] at this
    cases this
  refine ⟨0, [], ⟨by omega, by rw [g]; rfl, by rw [g]; rfl, fun i => by rw [r, if_neg (by omega)]⟩, ⟨fun i => by rw [r]; rfl, by rw [g]; rfl, by decide, List.nodup_nil, fun p => ⟨fun h => (by cases h), fun h => absurd h.1 (Nat.not_lt_zero p)⟩⟩,
    ⟨by rw [g]; decide, by rw [g]; decide, fun p hp => (by cases hp), List.Pairwise.nil⟩, ?_, ⟨fun s i u h => (by rw [r] at h; cases h), fun s i s2 i2 u h => (by rw [r] at h; cases h)⟩,
    fun p hp => absurd hp (Nat.not_lt_zero p), fun p hp => absurd hp (Nat.not_lt_zero p), fun p hp => absurd hp (Nat.not_lt_zero p), fun t _ => ?_, fun s _ h => absurd h (hre0 s), fun s _ h => absurd h (hre0 (12 + s)), fun p _ _ => ⟨g _ _ _, g _ _ _, g _ _ _, l _ _ _, fun j _ => g _ _ _⟩⟩
  · intro k a h
    have h1 : k < 10 ∨ 26 < k := hk (k, a) h
    exact ⟨fun h2 => by omega, fun h2 => by omega, fun h2 => by omega⟩
  · exact ⟨Or.inl (rt0 t), by rw [g]; decide, by rw [g]; decide, fun _ => ⟨g _ _ _, g _ _ _⟩, fun h => (by rw [rt0] at h; cases h), fun h => (by rw [rt0] at h; cases h), fun h => absurd h (hre0 t)⟩
theorem sZ_wt (ad : Nat → Nat → Nat) (tg : List (Nat × Nat)) (h : ∀ t ∈ tg, ∀ q ∈ subs t.1 t.2, q ∈ tg) : WT (sZ ad tg) := ⟨fun k a hk q hq => h (k, a) hk q hq, fun f a b x hx => by cases hx⟩
set_option maxRecDepth 100000 in
theorem tgR_ok : ∀ t ∈ tgR, ∀ q ∈ subs t.1 t.2, q ∈ tgR := by decide +kernel
set_option maxRecDepth 100000 in
theorem tgM_ok : ∀ t ∈ tgR ++ tgM, ∀ q ∈ subs t.1 t.2, q ∈ tgR ++ tgM := by decide +kernel
set_option maxRecDepth 100000 in
set_option maxHeartbeats 4000000 in
theorem law_begin {K : JK} (hC : Cx K cL_law 4 RL) (hR : kRm K = room_1) {b : Nat} (h0 : k0 K = sZ (adL b) []) (go : ∀ σ, Sim 0 σ σ → J K 18 (LL 0) [] σ 60 40000) : JC K 0 [(0, .ref b)] [] [] 0 0 := by
  refine c_new hC (ci := 6) (C := RX7) (T := TX7) (ty := tyX7) (N := 6) (fs := [.null, .int 0, .null, .null, .null, .int 0]) rfl iw7 tyX7_ok (wg 69 (by decide +kernel) (by decide +kernel)) (wg 70 (by decide +kernel) (by decide +kernel)) (wg 59 (by decide +kernel) (by decide +kernel)) (fun j hj => by rcases (show j = 0 ∨ j = 1 ∨ j = 2 ∨ j = 3 ∨ j = 4 ∨ j = 5 by omega) with rfl | rfl | rfl | rfl | rfl | rfl <;> rfl) (by rw [hR]; exact Nat.le_of_ble_eq_true rfl) (by rw [hR]; exact Nat.le_of_ble_eq_true rfl) dL_law_0 (fun q0 => ?_)
  refine c_dup hC dL_law_3 ?_
  refine c_init hC (nA := 0) (y := yX7_init) (As := []) (w0 := []) (o := (.inr (6, [.null, .int 0, .null, .null, .null, .int 0]))) k_X7_init (wg 71 (by decide +kernel) (by decide +kernel)) (wg 72 (by decide +kernel) (by decide +kernel)) (wg 59 (by decide +kernel) (by decide +kernel)) (wg 73 (by decide +kernel) (by decide +kernel)) rfl ⟨by decide, by decide, by decide +kernel⟩ rfl (by rw [hR]; exact ⟨Nat.le_of_ble_eq_true rfl, Nat.le_of_ble_eq_true rfl⟩) (by rw [hR]; exact ⟨Nat.le_of_ble_eq_true rfl, Nat.le_of_ble_eq_true rfl⟩) rfl (Nat.le_of_ble_eq_true rfl) rfl dL_law_4 (fun w1 hw1 => ?_)
  obtain ⟨q1, q2, q3, q4, rfl⟩ := hw1
  obtain ⟨σ1, e1⟩ : ∃ σ1, σ1 = sZ (adR b q0 q1 q2 q3 q4) tgR := ⟨_, rfl⟩
  have hx1 : Ext (sZ (adL b) []) σ1 := by
    rw [e1]
    exact ⟨fun k a h => (by cases h), fun a => rfl⟩
  have hT1 : WT σ1 := by
    rw [e1]
    exact sZ_wt _ _ tgR_ok
  have hW1 : WL (kC K) σ1 = WL (kC K) (sZ (adL b) []) ++ [(q0, .inr (6, [.ref q1, .int 0, .ref q2, .ref q3, .ref q4, .int 0])), (q1, .inl (kC K 3, 16, .inr (.inr (.inr (.inr (fun _ => none)))))), (q2, .inl (kC K 4, 12, .inr (.inr (.inr (.inr (fun _ => none)))))), (q3, .inl (kC K 4, 12, .inr (.inr (.inr (.inr (fun _ => none)))))), (q4, .inl (kC K 3, 16, .inr (.inr (.inr (.inr (fun _ => none))))))] := by
    rw [e1]
    rfl
  have hok1 : ((0 : Nat), (0 : Nat)) ∈ σ1.2.1 := by
    rw [e1]
    exact List.mem_cons_self
  have hq1 : σ1.1 0 0 = q0 := by
    rw [e1]
    rfl
  have hJ := jc_fin (K := K) (pc := 7) (l := [some (wr 50 (some 0)), none, none, none]) (st := []) (σ := sZ (adL b) []) (σ1 := σ1) (n1 := 5) (n2 := 62) (kd := 0) (a := 0) (q := q0) (by rw [h0]; exact Ext.rf) hx1 hT1 hW1 (fun v hv => by
    simp only [List.mem_cons, List.not_mem_nil, or_false, Option.some.injEq, reduceCtorEq] at hv
    subst hv
    exact Or.inr rfl) (fun v hv => by cases hv) hok1 hq1 ?_
  · exact hJ
  refine r_astore_n hC (l' := [some (wr 50 (some 0)), some (wr 0 (some 0)), none, none]) dL_law_7 rfl (by decide) rfl ?_
  intro H locs ls hw hl ho
  refine (?_ : JC K 8 (lo σ1 0 [some (wr 50 (some 0)), some (wr 0 (some 0)), none, none]) [] (WL (kC K) σ1) 5 62) H locs ls hw.1 hw.2.1 hw.2.2.2.2 hl.1
  refine c_new hC (ci := 7) (C := RX8) (T := TX8) (ty := tyX8) (N := 44) (fs := [.int 0, .null, .null, .null, .null, .null, .null, .null, .null, .null, .null, .null, .null, .null, .null, .int 0, .null, .null, .null, .null, .null, .null, .null, .null, .null, .null, .null, .null, .null, .null, .null, .null, .null, .null, .null, .null, .null, .null, .null, .null, .null, .null, .null, .null]) rfl iw8 tyX8_ok (wg 781 (by decide +kernel) (by decide +kernel)) (wg 782 (by decide +kernel) (by decide +kernel)) (wg 60 (by decide +kernel) (by decide +kernel)) (fun j hj => by rcases (show j = 0 ∨ j = 1 ∨ j = 2 ∨ j = 3 ∨ j = 4 ∨ j = 5 ∨ j = 6 ∨ j = 7 ∨ j = 8 ∨ j = 9 ∨ j = 10 ∨ j = 11 ∨ j = 12 ∨ j = 13 ∨ j = 14 ∨ j = 15 ∨ j = 16 ∨ j = 17 ∨ j = 18 ∨ j = 19 ∨ j = 20 ∨ j = 21 ∨ j = 22 ∨ j = 23 ∨ j = 24 ∨ j = 25 ∨ j = 26 ∨ j = 27 ∨ j = 28 ∨ j = 29 ∨ j = 30 ∨ j = 31 ∨ j = 32 ∨ j = 33 ∨ j = 34 ∨ j = 35 ∨ j = 36 ∨ j = 37 ∨ j = 38 ∨ j = 39 ∨ j = 40 ∨ j = 41 ∨ j = 42 ∨ j = 43 by omega) with rfl | rfl | rfl | rfl | rfl | rfl | rfl | rfl | rfl | rfl | rfl | rfl | rfl | rfl | rfl | rfl | rfl | rfl | rfl | rfl | rfl | rfl | rfl | rfl | rfl | rfl | rfl | rfl | rfl | rfl | rfl | rfl | rfl | rfl | rfl | rfl | rfl | rfl | rfl | rfl | rfl | rfl | rfl | rfl <;> rfl) (by rw [hR]; exact Nat.le_of_ble_eq_true rfl) (by rw [hR]; exact Nat.le_of_ble_eq_true rfl) dL_law_8 (fun m0 => ?_)
  refine c_dup hC dL_law_11 ?_
  refine c_init hC (nA := 0) (y := yX8_init) (As := []) (w0 := WL (kC K) σ1) (o := (.inr (7, [.int 0, .null, .null, .null, .null, .null, .null, .null, .null, .null, .null, .null, .null, .null, .null, .int 0, .null, .null, .null, .null, .null, .null, .null, .null, .null, .null, .null, .null, .null, .null, .null, .null, .null, .null, .null, .null, .null, .null, .null, .null, .null, .null, .null, .null]))) k_X8_init (wg 783 (by decide +kernel) (by decide +kernel)) (wg 784 (by decide +kernel) (by decide +kernel)) (wg 60 (by decide +kernel) (by decide +kernel)) (wg 785 (by decide +kernel) (by decide +kernel)) rfl ⟨by decide, by decide, by decide +kernel⟩ rfl (by rw [hR]; exact ⟨Nat.le_of_ble_eq_true rfl, Nat.le_of_ble_eq_true rfl⟩) (by rw [hR]; exact ⟨Nat.le_of_ble_eq_true rfl, Nat.le_of_ble_eq_true rfl⟩) rfl (Nat.le_of_ble_eq_true rfl) rfl dL_law_12 (fun w1 hw1 => ?_)
  obtain ⟨r1, r2, r3, r4, r5, r6, r7, r8, r9, r10, r11, r12, r13, r14, r15, r16, r17, r18, r19, r20, r21, r22, r23, r24, r25, r26, r27, r28, r29, r30, r31, r32, r33, r34, r35, r36, r37, r38, r39, r40, r41, r42, hw1⟩ := hw1
  obtain ⟨σ2, e2⟩ : ∃ σ2, σ2 = sZ (adM b q0 q1 q2 q3 q4 m0 [0, r1, r2, r3, r4, r5, r6, r7, r8, r9, r10, r11, r12, r13, r14, 0, r15, r16, r17, r18, r19, r20, r21, r22, r23, r24, r25, r26, r27, r28, r29, r30, r31, r32, r33, r34, r35, r36, r37, r38, r39, r40, r41, r42]) (tgR ++ tgM) := ⟨_, rfl⟩
  have hx2 : Ext σ1 σ2 := by
    rw [e1, e2]
    refine ⟨fun k a h => ⟨List.mem_append_left _ h, ?_⟩, fun a => rfl⟩
    have h : (k, a) ∈ tgR := h
    simp only [tgR, List.mem_cons, Prod.mk.injEq, List.not_mem_nil, or_false] at h
    rcases h with ⟨rfl, rfl⟩ | ⟨rfl, rfl⟩ | ⟨rfl, rfl⟩ | ⟨rfl, rfl⟩ | ⟨rfl, rfl⟩ <;> rfl
  have hT2 : WT σ2 := by
    rw [e2]
    exact sZ_wt _ _ tgM_ok
  have hW2 : WL (kC K) σ2 = WL (kC K) σ1 ++ w1 := by
    rw [hw1, e1, e2]
    rfl
  have hok2 : ((30 : Nat), (0 : Nat)) ∈ σ2.2.1 := by
    rw [e2]
    exact List.mem_append_right _ List.mem_cons_self
  have hq2 : σ2.1 30 0 = m0 := by
    rw [e2]
    rfl
  have hJ := jc_fin (K := K) (pc := 15) (l := [some (wr 50 (some 0)), some (wr 0 (some 0)), none, none]) (st := []) (σ := σ1) (σ1 := σ2) (n1 := 48) (n2 := 36810) (kd := 30) (a := 0) (q := m0) hw.2.2.2.1 hx2 hT2 hW2 hl.2 (fun v hv => by cases hv) hok2 hq2 ?_
  · exact hJ
  refine r_astore_n hC (l' := [some (wr 50 (some 0)), some (wr 0 (some 0)), some (wr 30 (some 0)), none]) dL_law_15 rfl (by decide) rfl ?_
  refine r_iconst hC dL_law_16 ?_
  refine r_istore_n hC (l' := LL 0) dL_law_17 rfl (by decide) rfl ?_
  refine J.widen (k1 := 60) (k2 := 40000) (by decide) (by decide) (go σ2 ?_)
  rw [e2]
  exact sZ_sim _
