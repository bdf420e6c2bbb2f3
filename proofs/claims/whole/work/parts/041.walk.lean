/-! WALKS 1, printed by wip/whole/gen/mkwalks.py -/
def wp_X7_thingByKey_2 (po : Option Nat → St → Prop) : Nat → Nat → Option Nat → Int → Int → St → Prop
  | 0, _, _, _, _, _ => False
  | n + 1, k0, o0, x1, x2, σ => (nm 12 ≤ nm x2 → po none σ) ∧
 (nm x2 < nm 12 → (nm x1 = 0 → po none σ) ∧
 (nm x1 ≠ 0 → wp_X7_thingIn k0 o0 x2 σ (fun o101 s101 => (o101 = none → wp_X7_thingByKey_2 po n k0 o0 x1 (x2 + 1) s101) ∧
 (∀ a101, o101 = some a101 → (nm (gI s101 34 a101 0) ≠ nm x1 → wp_X7_thingByKey_2 po n k0 o0 x1 (x2 + 1) s101) ∧
 (nm (gI s101 34 a101 0) = nm x1 → po (some a101) s101)))))
set_option maxRecDepth 100000 in
set_option maxHeartbeats 4000000 in
theorem j_X7_thingByKey_2 {K : JK} (hR : kRm K = ({ frames := 1, cells := 0, slots := 0, locals := 22 } : Room)) (hC : Cx K cX7_thingByKey 4 RX7) {po : Option Nat → St → Prop} (hM : Mx K (some (.object "QueuesAndGates$Thing")) (PR 20 po)) : ∀ (n : Nat) (k0 : Nat) (o0 : Option Nat) (x1 : Int) (x2 : Int) (σ : St), wp_X7_thingByKey_2 po n k0 o0 x1 x2 σ → J K 2 [some (wr k0 o0), some (wi x1), some (wi x2), none] [] σ 0 0 := by
  intro n
  induction n with
  | zero =>
    intro k0 o0 x1 x2 σ hw
    exact False.elim hw
  | succ n ih =>
    intro k0 o0 x1 x2 σ hw
    unfold wp_X7_thingByKey_2 at hw
    refine r_iload_n hC dX7_thingByKey_2 rfl ?_
    refine r_bipush hC dX7_thingByKey_3 (by decide) ?_
    refine r_icmp_ge (tgt := 38) hC dX7_thingByKey_5 (by decide) (fun h => ?_) (fun h => ?_)
    · replace hw := hw.1 h
      refine r_null hC 20 dX7_thingByKey_38 ?_
      exact r_areturn hC hM ⟨_, rfl, hw⟩ (by rw [hR]; decide) (by rw [hR]; decide) dX7_thingByKey_39
    · replace hw := hw.2 h
      refine r_iload_n hC dX7_thingByKey_8 rfl ?_
      refine r_if_eq (tgt := 38) hC dX7_thingByKey_9 (by decide) (fun h => ?_) (fun h => ?_)
      · replace hw := hw.1 h
        refine r_null hC 20 dX7_thingByKey_38 ?_
        exact r_areturn hC hM ⟨_, rfl, hw⟩ (by rw [hR]; decide) (by rw [hR]; decide) dX7_thingByKey_39
      · replace hw := hw.2 h
        refine r_aload_n hC dX7_thingByKey_12 rfl ?_
        refine r_iload_n hC dX7_thingByKey_13 rfl ?_
        refine cl_X7_212 hC (c_X7_thingIn (kL K) hw) (by rw [hR]; decide) (Nat.le_of_ble_eq_true rfl) dX7_thingByKey_14 (fun o101 s101 hq => ?_)
        clear hw
        have hw := hq
        clear hq
        refine r_astore_n (l' := [_, _, _, _]) hC dX7_thingByKey_17 rfl (by decide) rfl ?_
        refine r_aload_n hC dX7_thingByKey_18 rfl ?_
        refine r_ifnull (tgt := 32) hC dX7_thingByKey_19 (by decide) (fun h => ?_) (fun a101 h => ?_)
        · replace hw := hw.1 h
          subst h
          refine r_iinc (l' := [_, _, _, _]) hC dX7_thingByKey_32 rfl rfl (by decide) rfl ?_
          refine r_goto (tgt := 2) hC dX7_thingByKey_35 (by decide) ?_
          exact J.drop2 (ih k0 o0 x1 (x2 + 1) s101 hw) ⟨rfl, rfl, rfl, trivial⟩
        · replace hw := hw.2 a101 h
          subst h
          refine r_aload_n hC dX7_thingByKey_22 rfl ?_
          refine gf_X7_219 hC dX7_thingByKey_23 ?_
          refine r_iload_n hC dX7_thingByKey_26 rfl ?_
          refine r_icmp_ne (tgt := 32) hC dX7_thingByKey_27 (by decide) (fun h => ?_) (fun h => ?_)
          · replace hw := hw.1 h
            refine r_iinc (l' := [_, _, _, _]) hC dX7_thingByKey_32 rfl rfl (by decide) rfl ?_
            refine r_goto (tgt := 2) hC dX7_thingByKey_35 (by decide) ?_
            exact J.drop2 (ih k0 o0 x1 (x2 + 1) s101 hw) ⟨rfl, rfl, rfl, trivial⟩
          · replace hw := hw.2 h
            refine r_aload_n hC dX7_thingByKey_30 rfl ?_
            exact r_areturn hC hM ⟨_, rfl, hw⟩ (by rw [hR]; decide) (by rw [hR]; decide) dX7_thingByKey_31
def wp_X7_thingByKey (k1 : Nat) (o1 : Option Nat) (x2 : Int) (σ : St) (po : Option Nat → St → Prop) : Prop := ∃ n9, wp_X7_thingByKey_2 po n9 k1 o1 x2 0 σ
set_option maxRecDepth 100000 in
set_option maxHeartbeats 4000000 in
theorem c_X7_thingByKey (l : Launch) {k1 : Nat} {o1 : Option Nat} {x2 : Int} {σ : St} {po : Option Nat → St → Prop} (hw : wp_X7_thingByKey k1 o1 x2 σ po) : MT l yX7_thingByKey cX7_thingByKey 4 (some (.object "QueuesAndGates$Thing")) ({ frames := 1, cells := 0, slots := 0, locals := 22 } : Room) [wr k1 o1, wi x2] σ (PR 20 po) := by
  refine MT_of (by decide) (Nat.le_of_ble_eq_true rfl) (fun K hL hR hC hM => ?_)
  subst hL
  unfold wp_X7_thingByKey at hw
  show J K 0 [some (wr k1 o1), some (wi x2), none, none] [] σ 0 0
  refine r_iconst hC dX7_thingByKey_0 ?_
  refine r_istore_n (l' := [_, _, _, _]) hC dX7_thingByKey_1 rfl (by decide) rfl ?_
  obtain ⟨n9, hw⟩ := hw
  exact J.drop2 (j_X7_thingByKey_2 hR hC hM n9 k1 o1 x2 0 σ hw) ⟨rfl, rfl, rfl, trivial⟩
def wp_X7_isMade (x1 : Int) (x2 : Int) (σ : St) (po : Int → St → Prop) : Prop := (nm x1 = 0 → po 1 σ) ∧
 (nm x1 ≠ 0 → (nm (zand x2 512) = 0 → po 0 σ) ∧
 (nm (zand x2 512) ≠ 0 → po 1 σ))
set_option maxRecDepth 100000 in
set_option maxHeartbeats 4000000 in
theorem c_X7_isMade (l : Launch) {x1 : Int} {x2 : Int} {σ : St} {po : Int → St → Prop} (hw : wp_X7_isMade x1 x2 σ po) : MT l yX7_isMade cX7_isMade 2 (some .boolean) ({ frames := 0, cells := 0, slots := 0, locals := 0 } : Room) [wi x1, wi x2] σ (PI po) := by
  refine MT_of (by decide) (Nat.le_of_ble_eq_true rfl) (fun K hL hR hC hM => ?_)
  subst hL
  unfold wp_X7_isMade at hw
  show J K 0 [some (wi x1), some (wi x2)] [] σ 0 0
  refine r_iload_n hC dX7_isMade_0 rfl ?_
  refine r_if_eq (tgt := 12) hC dX7_isMade_1 (by decide) (fun h => ?_) (fun h => ?_)
  · replace hw := hw.1 h
    refine r_iconst hC dX7_isMade_12 ?_
    refine r_goto (tgt := 17) hC dX7_isMade_13 (by decide) ?_
    exact r_zreturn hC hM (by decide) ⟨_, rfl, hw⟩ (by rw [hR]; decide) (by rw [hR]; decide) dX7_isMade_17
  · replace hw := hw.2 h
    refine r_iload_n hC dX7_isMade_4 rfl ?_
    refine r_sipush hC dX7_isMade_5 (by decide) ?_
    refine r_iand hC dX7_isMade_8 ?_
    refine r_if_eq (tgt := 16) hC dX7_isMade_9 (by decide) (fun h => ?_) (fun h => ?_)
    · replace hw := hw.1 h
      refine r_iconst hC dX7_isMade_16 ?_
      exact r_zreturn hC hM (by decide) ⟨_, rfl, hw⟩ (by rw [hR]; decide) (by rw [hR]; decide) dX7_isMade_17
    · replace hw := hw.2 h
      refine r_iconst hC dX7_isMade_12 ?_
      refine r_goto (tgt := 17) hC dX7_isMade_13 (by decide) ?_
      exact r_zreturn hC hM (by decide) ⟨_, rfl, hw⟩ (by rw [hR]; decide) (by rw [hR]; decide) dX7_isMade_17
def wp_X7_freeSlot_2 (po : Int → St → Prop) : Nat → Nat → Option Nat → Int → St → Prop
  | 0, _, _, _, _ => False
  | n + 1, k0, o0, x1, σ => (nm 12 ≤ nm x1 → po (-1) σ) ∧
 (nm x1 < nm 12 → wp_X7_thingIn k0 o0 x1 σ (fun o101 s101 => (o101 = none → po x1 s101) ∧
 (∀ a101, o101 = some a101 → wp_X7_freeSlot_2 po n k0 o0 (x1 + 1) s101)))
set_option maxRecDepth 100000 in
set_option maxHeartbeats 4000000 in
theorem j_X7_freeSlot_2 {K : JK} (hR : kRm K = ({ frames := 1, cells := 0, slots := 0, locals := 22 } : Room)) (hC : Cx K cX7_freeSlot 2 RX7) {po : Int → St → Prop} (hM : Mx K (some .int) (PI po)) : ∀ (n : Nat) (k0 : Nat) (o0 : Option Nat) (x1 : Int) (σ : St), wp_X7_freeSlot_2 po n k0 o0 x1 σ → J K 2 [some (wr k0 o0), some (wi x1)] [] σ 0 0 := by
  intro n
  induction n with
  | zero =>
    intro k0 o0 x1 σ hw
    exact False.elim hw
  | succ n ih =>
    intro k0 o0 x1 σ hw
    unfold wp_X7_freeSlot_2 at hw
    refine r_iload_n hC dX7_freeSlot_2 rfl ?_
    refine r_bipush hC dX7_freeSlot_3 (by decide) ?_
    refine r_icmp_ge (tgt := 24) hC dX7_freeSlot_5 (by decide) (fun h => ?_) (fun h => ?_)
    · replace hw := hw.1 h
      refine r_iconst hC dX7_freeSlot_24 ?_
      exact r_ireturn hC hM ⟨_, rfl, hw⟩ (by rw [hR]; decide) (by rw [hR]; decide) dX7_freeSlot_25
    · replace hw := hw.2 h
      refine r_aload_n hC dX7_freeSlot_8 rfl ?_
      refine r_iload_n hC dX7_freeSlot_9 rfl ?_
      refine cl_X7_212 hC (c_X7_thingIn (kL K) hw) (by rw [hR]; decide) (Nat.le_of_ble_eq_true rfl) dX7_freeSlot_10 (fun o101 s101 hq => ?_)
      clear hw
      have hw := hq
      clear hq
      refine r_ifnonnull (tgt := 18) hC dX7_freeSlot_13 (by decide) (fun a101 h => ?_) (fun h => ?_)
      · replace hw := hw.2 a101 h
        subst h
        refine r_iinc (l' := [_, _]) hC dX7_freeSlot_18 rfl rfl (by decide) rfl ?_
        refine r_goto (tgt := 2) hC dX7_freeSlot_21 (by decide) ?_
        exact J.drop2 (ih k0 o0 (x1 + 1) s101 hw) ⟨rfl, rfl, trivial⟩
      · replace hw := hw.1 h
        subst h
        refine r_iload_n hC dX7_freeSlot_16 rfl ?_
        exact r_ireturn hC hM ⟨_, rfl, hw⟩ (by rw [hR]; decide) (by rw [hR]; decide) dX7_freeSlot_17
def wp_X7_freeSlot (k1 : Nat) (o1 : Option Nat) (σ : St) (po : Int → St → Prop) : Prop := ∃ n9, wp_X7_freeSlot_2 po n9 k1 o1 0 σ
set_option maxRecDepth 100000 in
set_option maxHeartbeats 4000000 in
theorem c_X7_freeSlot (l : Launch) {k1 : Nat} {o1 : Option Nat} {σ : St} {po : Int → St → Prop} (hw : wp_X7_freeSlot k1 o1 σ po) : MT l yX7_freeSlot cX7_freeSlot 2 (some .int) ({ frames := 1, cells := 0, slots := 0, locals := 22 } : Room) [wr k1 o1] σ (PI po) := by
  refine MT_of (by decide) (Nat.le_of_ble_eq_true rfl) (fun K hL hR hC hM => ?_)
  subst hL
  unfold wp_X7_freeSlot at hw
  show J K 0 [some (wr k1 o1), none] [] σ 0 0
  refine r_iconst hC dX7_freeSlot_0 ?_
  refine r_istore_n (l' := [_, _]) hC dX7_freeSlot_1 rfl (by decide) rfl ?_
  obtain ⟨n9, hw⟩ := hw
  exact J.drop2 (j_X7_freeSlot_2 hR hC hM n9 k1 o1 0 σ hw) ⟨rfl, rfl, trivial⟩
def wp_X5_begin (a0 : Nat) (o1 : Option Nat) (x2 : Int) (x3 : Int) (σ : St) (po : St → Prop) : Prop := ∀ s101, s101 = uI σ 33 a0 0 ((gI σ 30 a0 0) + (12 * (gI σ 31 a0 0))) → ∀ s102, s102 = uI s101 31 a0 0 ((gI s101 31 a0 0) + 1) → ∀ s103, s103 = uI s102 32 a0 0 1 → ∀ s104, s104 = uI s103 34 a0 0 x2 → ∃ a101, o1 = some a101 ∧ ∀ s105, s105 = uI s104 35 a0 0 (gI s104 11 a101 0) → ∀ s106, s106 = uI s105 36 a0 0 (gI s105 12 a101 0) → ∀ s107, s107 = uI s106 37 a0 0 (gI s106 11 a101 0) → ∀ s108, s108 = uI s107 38 a0 0 (gI s107 12 a101 0) → ∀ s109, s109 = uI s108 39 a0 0 x3 → po s109
set_option maxRecDepth 100000 in
set_option maxHeartbeats 4000000 in
theorem c_X5_begin (l : Launch) {a0 : Nat} {o1 : Option Nat} {x2 : Int} {x3 : Int} {σ : St} {po : St → Prop} (hw : wp_X5_begin a0 o1 x2 x3 σ po) : MT l yX5_begin cX5_begin 4 none ({ frames := 0, cells := 0, slots := 0, locals := 0 } : Room) [wr 20 (some a0), wr 10 o1, wi x2, wi x3] σ (PV po) := by
  refine MT_of (by decide) (Nat.le_of_ble_eq_true rfl) (fun K hL hR hC hM => ?_)
  subst hL
  unfold wp_X5_begin at hw
  show J K 0 [some (wr 20 (some a0)), some (wr 10 o1), some (wi x2), some (wi x3)] [] σ 0 0
  refine r_aload_n hC dX5_begin_0 rfl ?_
  refine r_aload_n hC dX5_begin_1 rfl ?_
  refine gf_X5_40 hC dX5_begin_2 ?_
  refine r_bipush hC dX5_begin_5 (by decide) ?_
  refine r_aload_n hC dX5_begin_7 rfl ?_
  refine gf_X5_9 hC dX5_begin_8 ?_
  refine r_imul hC dX5_begin_11 ?_
  refine r_iadd hC dX5_begin_12 ?_
  refine pf_X5_19 hC dX5_begin_13 (fun s101 e9 => ?_)
  replace hw := hw s101 e9
  clear e9
  refine r_aload_n hC dX5_begin_16 rfl ?_
  refine r_dup hC dX5_begin_17 rfl ?_
  refine gf_X5_9 hC dX5_begin_18 ?_
  refine r_iconst hC dX5_begin_21 ?_
  refine r_iadd hC dX5_begin_22 ?_
  refine pf_X5_9 hC dX5_begin_23 (fun s102 e9 => ?_)
  replace hw := hw s102 e9
  clear e9
  refine r_aload_n hC dX5_begin_26 rfl ?_
  refine r_iconst hC dX5_begin_27 ?_
  refine pf_X5_15 hC (by decide) dX5_begin_28 (fun s103 e9 => ?_)
  replace hw := hw s103 e9
  clear e9
  refine r_aload_n hC dX5_begin_31 rfl ?_
  refine r_iload_n hC dX5_begin_32 rfl ?_
  refine pf_X5_22 hC dX5_begin_33 (fun s104 e9 => ?_)
  replace hw := hw s104 e9
  clear e9
  refine r_aload_n hC dX5_begin_36 rfl ?_
  refine r_aload_n hC dX5_begin_37 rfl ?_
  obtain ⟨a101, rfl, hw⟩ := hw
  refine gf_X5_43 hC dX5_begin_38 ?_
  refine pf_X5_25 hC dX5_begin_41 (fun s105 e9 => ?_)
  replace hw := hw s105 e9
  clear e9
  refine r_aload_n hC dX5_begin_44 rfl ?_
  refine r_aload_n hC dX5_begin_45 rfl ?_
  refine gf_X5_48 hC dX5_begin_46 ?_
  refine pf_X5_28 hC dX5_begin_49 (fun s106 e9 => ?_)
  replace hw := hw s106 e9
  clear e9
  refine r_aload_n hC dX5_begin_52 rfl ?_
  refine r_aload_n hC dX5_begin_53 rfl ?_
  refine gf_X5_43 hC dX5_begin_54 ?_
  refine pf_X5_31 hC dX5_begin_57 (fun s107 e9 => ?_)
  replace hw := hw s107 e9
  clear e9
  refine r_aload_n hC dX5_begin_60 rfl ?_
  refine r_aload_n hC dX5_begin_61 rfl ?_
  refine gf_X5_48 hC dX5_begin_62 ?_
  refine pf_X5_34 hC dX5_begin_65 (fun s108 e9 => ?_)
  replace hw := hw s108 e9
  clear e9
  refine r_aload_n hC dX5_begin_68 rfl ?_
  refine r_iload_n hC dX5_begin_69 rfl ?_
  refine pf_X5_37 hC dX5_begin_70 (fun s109 e9 => ?_)
  replace hw := hw s109 e9
  clear e9
  exact r_vreturn hC hM ⟨rfl, hw⟩ (by rw [hR]; decide) (by rw [hR]; decide) dX5_begin_73
def wp_X3_empty (a0 : Nat) (σ : St) (po : St → Prop) : Prop := a0 < 12 ∧ ∀ s101, s101 = uI σ 40 a0 0 0 → ∀ s102, s102 = uI s101 41 a0 0 0 → ∀ s103, s103 = uI s102 42 a0 0 256 → po s103
set_option maxRecDepth 100000 in
set_option maxHeartbeats 4000000 in
theorem c_X3_empty (l : Launch) {a0 : Nat} {σ : St} {po : St → Prop} (hw : wp_X3_empty a0 σ po) : MT l yX3_empty cX3_empty 1 none ({ frames := 0, cells := 0, slots := 0, locals := 0 } : Room) [wr 20 (some a0)] σ (PV po) := by
  refine MT_of (by decide) (Nat.le_of_ble_eq_true rfl) (fun K hL hR hC hM => ?_)
  subst hL
  unfold wp_X3_empty at hw
  show J K 0 [some (wr 20 (some a0))] [] σ 0 0
  refine r_aload_n hC dX3_empty_0 rfl ?_
  refine r_iconst hC dX3_empty_1 ?_
  have h101 := hw.1
  replace hw := hw.2
  refine pf_X3_17 hC h101 dX3_empty_2 (fun s101 e9 => ?_)
  replace hw := hw s101 e9
  clear e9
  refine r_aload_n hC dX3_empty_5 rfl ?_
  refine r_iconst hC dX3_empty_6 ?_
  refine pf_X3_21 hC h101 dX3_empty_7 (fun s102 e9 => ?_)
  replace hw := hw s102 e9
  clear e9
  refine r_aload_n hC dX3_empty_10 rfl ?_
  refine r_sipush hC dX3_empty_11 (by decide) ?_
  refine pf_X3_24 hC h101 dX3_empty_14 (fun s103 e9 => ?_)
  replace hw := hw s103 e9
  clear e9
  exact r_vreturn hC hM ⟨rfl, hw⟩ (by rw [hR]; decide) (by rw [hR]; decide) dX3_empty_17
def wp_X7_makeQueue_62 (po : Int → St → Prop) (o1 : Option Nat) (x2 : Int) (x3 : Int) (x4 : Int) (p0 : Option Nat) (σ : St) : Prop := (0 ≤ nm x4 ∧ nm x4 < 12) ∧ ∀ s103, s103 = uR σ 2 0 (nm x4).toNat p0 → ∃ a101, p0 = some a101 ∧ a101 < 12 ∧ wp_X5_begin a101 o1 x2 (zand x3 511) s103 (fun s104 => wp_X3_empty a101 s104 (fun s105 => po (gI s105 33 a101 0) s105))
set_option maxRecDepth 100000 in
set_option maxHeartbeats 4000000 in
theorem j_X7_makeQueue_62 {K : JK} (hR : kRm K = ({ frames := 3, cells := 2, slots := 54, locals := 62 } : Room)) (hC : Cx K cX7_makeQueue 8 RX7) {po : Int → St → Prop} (hM : Mx K (some .int) (PI po)) : ∀ (o1 : Option Nat) (x2 : Int) (x3 : Int) (x4 : Int) (p0 : Option Nat) (σ : St), wp_X7_makeQueue_62 po o1 x2 x3 x4 p0 σ → J K 62 [some (wr 0 (some 0)), some (wr 10 o1), some (wi x2), some (wi x3), some (wi x4), none, none, none] [wr 20 p0] σ 2 54 := by
  intro o1 x2 x3 x4 p0 σ hw
  unfold wp_X7_makeQueue_62 at hw
  refine r_astore (l' := [_, _, _, _, _, _, _, _]) hC dX7_makeQueue_62 rfl (by decide) rfl ?_
  refine r_aload_n hC dX7_makeQueue_64 rfl ?_
  refine gf_X7_21 hC dX7_makeQueue_65 ?_
  refine r_iload hC dX7_makeQueue_68 rfl ?_
  refine r_aload hC dX7_makeQueue_70 rfl ?_
  refine r_aastore hC (kd := 20) (Or.inr (Or.inl ⟨rfl, rfl⟩)) (by decide) rfl hw.1 dX7_makeQueue_72 (fun s103 e9 => ?_)
  replace hw := hw.2 s103 e9
  clear e9
  refine r_aload hC dX7_makeQueue_73 rfl ?_
  refine r_aload_n hC dX7_makeQueue_75 rfl ?_
  refine r_iload_n hC dX7_makeQueue_76 rfl ?_
  refine r_iload_n hC dX7_makeQueue_77 rfl ?_
  refine r_sipush hC dX7_makeQueue_78 (by decide) ?_
  refine r_iand hC dX7_makeQueue_81 ?_
  obtain ⟨a101, rfl, hw⟩ := hw
  have h101 := hw.1
  replace hw := hw.2
  refine cl_X7_270 hC h101 (c_X5_begin (kL K) hw) (by rw [hR]; decide) (Nat.le_of_ble_eq_true rfl) dX7_makeQueue_82 (fun s104 hq => ?_)
  clear hw
  have hw := hq
  clear hq
  refine r_aload hC dX7_makeQueue_85 rfl ?_
  refine cl_X7_274 hC h101 (c_X3_empty (kL K) hw) (by rw [hR]; decide) (Nat.le_of_ble_eq_true rfl) dX7_makeQueue_87 (fun s105 hq => ?_)
  clear hw
  have hw := hq
  clear hq
  refine r_aload hC dX7_makeQueue_90 rfl ?_
  refine gf_X7_277 hC dX7_makeQueue_92 ?_
  exact r_ireturn hC hM ⟨_, rfl, hw⟩ (by rw [hR]; decide) (by rw [hR]; decide) dX7_makeQueue_95
def wp_X7_makeQueue (o1 : Option Nat) (x2 : Int) (x3 : Int) (σ : St) (po : Int → St → Prop) : Prop := wp_X7_freeSlot 2 (some 0) σ (fun r101 s101 => (nm r101 < 0 → po (-9) s101) ∧
 (0 ≤ nm r101 → (nm r101 < nm 12 → (0 ≤ nm r101 ∧ nm r101 < 12) ∧ ∀ o101, o101 = gR s101 2 0 (nm r101).toNat → (o101 = none → freeQueue s101 r101 ∧ ∀ s102, newQueue s101 r101 s102 → wp_X7_makeQueue_62 po o1 x2 x3 r101 (some ((nm r101).toNat)) s102) ∧
 (∀ a102, o101 = some a102 → a102 < 12 ∧ wp_X7_makeQueue_62 po o1 x2 x3 r101 (some a102) s101)) ∧
 (nm 12 ≤ nm r101 → po (-9) s101)))
set_option maxRecDepth 100000 in
set_option maxHeartbeats 4000000 in
theorem c_X7_makeQueue (l : Launch) {o1 : Option Nat} {x2 : Int} {x3 : Int} {σ : St} {po : Int → St → Prop} (hw : wp_X7_makeQueue o1 x2 x3 σ po) : MT l yX7_makeQueue cX7_makeQueue 8 (some .int) ({ frames := 3, cells := 2, slots := 54, locals := 62 } : Room) [wr 0 (some 0), wr 10 o1, wi x2, wi x3] σ (PI po) := by
  refine MT_of (by decide) (Nat.le_of_ble_eq_true rfl) (fun K hL hR hC hM => ?_)
  subst hL
  unfold wp_X7_makeQueue at hw
  show J K 0 [some (wr 0 (some 0)), some (wr 10 o1), some (wi x2), some (wi x3), none, none, none, none] [] σ 0 0
  refine r_aload_n hC dX7_makeQueue_0 rfl ?_
  refine gf_X7_21 hC dX7_makeQueue_1 ?_
  refine cl_X7_264 hC (c_X7_freeSlot (kL K) hw) (by rw [hR]; decide) (Nat.le_of_ble_eq_true rfl) dX7_makeQueue_4 (fun r101 s101 hq => ?_)
  clear hw
  have hw := hq
  clear hq
  refine r_istore (l' := [_, _, _, _, _, _, _, _]) hC dX7_makeQueue_7 rfl (by decide) rfl ?_
  refine r_iload hC dX7_makeQueue_9 rfl ?_
  refine r_if_lt (tgt := 21) hC dX7_makeQueue_11 (by decide) (fun h => ?_) (fun h => ?_)
  · replace hw := hw.1 h
    refine r_bipush hC dX7_makeQueue_21 (by decide) ?_
    exact r_ireturn hC hM ⟨_, rfl, hw⟩ (by rw [hR]; decide) (by rw [hR]; decide) dX7_makeQueue_23
  · replace hw := hw.2 h
    refine r_iload hC dX7_makeQueue_14 rfl ?_
    refine r_bipush hC dX7_makeQueue_16 (by decide) ?_
    refine r_icmp_lt (tgt := 24) hC dX7_makeQueue_18 (by decide) (fun h => ?_) (fun h => ?_)
    · replace hw := hw.1 h
      refine r_aload_n hC dX7_makeQueue_24 rfl ?_
      refine gf_X7_21 hC dX7_makeQueue_25 ?_
      refine r_iload hC dX7_makeQueue_28 rfl ?_
      refine r_aaload hC (kd := 20) (Or.inr (Or.inl ⟨rfl, rfl⟩)) (by decide) rfl hw.1 dX7_makeQueue_30 (fun o101 e9 => ?_)
      replace hw := hw.2 o101 e9
      clear e9
      refine r_astore (l' := [_, _, _, _, _, _, _, _]) hC dX7_makeQueue_31 rfl (by decide) rfl ?_
      refine r_aload hC dX7_makeQueue_33 rfl ?_
      refine r_inst hC (ci := 3) rfl rfl (wg 363 (by decide +kernel) (by decide +kernel)) dX7_makeQueue_35 (fun h => ?_) (fun a102 h => ?_)
      · replace hw := hw.1 h
        subst h
        refine r_if_eq (tgt := 53) hC dX7_makeQueue_38 (by decide) (fun _ => ?_) (fun h => absurd h (by decide))
        have hf9 := hw.1
        replace hw := hw.2
        refine new_X7_makeQueue hC (by rw [hR]; decide) rfl hf9 (fun s102 hn8 hn9 => ?_)
        replace hw := hw s102 hn9
        clear hn9
        exact J.drop2 (j_X7_makeQueue_62 hR hC hM o1 x2 x3 r101 (some ((nm r101).toNat)) s102 hw) ⟨rfl, rfl, rfl, rfl, rfl, trivial⟩
      · replace hw := hw.2 a102 h
        subst h
        have h102 := hw.1
        replace hw := hw.2
        refine ⟨oCi_lt h102, ?_⟩
        refine r_if_eq (tgt := 53) hC dX7_makeQueue_38 (by decide) (fun h => absurd h (by decide)) (fun _ => ?_)
        refine r_aload hC dX7_makeQueue_41 rfl ?_
        refine r_cast hC (ci := 3) rfl rfl (wg 363 (by decide +kernel) (by decide +kernel)) dX7_makeQueue_43 ⟨(fun a9 h9 => by cases h9; exact oCi_lt h102), ?_⟩
        refine r_astore (l' := [_, _, _, _, _, _, _, _]) hC dX7_makeQueue_46 rfl (by decide) rfl ?_
        refine r_aload hC dX7_makeQueue_48 rfl ?_
        refine r_goto (tgt := 62) hC dX7_makeQueue_50 (by decide) ?_
        refine J.widen (k1 := 2) (k2 := 54) (by decide) (by decide) ?_
        exact J.drop2 (j_X7_makeQueue_62 hR hC hM o1 x2 x3 r101 (some a102) s101 hw) ⟨rfl, rfl, rfl, rfl, rfl, trivial⟩
    · replace hw := hw.2 h
      refine r_bipush hC dX7_makeQueue_21 (by decide) ?_
      exact r_ireturn hC hM ⟨_, rfl, hw⟩ (by rw [hR]; decide) (by rw [hR]; decide) dX7_makeQueue_23
def wp_X7_isOnlyNew (x1 : Int) (σ : St) (po : Int → St → Prop) : Prop := (nm (zand x1 512) = 0 → po 0 σ) ∧
 (nm (zand x1 512) ≠ 0 → (nm (zand x1 1024) = 0 → po 0 σ) ∧
 (nm (zand x1 1024) ≠ 0 → po 1 σ))
set_option maxRecDepth 100000 in
set_option maxHeartbeats 4000000 in
theorem c_X7_isOnlyNew (l : Launch) {x1 : Int} {σ : St} {po : Int → St → Prop} (hw : wp_X7_isOnlyNew x1 σ po) : MT l yX7_isOnlyNew cX7_isOnlyNew 1 (some .boolean) ({ frames := 0, cells := 0, slots := 0, locals := 0 } : Room) [wi x1] σ (PI po) := by
  refine MT_of (by decide) (Nat.le_of_ble_eq_true rfl) (fun K hL hR hC hM => ?_)
  subst hL
  unfold wp_X7_isOnlyNew at hw
  show J K 0 [some (wi x1)] [] σ 0 0
  refine r_iload_n hC dX7_isOnlyNew_0 rfl ?_
  refine r_sipush hC dX7_isOnlyNew_1 (by decide) ?_
  refine r_iand hC dX7_isOnlyNew_4 ?_
  refine r_if_eq (tgt := 20) hC dX7_isOnlyNew_5 (by decide) (fun h => ?_) (fun h => ?_)
  · replace hw := hw.1 h
    refine r_iconst hC dX7_isOnlyNew_20 ?_
    exact r_zreturn hC hM (by decide) ⟨_, rfl, hw⟩ (by rw [hR]; decide) (by rw [hR]; decide) dX7_isOnlyNew_21
  · replace hw := hw.2 h
    refine r_iload_n hC dX7_isOnlyNew_8 rfl ?_
    refine r_sipush hC dX7_isOnlyNew_9 (by decide) ?_
    refine r_iand hC dX7_isOnlyNew_12 ?_
    refine r_if_eq (tgt := 20) hC dX7_isOnlyNew_13 (by decide) (fun h => ?_) (fun h => ?_)
    · replace hw := hw.1 h
      refine r_iconst hC dX7_isOnlyNew_20 ?_
      exact r_zreturn hC hM (by decide) ⟨_, rfl, hw⟩ (by rw [hR]; decide) (by rw [hR]; decide) dX7_isOnlyNew_21
    · replace hw := hw.2 h
      refine r_iconst hC dX7_isOnlyNew_16 ?_
      refine r_goto (tgt := 21) hC dX7_isOnlyNew_17 (by decide) ?_
      exact r_zreturn hC hM (by decide) ⟨_, rfl, hw⟩ (by rw [hR]; decide) (by rw [hR]; decide) dX7_isOnlyNew_21
def wp_X7_wanted (x1 : Int) (σ : St) (po : Int → St → Prop) : Prop := po (zand (zor (zor (zshr x1 6) (zshr x1 3)) x1) 7) σ
set_option maxRecDepth 100000 in
set_option maxHeartbeats 4000000 in
theorem c_X7_wanted (l : Launch) {x1 : Int} {σ : St} {po : Int → St → Prop} (hw : wp_X7_wanted x1 σ po) : MT l yX7_wanted cX7_wanted 1 (some .int) ({ frames := 0, cells := 0, slots := 0, locals := 0 } : Room) [wi x1] σ (PI po) := by
  refine MT_of (by decide) (Nat.le_of_ble_eq_true rfl) (fun K hL hR hC hM => ?_)
  subst hL
  unfold wp_X7_wanted at hw
  show J K 0 [some (wi x1)] [] σ 0 0
  refine r_iload_n hC dX7_wanted_0 rfl ?_
  refine r_bipush hC dX7_wanted_1 (by decide) ?_
  refine r_ishr hC dX7_wanted_3 ?_
  refine r_iload_n hC dX7_wanted_4 rfl ?_
  refine r_iconst hC dX7_wanted_5 ?_
  refine r_ishr hC dX7_wanted_6 ?_
  refine r_ior hC dX7_wanted_7 ?_
  refine r_iload_n hC dX7_wanted_8 rfl ?_
  refine r_ior hC dX7_wanted_9 ?_
  refine r_bipush hC dX7_wanted_10 (by decide) ?_
  refine r_iand hC dX7_wanted_12 ?_
  exact r_ireturn hC hM ⟨_, rfl, hw⟩ (by rw [hR]; decide) (by rw [hR]; decide) dX7_wanted_13
def wp_X5_mayOf (a0 : Nat) (o1 : Option Nat) (σ : St) (po : Int → St → Prop) : Prop := ∃ a101, o1 = some a101 ∧ (nm (gI σ 11 a101 0) ≠ 0 → (nm (gI σ 11 a101 0) = nm (gI σ 35 a0 0) → po (zand (zshr (gI σ 39 a0 0) 6) 7) σ) ∧
 (nm (gI σ 11 a101 0) ≠ nm (gI σ 35 a0 0) → (nm (gI σ 11 a101 0) ≠ nm (gI σ 37 a0 0) → (nm (gI σ 12 a101 0) = nm (gI σ 36 a0 0) → po (zand (zshr (gI σ 39 a0 0) 3) 7) σ) ∧
 (nm (gI σ 12 a101 0) ≠ nm (gI σ 36 a0 0) → (nm (gI σ 12 a101 0) ≠ nm (gI σ 38 a0 0) → po (zand (gI σ 39 a0 0) 7) σ) ∧
 (nm (gI σ 12 a101 0) = nm (gI σ 38 a0 0) → po (zand (zshr (gI σ 39 a0 0) 3) 7) σ))) ∧
 (nm (gI σ 11 a101 0) = nm (gI σ 37 a0 0) → po (zand (zshr (gI σ 39 a0 0) 6) 7) σ))) ∧
 (nm (gI σ 11 a101 0) = 0 → po 7 σ)
set_option maxRecDepth 100000 in
set_option maxHeartbeats 4000000 in
theorem c_X5_mayOf (l : Launch) {a0 : Nat} {o1 : Option Nat} {σ : St} {po : Int → St → Prop} (hw : wp_X5_mayOf a0 o1 σ po) : MT l yX5_mayOf cX5_mayOf 2 (some .int) ({ frames := 0, cells := 0, slots := 0, locals := 0 } : Room) [wr 20 (some a0), wr 10 o1] σ (PI po) := by
  refine MT_of (by decide) (Nat.le_of_ble_eq_true rfl) (fun K hL hR hC hM => ?_)
  subst hL
  unfold wp_X5_mayOf at hw
  show J K 0 [some (wr 20 (some a0)), some (wr 10 o1)] [] σ 0 0
  refine r_aload_n hC dX5_mayOf_0 rfl ?_
  obtain ⟨a101, rfl, hw⟩ := hw
  refine gf_X5_43 hC dX5_mayOf_1 ?_
  refine r_if_ne (tgt := 10) hC dX5_mayOf_4 (by decide) (fun h => ?_) (fun h => ?_)
  · replace hw := hw.1 h
    refine r_aload_n hC dX5_mayOf_10 rfl ?_
    refine gf_X5_43 hC dX5_mayOf_11 ?_
    refine r_aload_n hC dX5_mayOf_14 rfl ?_
    refine gf_X5_25 hC dX5_mayOf_15 ?_
    refine r_icmp_eq (tgt := 32) hC dX5_mayOf_18 (by decide) (fun h => ?_) (fun h => ?_)
    · replace hw := hw.1 h
      refine r_aload_n hC dX5_mayOf_32 rfl ?_
      refine gf_X5_37 hC dX5_mayOf_33 ?_
      refine r_bipush hC dX5_mayOf_36 (by decide) ?_
      refine r_ishr hC dX5_mayOf_38 ?_
      refine r_bipush hC dX5_mayOf_39 (by decide) ?_
      refine r_iand hC dX5_mayOf_41 ?_
      exact r_ireturn hC hM ⟨_, rfl, hw⟩ (by rw [hR]; decide) (by rw [hR]; decide) dX5_mayOf_42
    · replace hw := hw.2 h
      refine r_aload_n hC dX5_mayOf_21 rfl ?_
      refine gf_X5_43 hC dX5_mayOf_22 ?_
      refine r_aload_n hC dX5_mayOf_25 rfl ?_
      refine gf_X5_31 hC dX5_mayOf_26 ?_
      refine r_icmp_ne (tgt := 43) hC dX5_mayOf_29 (by decide) (fun h => ?_) (fun h => ?_)
      · replace hw := hw.1 h
        refine r_aload_n hC dX5_mayOf_43 rfl ?_
        refine gf_X5_48 hC dX5_mayOf_44 ?_
        refine r_aload_n hC dX5_mayOf_47 rfl ?_
        refine gf_X5_28 hC dX5_mayOf_48 ?_
        refine r_icmp_eq (tgt := 65) hC dX5_mayOf_51 (by decide) (fun h => ?_) (fun h => ?_)
        · replace hw := hw.1 h
          refine r_aload_n hC dX5_mayOf_65 rfl ?_
          refine gf_X5_37 hC dX5_mayOf_66 ?_
          refine r_iconst hC dX5_mayOf_69 ?_
          refine r_ishr hC dX5_mayOf_70 ?_
          refine r_bipush hC dX5_mayOf_71 (by decide) ?_
          refine r_iand hC dX5_mayOf_73 ?_
          exact r_ireturn hC hM ⟨_, rfl, hw⟩ (by rw [hR]; decide) (by rw [hR]; decide) dX5_mayOf_74
        · replace hw := hw.2 h
          refine r_aload_n hC dX5_mayOf_54 rfl ?_
          refine gf_X5_48 hC dX5_mayOf_55 ?_
          refine r_aload_n hC dX5_mayOf_58 rfl ?_
          refine gf_X5_34 hC dX5_mayOf_59 ?_
          refine r_icmp_ne (tgt := 75) hC dX5_mayOf_62 (by decide) (fun h => ?_) (fun h => ?_)
          · replace hw := hw.1 h
            refine r_aload_n hC dX5_mayOf_75 rfl ?_
            refine gf_X5_37 hC dX5_mayOf_76 ?_
            refine r_bipush hC dX5_mayOf_79 (by decide) ?_
            refine r_iand hC dX5_mayOf_81 ?_
            exact r_ireturn hC hM ⟨_, rfl, hw⟩ (by rw [hR]; decide) (by rw [hR]; decide) dX5_mayOf_82
          · replace hw := hw.2 h
            refine r_aload_n hC dX5_mayOf_65 rfl ?_
            refine gf_X5_37 hC dX5_mayOf_66 ?_
            refine r_iconst hC dX5_mayOf_69 ?_
            refine r_ishr hC dX5_mayOf_70 ?_
            refine r_bipush hC dX5_mayOf_71 (by decide) ?_
            refine r_iand hC dX5_mayOf_73 ?_
            exact r_ireturn hC hM ⟨_, rfl, hw⟩ (by rw [hR]; decide) (by rw [hR]; decide) dX5_mayOf_74
      · replace hw := hw.2 h
        refine r_aload_n hC dX5_mayOf_32 rfl ?_
        refine gf_X5_37 hC dX5_mayOf_33 ?_
        refine r_bipush hC dX5_mayOf_36 (by decide) ?_
        refine r_ishr hC dX5_mayOf_38 ?_
        refine r_bipush hC dX5_mayOf_39 (by decide) ?_
        refine r_iand hC dX5_mayOf_41 ?_
        exact r_ireturn hC hM ⟨_, rfl, hw⟩ (by rw [hR]; decide) (by rw [hR]; decide) dX5_mayOf_42
  · replace hw := hw.2 h
    refine r_bipush hC dX5_mayOf_7 (by decide) ?_
    exact r_ireturn hC hM ⟨_, rfl, hw⟩ (by rw [hR]; decide) (by rw [hR]; decide) dX5_mayOf_9
def wp_X5_grantsAll (a0 : Nat) (o1 : Option Nat) (x2 : Int) (σ : St) (po : Int → St → Prop) : Prop := wp_X5_mayOf a0 o1 σ (fun r101 s101 => (nm (zand x2 (zxor r101 (-1))) ≠ 0 → po 0 s101) ∧
 (nm (zand x2 (zxor r101 (-1))) = 0 → po 1 s101))
set_option maxRecDepth 100000 in
set_option maxHeartbeats 4000000 in
theorem c_X5_grantsAll (l : Launch) {a0 : Nat} {o1 : Option Nat} {x2 : Int} {σ : St} {po : Int → St → Prop} (hw : wp_X5_grantsAll a0 o1 x2 σ po) : MT l yX5_grantsAll cX5_grantsAll 3 (some .boolean) ({ frames := 1, cells := 0, slots := 0, locals := 21 } : Room) [wr 20 (some a0), wr 10 o1, wi x2] σ (PI po) := by
  refine MT_of (by decide) (Nat.le_of_ble_eq_true rfl) (fun K hL hR hC hM => ?_)
  subst hL
  unfold wp_X5_grantsAll at hw
  show J K 0 [some (wr 20 (some a0)), some (wr 10 o1), some (wi x2)] [] σ 0 0
  refine r_iload_n hC dX5_grantsAll_0 rfl ?_
  refine r_aload_n hC dX5_grantsAll_1 rfl ?_
  refine r_aload_n hC dX5_grantsAll_2 rfl ?_
  refine cl_X5_51 hC (c_X5_mayOf (kL K) hw) (by rw [hR]; decide) (Nat.le_of_ble_eq_true rfl) dX5_grantsAll_3 (fun r101 s101 hq => ?_)
  clear hw
  have hw := hq
  clear hq
  refine r_iconst hC dX5_grantsAll_6 ?_
  refine r_ixor hC dX5_grantsAll_7 ?_
  refine r_iand hC dX5_grantsAll_8 ?_
  refine r_if_ne (tgt := 16) hC dX5_grantsAll_9 (by decide) (fun h => ?_) (fun h => ?_)
  · replace hw := hw.1 h
    refine r_iconst hC dX5_grantsAll_16 ?_
    exact r_zreturn hC hM (by decide) ⟨_, rfl, hw⟩ (by rw [hR]; decide) (by rw [hR]; decide) dX5_grantsAll_17
  · replace hw := hw.2 h
    refine r_iconst hC dX5_grantsAll_12 ?_
    refine r_goto (tgt := 17) hC dX5_grantsAll_13 (by decide) ?_
    exact r_zreturn hC hM (by decide) ⟨_, rfl, hw⟩ (by rw [hR]; decide) (by rw [hR]; decide) dX5_grantsAll_17
def wp_X7_openQueue (o1 : Option Nat) (x2 : Int) (x3 : Int) (σ : St) (po : Int → St → Prop) : Prop := wp_X7_isWithin x2 1000000 σ (fun r101 s101 => (nm r101 = 0 → po (-4) s101) ∧
 (nm r101 ≠ 0 → wp_X7_isWithin x3 2047 s101 (fun r102 s102 => (nm r102 ≠ 0 → wp_X7_thingByKey 2 (some 0) x2 s102 (fun o101 s103 => (o101 = none → wp_X7_isMade x2 x3 s103 (fun r103 s104 => (nm r103 = 0 → po (-8) s104) ∧
 (nm r103 ≠ 0 → wp_X7_makeQueue o1 x2 x3 s104 (fun r104 s105 => po r104 s105)))) ∧
 (∀ a101, o101 = some a101 → wp_X7_isOnlyNew x3 s103 (fun r105 s106 => (nm r105 = 0 → wp_X7_wanted x3 s106 (fun r106 s107 => wp_X5_grantsAll a101 o1 r106 s107 (fun r107 s108 => (nm r107 = 0 → po (-6) s108) ∧
 (nm r107 ≠ 0 → po (gI s108 33 a101 0) s108)))) ∧
 (nm r105 ≠ 0 → po (-7) s106))))) ∧
 (nm r102 = 0 → po (-4) s102))))
set_option maxRecDepth 100000 in
set_option maxHeartbeats 4000000 in
theorem c_X7_openQueue (l : Launch) {o1 : Option Nat} {x2 : Int} {x3 : Int} {σ : St} {po : Int → St → Prop} (hw : wp_X7_openQueue o1 x2 x3 σ po) : MT l yX7_openQueue cX7_openQueue 5 (some .int) ({ frames := 4, cells := 2, slots := 54, locals := 89 } : Room) [wr 0 (some 0), wr 10 o1, wi x2, wi x3] σ (PI po) := by
  refine MT_of (by decide) (Nat.le_of_ble_eq_true rfl) (fun K hL hR hC hM => ?_)
  subst hL
  unfold wp_X7_openQueue at hw
  show J K 0 [some (wr 0 (some 0)), some (wr 10 o1), some (wi x2), some (wi x3), none] [] σ 0 0
  refine r_iload_n hC dX7_openQueue_0 rfl ?_
  refine r_ldc hC 1000000 (wg 349 (by decide +kernel) (by decide +kernel)) rfl dX7_openQueue_1 ?_
  refine cl_X7_34 hC (c_X7_isWithin (kL K) hw) (by rw [hR]; decide) (Nat.le_of_ble_eq_true rfl) dX7_openQueue_3 (fun r101 s101 hq => ?_)
  clear hw
  have hw := hq
  clear hq
  refine r_if_eq (tgt := 19) hC dX7_openQueue_6 (by decide) (fun h => ?_) (fun h => ?_)
  · replace hw := hw.1 h
    refine r_bipush hC dX7_openQueue_19 (by decide) ?_
    exact r_ireturn hC hM ⟨_, rfl, hw⟩ (by rw [hR]; decide) (by rw [hR]; decide) dX7_openQueue_21
  · replace hw := hw.2 h
    refine r_iload_n hC dX7_openQueue_9 rfl ?_
    refine r_sipush hC dX7_openQueue_10 (by decide) ?_
    refine cl_X7_34 hC (c_X7_isWithin (kL K) hw) (by rw [hR]; decide) (Nat.le_of_ble_eq_true rfl) dX7_openQueue_13 (fun r102 s102 hq => ?_)
    clear hw
    have hw := hq
    clear hq
    refine r_if_ne (tgt := 22) hC dX7_openQueue_16 (by decide) (fun h => ?_) (fun h => ?_)
    · replace hw := hw.1 h
      refine r_aload_n hC dX7_openQueue_22 rfl ?_
      refine gf_X7_21 hC dX7_openQueue_23 ?_
      refine r_iload_n hC dX7_openQueue_26 rfl ?_
      refine cl_X7_242 hC (c_X7_thingByKey (kL K) hw) (by rw [hR]; decide) (Nat.le_of_ble_eq_true rfl) dX7_openQueue_27 (fun o101 s103 hq => ?_)
      clear hw
      have hw := hq
      clear hq
      refine r_astore (l' := [_, _, _, _, _]) hC dX7_openQueue_30 rfl (by decide) rfl ?_
      refine r_aload hC dX7_openQueue_32 rfl ?_
      refine r_ifnonnull (tgt := 58) hC dX7_openQueue_34 (by decide) (fun a101 h => ?_) (fun h => ?_)
      · replace hw := hw.2 a101 h
        subst h
        refine r_iload_n hC dX7_openQueue_58 rfl ?_
        refine cl_X7_251 hC (c_X7_isOnlyNew (kL K) hw) (by rw [hR]; decide) (Nat.le_of_ble_eq_true rfl) dX7_openQueue_59 (fun r105 s106 hq => ?_)
        clear hw
        have hw := hq
        clear hq
        refine r_if_eq (tgt := 68) hC dX7_openQueue_62 (by decide) (fun h => ?_) (fun h => ?_)
        · replace hw := hw.1 h
          refine r_aload hC dX7_openQueue_68 rfl ?_
          refine r_aload_n hC dX7_openQueue_70 rfl ?_
          refine r_iload_n hC dX7_openQueue_71 rfl ?_
          refine cl_X7_254 hC (c_X7_wanted (kL K) hw) (by rw [hR]; decide) (Nat.le_of_ble_eq_true rfl) dX7_openQueue_72 (fun r106 s107 hq => ?_)
          clear hw
          have hw := hq
          clear hq
          refine cl_X7_257 hC (c_X5_grantsAll (kL K) hw) (by rw [hR]; decide) (Nat.le_of_ble_eq_true rfl) dX7_openQueue_75 (fun r107 s108 hq => ?_)
          clear hw
          have hw := hq
          clear hq
          refine r_if_eq (tgt := 89) hC dX7_openQueue_78 (by decide) (fun h => ?_) (fun h => ?_)
          · replace hw := hw.1 h
            refine r_bipush hC dX7_openQueue_89 (by decide) ?_
            exact r_ireturn hC hM ⟨_, rfl, hw⟩ (by rw [hR]; decide) (by rw [hR]; decide) dX7_openQueue_91
          · replace hw := hw.2 h
            refine r_aload hC dX7_openQueue_81 rfl ?_
            refine gf_X7_216 hC dX7_openQueue_83 ?_
            refine r_goto (tgt := 91) hC dX7_openQueue_86 (by decide) ?_
            exact r_ireturn hC hM ⟨_, rfl, hw⟩ (by rw [hR]; decide) (by rw [hR]; decide) dX7_openQueue_91
        · replace hw := hw.2 h
          refine r_bipush hC dX7_openQueue_65 (by decide) ?_
          exact r_ireturn hC hM ⟨_, rfl, hw⟩ (by rw [hR]; decide) (by rw [hR]; decide) dX7_openQueue_67
      · replace hw := hw.1 h
        subst h
        refine r_iload_n hC dX7_openQueue_37 rfl ?_
        refine r_iload_n hC dX7_openQueue_38 rfl ?_
        refine cl_X7_245 hC (c_X7_isMade (kL K) hw) (by rw [hR]; decide) (Nat.le_of_ble_eq_true rfl) dX7_openQueue_39 (fun r103 s104 hq => ?_)
        clear hw
        have hw := hq
        clear hq
        refine r_if_eq (tgt := 55) hC dX7_openQueue_42 (by decide) (fun h => ?_) (fun h => ?_)
        · replace hw := hw.1 h
          refine r_bipush hC dX7_openQueue_55 (by decide) ?_
          exact r_ireturn hC hM ⟨_, rfl, hw⟩ (by rw [hR]; decide) (by rw [hR]; decide) dX7_openQueue_57
        · replace hw := hw.2 h
          refine r_aload_n hC dX7_openQueue_45 rfl ?_
          refine r_aload_n hC dX7_openQueue_46 rfl ?_
          refine r_iload_n hC dX7_openQueue_47 rfl ?_
          refine r_iload_n hC dX7_openQueue_48 rfl ?_
          refine cl_X7_248 hC (c_X7_makeQueue (kL K) hw) (by rw [hR]; decide) (Nat.le_of_ble_eq_true rfl) dX7_openQueue_49 (fun r104 s105 hq => ?_)
          clear hw
          have hw := hq
          clear hq
          refine r_goto (tgt := 57) hC dX7_openQueue_52 (by decide) ?_
          exact r_ireturn hC hM ⟨_, rfl, hw⟩ (by rw [hR]; decide) (by rw [hR]; decide) dX7_openQueue_57
    · replace hw := hw.2 h
      refine r_bipush hC dX7_openQueue_19 (by decide) ?_
      exact r_ireturn hC hM ⟨_, rfl, hw⟩ (by rw [hR]; decide) (by rw [hR]; decide) dX7_openQueue_21
def wp_X2_told (a0 : Nat) (x1 : Int) (σ : St) (po : Int → St → Prop) : Prop := ∀ s101, s101 = uI σ 14 a0 0 x1 → po x1 s101
set_option maxRecDepth 100000 in
set_option maxHeartbeats 4000000 in
theorem c_X2_told (l : Launch) {a0 : Nat} {x1 : Int} {σ : St} {po : Int → St → Prop} (hw : wp_X2_told a0 x1 σ po) : MT l yX2_told cX2_told 2 (some .int) ({ frames := 0, cells := 0, slots := 0, locals := 0 } : Room) [wr 10 (some a0), wi x1] σ (PI po) := by
  refine MT_of (by decide) (Nat.le_of_ble_eq_true rfl) (fun K hL hR hC hM => ?_)
  subst hL
  unfold wp_X2_told at hw
  show J K 0 [some (wr 10 (some a0)), some (wi x1)] [] σ 0 0
  refine r_aload_n hC dX2_told_0 rfl ?_
  refine r_iload_n hC dX2_told_1 rfl ?_
  refine pf_X2_40 hC dX2_told_2 (fun s101 e9 => ?_)
  replace hw := hw s101 e9
  clear e9
  refine r_iload_n hC dX2_told_5 rfl ?_
  exact r_ireturn hC hM ⟨_, rfl, hw⟩ (by rw [hR]; decide) (by rw [hR]; decide) dX2_told_6
def wp_X7_queue (x1 : Int) (x2 : Int) (x3 : Int) (σ : St) (po : Int → St → Prop) : Prop := wp_X7_processAt x1 σ (fun o101 s101 => (o101 = none → po (-2) s101) ∧
 (∀ a101, o101 = some a101 → wp_X2_isFree a101 s101 (fun r101 s102 => (nm r101 = 0 → po (-3) s102) ∧
 (nm r101 ≠ 0 → wp_X7_openQueue (some a101) x2 x3 s102 (fun r102 s103 => wp_X2_told a101 r102 s103 (fun r103 s104 => po r103 s104))))))
set_option maxRecDepth 100000 in
set_option maxHeartbeats 4000000 in
theorem c_X7_queue (l : Launch) {x1 : Int} {x2 : Int} {x3 : Int} {σ : St} {po : Int → St → Prop} (hw : wp_X7_queue x1 x2 x3 σ po) : MT l yX7_queue cX7_queue 5 (some .int) ({ frames := 5, cells := 2, slots := 54, locals := 113 } : Room) [wr 0 (some 0), wi x1, wi x2, wi x3] σ (PI po) := by
  refine MT_of (by decide) (Nat.le_of_ble_eq_true rfl) (fun K hL hR hC hM => ?_)
  subst hL
  unfold wp_X7_queue at hw
  show J K 0 [some (wr 0 (some 0)), some (wi x1), some (wi x2), some (wi x3), none] [] σ 0 0
  refine r_aload_n hC dX7_queue_0 rfl ?_
  refine r_iload_n hC dX7_queue_1 rfl ?_
  refine cl_X7_41 hC (c_X7_processAt (kL K) hw) (by rw [hR]; decide) (Nat.le_of_ble_eq_true rfl) dX7_queue_2 (fun o101 s101 hq => ?_)
  clear hw
  have hw := hq
  clear hq
  refine r_astore (l' := [_, _, _, _, _]) hC dX7_queue_5 rfl (by decide) rfl ?_
  refine r_aload hC dX7_queue_7 rfl ?_
  refine r_ifnonnull (tgt := 15) hC dX7_queue_9 (by decide) (fun a101 h => ?_) (fun h => ?_)
  · replace hw := hw.2 a101 h
    subst h
    refine r_aload hC dX7_queue_15 rfl ?_
    refine cl_X7_86 hC (c_X2_isFree (kL K) hw) (by rw [hR]; decide) (Nat.le_of_ble_eq_true rfl) dX7_queue_17 (fun r101 s102 hq => ?_)
    clear hw
    have hw := hq
    clear hq
    refine r_if_eq (tgt := 39) hC dX7_queue_20 (by decide) (fun h => ?_) (fun h => ?_)
    · replace hw := hw.1 h
      refine r_bipush hC dX7_queue_39 (by decide) ?_
      exact r_ireturn hC hM ⟨_, rfl, hw⟩ (by rw [hR]; decide) (by rw [hR]; decide) dX7_queue_41
    · replace hw := hw.2 h
      refine r_aload hC dX7_queue_23 rfl ?_
      refine r_aload_n hC dX7_queue_25 rfl ?_
      refine r_aload hC dX7_queue_26 rfl ?_
      refine r_iload_n hC dX7_queue_28 rfl ?_
      refine r_iload_n hC dX7_queue_29 rfl ?_
      refine cl_X7_90 hC (c_X7_openQueue (kL K) hw) (by rw [hR]; decide) (Nat.le_of_ble_eq_true rfl) dX7_queue_30 (fun r102 s103 hq => ?_)
      clear hw
      have hw := hq
      clear hq
      refine cl_X7_94 hC (c_X2_told (kL K) hw) (by rw [hR]; decide) (Nat.le_of_ble_eq_true rfl) dX7_queue_33 (fun r103 s104 hq => ?_)
      clear hw
      have hw := hq
      clear hq
      refine r_goto (tgt := 41) hC dX7_queue_36 (by decide) ?_
      exact r_ireturn hC hM ⟨_, rfl, hw⟩ (by rw [hR]; decide) (by rw [hR]; decide) dX7_queue_41
  · replace hw := hw.1 h
    subst h
    refine r_bipush hC dX7_queue_12 (by decide) ?_
    exact r_ireturn hC hM ⟨_, rfl, hw⟩ (by rw [hR]; decide) (by rw [hR]; decide) dX7_queue_14
def wp_X0_clear_35 (po : St → Prop) : Nat → Nat → Int → St → Prop
  | 0, _, _, _ => False
  | n + 1, a0, x2, σ => (nm 128 ≤ nm x2 → po σ) ∧
 (nm x2 < nm 128 → 12 ≤ a0 ∧ (0 ≤ nm x2 ∧ nm x2 < 128) ∧ ∀ s102, s102 = uI σ 48 a0 (nm x2).toNat 0 → wp_X0_clear_35 po n a0 (x2 + 1) s102)
set_option maxRecDepth 100000 in
set_option maxHeartbeats 4000000 in
theorem j_X0_clear_35 {K : JK} (hR : kRm K = ({ frames := 0, cells := 0, slots := 0, locals := 0 } : Room)) (hC : Cx K cX0_clear 3 RX0) {po : St → Prop} (hM : Mx K none (PV po)) : ∀ (n : Nat) (a0 : Nat) (x2 : Int) (σ : St), wp_X0_clear_35 po n a0 x2 σ → J K 35 [some (wr 20 (some a0)), none, some (wi x2)] [] σ 0 0 := by
  intro n
  induction n with
  | zero =>
    intro a0 x2 σ hw
    exact False.elim hw
  | succ n ih =>
    intro a0 x2 σ hw
    unfold wp_X0_clear_35 at hw
    refine r_iload_n hC dX0_clear_35 rfl ?_
    refine r_sipush hC dX0_clear_36 (by decide) ?_
    refine r_icmp_ge (tgt := 55) hC dX0_clear_39 (by decide) (fun h => ?_) (fun h => ?_)
    · replace hw := hw.1 h
      exact r_vreturn hC hM ⟨rfl, hw⟩ (by rw [hR]; decide) (by rw [hR]; decide) dX0_clear_55
    · replace hw := hw.2 h
      refine r_aload_n hC dX0_clear_42 rfl ?_
      have h102 := hw.1
      replace hw := hw.2
      refine gf_X0_22 hC h102 dX0_clear_43 ?_
      refine r_iload_n hC dX0_clear_46 rfl ?_
      refine r_iconst hC dX0_clear_47 ?_
      refine r_iastore hC rfl (by decide) hw.1 dX0_clear_48 (fun s102 e9 => ?_)
      replace hw := hw.2 s102 e9
      clear e9
      refine r_iinc (l' := [_, _, _]) hC dX0_clear_49 rfl rfl (by decide) rfl ?_
      refine r_goto (tgt := 35) hC dX0_clear_52 (by decide) ?_
      exact J.drop2 (ih a0 (x2 + 1) s102 hw) ⟨rfl, rfl, trivial⟩
def wp_X0_clear_7 (po : St → Prop) : Nat → Nat → Int → St → Prop
  | 0, _, _, _ => False
  | n + 1, a0, x2, σ => (nm 8 ≤ nm x2 → ∃ n9, wp_X0_clear_35 po n9 a0 0 σ) ∧
 (nm x2 < nm 8 → 12 ≤ a0 ∧ (0 ≤ nm x2 ∧ nm x2 < 8) ∧ ∀ s103, s103 = uI σ 46 a0 (nm x2).toNat 0 → (0 ≤ nm x2 ∧ nm x2 < 8) ∧ ∀ s104, s104 = uI s103 47 a0 (nm x2).toNat (-1) → wp_X0_clear_7 po n a0 (x2 + 1) s104)
set_option maxRecDepth 100000 in
set_option maxHeartbeats 4000000 in
theorem j_X0_clear_7 {K : JK} (hR : kRm K = ({ frames := 0, cells := 0, slots := 0, locals := 0 } : Room)) (hC : Cx K cX0_clear 3 RX0) {po : St → Prop} (hM : Mx K none (PV po)) : ∀ (n : Nat) (a0 : Nat) (x2 : Int) (σ : St), wp_X0_clear_7 po n a0 x2 σ → J K 7 [some (wr 20 (some a0)), none, some (wi x2)] [] σ 0 0 := by
  intro n
  induction n with
  | zero =>
    intro a0 x2 σ hw
    exact False.elim hw
  | succ n ih =>
    intro a0 x2 σ hw
    unfold wp_X0_clear_7 at hw
    refine r_iload_n hC dX0_clear_7 rfl ?_
    refine r_bipush hC dX0_clear_8 (by decide) ?_
    refine r_icmp_ge (tgt := 33) hC dX0_clear_10 (by decide) (fun h => ?_) (fun h => ?_)
    · replace hw := hw.1 h
      refine r_iconst hC dX0_clear_33 ?_
      refine r_istore_n (l' := [_, _, _]) hC dX0_clear_34 rfl (by decide) rfl ?_
      obtain ⟨n9, hw⟩ := hw
      exact J.drop2 (j_X0_clear_35 hR hC hM n9 a0 0 σ hw) ⟨rfl, rfl, trivial⟩
    · replace hw := hw.2 h
      refine r_aload_n hC dX0_clear_13 rfl ?_
      have h103 := hw.1
      replace hw := hw.2
      refine gf_X0_15 hC h103 dX0_clear_14 ?_
      refine r_iload_n hC dX0_clear_17 rfl ?_
      refine r_iconst hC dX0_clear_18 ?_
      refine r_iastore hC rfl (by decide) hw.1 dX0_clear_19 (fun s103 e9 => ?_)
      replace hw := hw.2 s103 e9
      clear e9
      refine r_aload_n hC dX0_clear_20 rfl ?_
      refine gf_X0_19 hC h103 dX0_clear_21 ?_
      refine r_iload_n hC dX0_clear_24 rfl ?_
      refine r_iconst hC dX0_clear_25 ?_
      refine r_iastore hC rfl (by decide) hw.1 dX0_clear_26 (fun s104 e9 => ?_)
      replace hw := hw.2 s104 e9
      clear e9
      refine r_iinc (l' := [_, _, _]) hC dX0_clear_27 rfl rfl (by decide) rfl ?_
      refine r_goto (tgt := 7) hC dX0_clear_30 (by decide) ?_
      exact J.drop2 (ih a0 (x2 + 1) s104 hw) ⟨rfl, rfl, trivial⟩
def wp_X0_clear (a0 : Nat) (x1 : Int) (σ : St) (po : St → Prop) : Prop := 12 ≤ a0 ∧ ∀ s101, s101 = uI σ 45 a0 0 x1 → ∃ n9, wp_X0_clear_7 po n9 a0 0 s101
set_option maxRecDepth 100000 in
set_option maxHeartbeats 4000000 in
theorem c_X0_clear (l : Launch) {a0 : Nat} {x1 : Int} {σ : St} {po : St → Prop} (hw : wp_X0_clear a0 x1 σ po) : MT l yX0_clear cX0_clear 3 none ({ frames := 0, cells := 0, slots := 0, locals := 0 } : Room) [wr 20 (some a0), wi x1] σ (PV po) := by
  refine MT_of (by decide) (Nat.le_of_ble_eq_true rfl) (fun K hL hR hC hM => ?_)
  subst hL
  unfold wp_X0_clear at hw
  show J K 0 [some (wr 20 (some a0)), some (wi x1), none] [] σ 0 0
  refine r_aload_n hC dX0_clear_0 rfl ?_
  refine r_iload_n hC dX0_clear_1 rfl ?_
  have h101 := hw.1
  replace hw := hw.2
  refine pf_X0_9 hC h101 dX0_clear_2 (fun s101 e9 => ?_)
  replace hw := hw s101 e9
  clear e9
  refine r_iconst hC dX0_clear_5 ?_
  refine r_istore_n (l' := [_, _, _]) hC dX0_clear_6 rfl (by decide) rfl ?_
  obtain ⟨n9, hw⟩ := hw
  exact J.drop2 (j_X0_clear_7 hR hC hM n9 a0 0 s101 hw) ⟨rfl, rfl, trivial⟩
def wp_X7_makeSet_69 (po : Int → St → Prop) (o1 : Option Nat) (x2 : Int) (x3 : Int) (x4 : Int) (x5 : Int) (p0 : Option Nat) (σ : St) : Prop := (0 ≤ nm x5 ∧ nm x5 < 12) ∧ ∀ s103, s103 = uR σ 3 0 (nm x5).toNat p0 → ∃ a101, p0 = some a101 ∧ 12 ≤ a101 ∧ wp_X5_begin a101 o1 x2 (zand x4 511) s103 (fun s104 => wp_X0_clear a101 x3 s104 (fun s105 => po (gI s105 33 a101 0) s105))
set_option maxRecDepth 100000 in
set_option maxHeartbeats 4000000 in
theorem j_X7_makeSet_69 {K : JK} (hR : kRm K = ({ frames := 3, cells := 6, slots := 177, locals := 62 } : Room)) (hC : Cx K cX7_makeSet 9 RX7) {po : Int → St → Prop} (hM : Mx K (some .int) (PI po)) : ∀ (o1 : Option Nat) (x2 : Int) (x3 : Int) (x4 : Int) (x5 : Int) (p0 : Option Nat) (σ : St), wp_X7_makeSet_69 po o1 x2 x3 x4 x5 p0 σ → J K 69 [some (wr 0 (some 0)), some (wr 10 o1), some (wi x2), some (wi x3), some (wi x4), some (wi x5), none, none, none] [wr 20 p0] σ 6 177 := by
  intro o1 x2 x3 x4 x5 p0 σ hw
  unfold wp_X7_makeSet_69 at hw
  refine r_astore (l' := [_, _, _, _, _, _, _, _, _]) hC dX7_makeSet_69 rfl (by decide) rfl ?_
  refine r_aload_n hC dX7_makeSet_71 rfl ?_
  refine gf_X7_25 hC dX7_makeSet_72 ?_
  refine r_iload hC dX7_makeSet_75 rfl ?_
  refine r_aload hC dX7_makeSet_77 rfl ?_
  refine r_aastore hC (kd := 20) (Or.inr (Or.inl ⟨rfl, rfl⟩)) (by decide) rfl hw.1 dX7_makeSet_79 (fun s103 e9 => ?_)
  replace hw := hw.2 s103 e9
  clear e9
  refine r_aload hC dX7_makeSet_80 rfl ?_
  refine r_aload_n hC dX7_makeSet_82 rfl ?_
  refine r_iload_n hC dX7_makeSet_83 rfl ?_
  refine r_iload hC dX7_makeSet_84 rfl ?_
  refine r_sipush hC dX7_makeSet_86 (by decide) ?_
  refine r_iand hC dX7_makeSet_89 ?_
  obtain ⟨a101, rfl, hw⟩ := hw
  have h101 := hw.1
  replace hw := hw.2
  refine cl_X7_279 hC h101 (c_X5_begin (kL K) hw) (by rw [hR]; decide) (Nat.le_of_ble_eq_true rfl) dX7_makeSet_90 (fun s104 hq => ?_)
  clear hw
  have hw := hq
  clear hq
  refine r_aload hC dX7_makeSet_93 rfl ?_
  refine r_iload_n hC dX7_makeSet_95 rfl ?_
  refine cl_X7_280 hC h101 (c_X0_clear (kL K) hw) (by rw [hR]; decide) (Nat.le_of_ble_eq_true rfl) dX7_makeSet_96 (fun s105 hq => ?_)
  clear hw
  have hw := hq
  clear hq
  refine r_aload hC dX7_makeSet_99 rfl ?_
  refine gf_X7_283 hC dX7_makeSet_101 ?_
  exact r_ireturn hC hM ⟨_, rfl, hw⟩ (by rw [hR]; decide) (by rw [hR]; decide) dX7_makeSet_104
def wp_X7_makeSet (o1 : Option Nat) (x2 : Int) (x3 : Int) (x4 : Int) (σ : St) (po : Int → St → Prop) : Prop := (nm x3 ≠ 0 → wp_X7_freeSlot 3 (some 0) σ (fun r101 s101 => (nm r101 < 0 → po (-9) s101) ∧
 (0 ≤ nm r101 → (nm r101 < nm 12 → (0 ≤ nm r101 ∧ nm r101 < 12) ∧ ∀ o101, o101 = gR s101 3 0 (nm r101).toNat → (o101 = none → freeCounterSet s101 r101 ∧ ∀ s102, newCounterSet s101 r101 s102 → wp_X7_makeSet_69 po o1 x2 x3 x4 r101 (some (12 + (nm r101).toNat)) s102) ∧
 (∀ a102, o101 = some a102 → 12 ≤ a102 ∧ wp_X7_makeSet_69 po o1 x2 x3 x4 r101 (some a102) s101)) ∧
 (nm 12 ≤ nm r101 → po (-9) s101)))) ∧
 (nm x3 = 0 → po (-5) σ)
set_option maxRecDepth 100000 in
set_option maxHeartbeats 4000000 in
theorem c_X7_makeSet (l : Launch) {o1 : Option Nat} {x2 : Int} {x3 : Int} {x4 : Int} {σ : St} {po : Int → St → Prop} (hw : wp_X7_makeSet o1 x2 x3 x4 σ po) : MT l yX7_makeSet cX7_makeSet 9 (some .int) ({ frames := 3, cells := 6, slots := 177, locals := 62 } : Room) [wr 0 (some 0), wr 10 o1, wi x2, wi x3, wi x4] σ (PI po) := by
  refine MT_of (by decide) (Nat.le_of_ble_eq_true rfl) (fun K hL hR hC hM => ?_)
  subst hL
  unfold wp_X7_makeSet at hw
  show J K 0 [some (wr 0 (some 0)), some (wr 10 o1), some (wi x2), some (wi x3), some (wi x4), none, none, none, none] [] σ 0 0
  refine r_iload_n hC dX7_makeSet_0 rfl ?_
  refine r_if_ne (tgt := 7) hC dX7_makeSet_1 (by decide) (fun h => ?_) (fun h => ?_)
  · replace hw := hw.1 h
    refine r_aload_n hC dX7_makeSet_7 rfl ?_
    refine gf_X7_25 hC dX7_makeSet_8 ?_
    refine cl_X7_264 hC (c_X7_freeSlot (kL K) hw) (by rw [hR]; decide) (Nat.le_of_ble_eq_true rfl) dX7_makeSet_11 (fun r101 s101 hq => ?_)
    clear hw
    have hw := hq
    clear hq
    refine r_istore (l' := [_, _, _, _, _, _, _, _, _]) hC dX7_makeSet_14 rfl (by decide) rfl ?_
    refine r_iload hC dX7_makeSet_16 rfl ?_
    refine r_if_lt (tgt := 28) hC dX7_makeSet_18 (by decide) (fun h => ?_) (fun h => ?_)
    · replace hw := hw.1 h
      refine r_bipush hC dX7_makeSet_28 (by decide) ?_
      exact r_ireturn hC hM ⟨_, rfl, hw⟩ (by rw [hR]; decide) (by rw [hR]; decide) dX7_makeSet_30
    · replace hw := hw.2 h
      refine r_iload hC dX7_makeSet_21 rfl ?_
      refine r_bipush hC dX7_makeSet_23 (by decide) ?_
      refine r_icmp_lt (tgt := 31) hC dX7_makeSet_25 (by decide) (fun h => ?_) (fun h => ?_)
      · replace hw := hw.1 h
        refine r_aload_n hC dX7_makeSet_31 rfl ?_
        refine gf_X7_25 hC dX7_makeSet_32 ?_
        refine r_iload hC dX7_makeSet_35 rfl ?_
        refine r_aaload hC (kd := 20) (Or.inr (Or.inl ⟨rfl, rfl⟩)) (by decide) rfl hw.1 dX7_makeSet_37 (fun o101 e9 => ?_)
        replace hw := hw.2 o101 e9
        clear e9
        refine r_astore (l' := [_, _, _, _, _, _, _, _, _]) hC dX7_makeSet_38 rfl (by decide) rfl ?_
        refine r_aload hC dX7_makeSet_40 rfl ?_
        refine r_inst hC (ci := 0) rfl rfl (wg 258 (by decide +kernel) (by decide +kernel)) dX7_makeSet_42 (fun h => ?_) (fun a102 h => ?_)
        · replace hw := hw.1 h
          subst h
          refine r_if_eq (tgt := 60) hC dX7_makeSet_45 (by decide) (fun _ => ?_) (fun h => absurd h (by decide))
          have hf9 := hw.1
          replace hw := hw.2
          refine new_X7_makeSet hC (by rw [hR]; decide) rfl hf9 (fun s102 hn8 hn9 => ?_)
          replace hw := hw s102 hn9
          clear hn9
          exact J.drop2 (j_X7_makeSet_69 hR hC hM o1 x2 x3 x4 r101 (some (12 + (nm r101).toNat)) s102 hw) ⟨rfl, rfl, rfl, rfl, rfl, rfl, trivial⟩
        · replace hw := hw.2 a102 h
          subst h
          have h102 := hw.1
          replace hw := hw.2
          refine ⟨oCi_ge h102, ?_⟩
          refine r_if_eq (tgt := 60) hC dX7_makeSet_45 (by decide) (fun h => absurd h (by decide)) (fun _ => ?_)
          refine r_aload hC dX7_makeSet_48 rfl ?_
          refine r_cast hC (ci := 0) rfl rfl (wg 258 (by decide +kernel) (by decide +kernel)) dX7_makeSet_50 ⟨(fun a9 h9 => by cases h9; exact oCi_ge h102), ?_⟩
          refine r_astore (l' := [_, _, _, _, _, _, _, _, _]) hC dX7_makeSet_53 rfl (by decide) rfl ?_
          refine r_aload hC dX7_makeSet_55 rfl ?_
          refine r_goto (tgt := 69) hC dX7_makeSet_57 (by decide) ?_
          refine J.widen (k1 := 6) (k2 := 177) (by decide) (by decide) ?_
          exact J.drop2 (j_X7_makeSet_69 hR hC hM o1 x2 x3 x4 r101 (some a102) s101 hw) ⟨rfl, rfl, rfl, rfl, rfl, rfl, trivial⟩
      · replace hw := hw.2 h
        refine r_bipush hC dX7_makeSet_28 (by decide) ?_
        exact r_ireturn hC hM ⟨_, rfl, hw⟩ (by rw [hR]; decide) (by rw [hR]; decide) dX7_makeSet_30
  · replace hw := hw.2 h
    refine r_bipush hC dX7_makeSet_4 (by decide) ?_
    exact r_ireturn hC hM ⟨_, rfl, hw⟩ (by rw [hR]; decide) (by rw [hR]; decide) dX7_makeSet_6
def wp_X7_openSet (o1 : Option Nat) (x2 : Int) (x3 : Int) (x4 : Int) (σ : St) (po : Int → St → Prop) : Prop := wp_X7_isWithin x2 1000000 σ (fun r101 s101 => (nm r101 = 0 → po (-4) s101) ∧
 (nm r101 ≠ 0 → wp_X7_isWithin x3 8 s101 (fun r102 s102 => (nm r102 = 0 → po (-4) s102) ∧
 (nm r102 ≠ 0 → wp_X7_isWithin x4 2047 s102 (fun r103 s103 => (nm r103 ≠ 0 → wp_X7_thingByKey 3 (some 0) x2 s103 (fun o101 s104 => (o101 = none → wp_X7_isMade x2 x4 s104 (fun r104 s105 => (nm r104 = 0 → po (-8) s105) ∧
 (nm r104 ≠ 0 → wp_X7_makeSet o1 x2 x3 x4 s105 (fun r105 s106 => po r105 s106)))) ∧
 (∀ a101, o101 = some a101 → wp_X7_isOnlyNew x4 s104 (fun r106 s107 => (nm r106 = 0 → 12 ≤ a101 ∧ (nm x3 ≤ nm (gI s107 45 a101 0) → wp_X7_wanted x4 s107 (fun r107 s108 => wp_X5_grantsAll a101 o1 r107 s108 (fun r108 s109 => (nm r108 = 0 → po (-6) s109) ∧
 (nm r108 ≠ 0 → po (gI s109 33 a101 0) s109)))) ∧
 (nm (gI s107 45 a101 0) < nm x3 → po (-5) s107)) ∧
 (nm r106 ≠ 0 → po (-7) s107))))) ∧
 (nm r103 = 0 → po (-4) s103))))))
set_option maxRecDepth 100000 in
set_option maxHeartbeats 4000000 in
theorem c_X7_openSet (l : Launch) {o1 : Option Nat} {x2 : Int} {x3 : Int} {x4 : Int} {σ : St} {po : Int → St → Prop} (hw : wp_X7_openSet o1 x2 x3 x4 σ po) : MT l yX7_openSet cX7_openSet 7 (some .int) ({ frames := 4, cells := 6, slots := 177, locals := 90 } : Room) [wr 0 (some 0), wr 10 o1, wi x2, wi x3, wi x4] σ (PI po) := by
  refine MT_of (by decide) (Nat.le_of_ble_eq_true rfl) (fun K hL hR hC hM => ?_)
  subst hL
  unfold wp_X7_openSet at hw
  show J K 0 [some (wr 0 (some 0)), some (wr 10 o1), some (wi x2), some (wi x3), some (wi x4), none, none] [] σ 0 0
  refine r_iload_n hC dX7_openSet_0 rfl ?_
  refine r_ldc hC 1000000 (wg 349 (by decide +kernel) (by decide +kernel)) rfl dX7_openSet_1 ?_
  refine cl_X7_34 hC (c_X7_isWithin (kL K) hw) (by rw [hR]; decide) (Nat.le_of_ble_eq_true rfl) dX7_openSet_3 (fun r101 s101 hq => ?_)
  clear hw
  have hw := hq
  clear hq
  refine r_if_eq (tgt := 29) hC dX7_openSet_6 (by decide) (fun h => ?_) (fun h => ?_)
  · replace hw := hw.1 h
    refine r_bipush hC dX7_openSet_29 (by decide) ?_
    exact r_ireturn hC hM ⟨_, rfl, hw⟩ (by rw [hR]; decide) (by rw [hR]; decide) dX7_openSet_31
  · replace hw := hw.2 h
    refine r_iload_n hC dX7_openSet_9 rfl ?_
    refine r_bipush hC dX7_openSet_10 (by decide) ?_
    refine cl_X7_34 hC (c_X7_isWithin (kL K) hw) (by rw [hR]; decide) (Nat.le_of_ble_eq_true rfl) dX7_openSet_12 (fun r102 s102 hq => ?_)
    clear hw
    have hw := hq
    clear hq
    refine r_if_eq (tgt := 29) hC dX7_openSet_15 (by decide) (fun h => ?_) (fun h => ?_)
    · replace hw := hw.1 h
      refine r_bipush hC dX7_openSet_29 (by decide) ?_
      exact r_ireturn hC hM ⟨_, rfl, hw⟩ (by rw [hR]; decide) (by rw [hR]; decide) dX7_openSet_31
    · replace hw := hw.2 h
      refine r_iload hC dX7_openSet_18 rfl ?_
      refine r_sipush hC dX7_openSet_20 (by decide) ?_
      refine cl_X7_34 hC (c_X7_isWithin (kL K) hw) (by rw [hR]; decide) (Nat.le_of_ble_eq_true rfl) dX7_openSet_23 (fun r103 s103 hq => ?_)
      clear hw
      have hw := hq
      clear hq
      refine r_if_ne (tgt := 32) hC dX7_openSet_26 (by decide) (fun h => ?_) (fun h => ?_)
      · replace hw := hw.1 h
        refine r_aload_n hC dX7_openSet_32 rfl ?_
        refine gf_X7_25 hC dX7_openSet_33 ?_
        refine r_iload_n hC dX7_openSet_36 rfl ?_
        refine cl_X7_242 hC (c_X7_thingByKey (kL K) hw) (by rw [hR]; decide) (Nat.le_of_ble_eq_true rfl) dX7_openSet_37 (fun o101 s104 hq => ?_)
        clear hw
        have hw := hq
        clear hq
        refine r_astore (l' := [_, _, _, _, _, _, _]) hC dX7_openSet_40 rfl (by decide) rfl ?_
        refine r_aload hC dX7_openSet_42 rfl ?_
        refine r_ifnonnull (tgt := 71) hC dX7_openSet_44 (by decide) (fun a101 h => ?_) (fun h => ?_)
        · replace hw := hw.2 a101 h
          subst h
          refine r_iload hC dX7_openSet_71 rfl ?_
          refine cl_X7_251 hC (c_X7_isOnlyNew (kL K) hw) (by rw [hR]; decide) (Nat.le_of_ble_eq_true rfl) dX7_openSet_73 (fun r106 s107 hq => ?_)
          clear hw
          have hw := hq
          clear hq
          refine r_if_eq (tgt := 82) hC dX7_openSet_76 (by decide) (fun h => ?_) (fun h => ?_)
          · replace hw := hw.1 h
            refine r_aload hC dX7_openSet_82 rfl ?_
            refine r_inst hC (ci := 0) rfl rfl (wg 258 (by decide +kernel) (by decide +kernel)) dX7_openSet_84 (fun h => absurd h (by simp)) (fun a9 h9 => ?_)
            cases h9
            have h101 := hw.1
            replace hw := hw.2
            refine ⟨oCi_ge h101, ?_⟩
            refine r_if_eq (tgt := 109) hC dX7_openSet_87 (by decide) (fun h => absurd h (by decide)) (fun _ => ?_)
            refine r_aload hC dX7_openSet_90 rfl ?_
            refine r_cast hC (ci := 0) rfl rfl (wg 258 (by decide +kernel) (by decide +kernel)) dX7_openSet_92 ⟨(fun a9 h9 => by cases h9; exact oCi_ge h101), ?_⟩
            refine r_astore (l' := [_, _, _, _, _, _, _]) hC dX7_openSet_95 rfl (by decide) rfl ?_
            refine r_iload_n hC dX7_openSet_97 rfl ?_
            refine r_aload hC dX7_openSet_98 rfl ?_
            refine gf_X7_176 hC h101 dX7_openSet_100 ?_
            refine r_icmp_le (tgt := 109) hC dX7_openSet_103 (by decide) (fun h => ?_) (fun h => ?_)
            · replace hw := hw.1 h
              refine r_aload hC dX7_openSet_109 rfl ?_
              refine r_aload_n hC dX7_openSet_111 rfl ?_
              refine r_iload hC dX7_openSet_112 rfl ?_
              refine cl_X7_254 hC (c_X7_wanted (kL K) hw) (by rw [hR]; decide) (Nat.le_of_ble_eq_true rfl) dX7_openSet_114 (fun r107 s108 hq => ?_)
              clear hw
              have hw := hq
              clear hq
              refine cl_X7_257 hC (c_X5_grantsAll (kL K) hw) (by rw [hR]; decide) (Nat.le_of_ble_eq_true rfl) dX7_openSet_117 (fun r108 s109 hq => ?_)
              clear hw
              have hw := hq
              clear hq
              refine r_if_eq (tgt := 131) hC dX7_openSet_120 (by decide) (fun h => ?_) (fun h => ?_)
              · replace hw := hw.1 h
                refine r_bipush hC dX7_openSet_131 (by decide) ?_
                exact r_ireturn hC hM ⟨_, rfl, hw⟩ (by rw [hR]; decide) (by rw [hR]; decide) dX7_openSet_133
              · replace hw := hw.2 h
                refine r_aload hC dX7_openSet_123 rfl ?_
                refine gf_X7_216 hC dX7_openSet_125 ?_
                refine r_goto (tgt := 133) hC dX7_openSet_128 (by decide) ?_
                exact r_ireturn hC hM ⟨_, rfl, hw⟩ (by rw [hR]; decide) (by rw [hR]; decide) dX7_openSet_133
            · replace hw := hw.2 h
              refine r_bipush hC dX7_openSet_106 (by decide) ?_
              exact r_ireturn hC hM ⟨_, rfl, hw⟩ (by rw [hR]; decide) (by rw [hR]; decide) dX7_openSet_108
          · replace hw := hw.2 h
            refine r_bipush hC dX7_openSet_79 (by decide) ?_
            exact r_ireturn hC hM ⟨_, rfl, hw⟩ (by rw [hR]; decide) (by rw [hR]; decide) dX7_openSet_81
        · replace hw := hw.1 h
          subst h
          refine r_iload_n hC dX7_openSet_47 rfl ?_
          refine r_iload hC dX7_openSet_48 rfl ?_
          refine cl_X7_245 hC (c_X7_isMade (kL K) hw) (by rw [hR]; decide) (Nat.le_of_ble_eq_true rfl) dX7_openSet_50 (fun r104 s105 hq => ?_)
          clear hw
          have hw := hq
          clear hq
          refine r_if_eq (tgt := 68) hC dX7_openSet_53 (by decide) (fun h => ?_) (fun h => ?_)
          · replace hw := hw.1 h
            refine r_bipush hC dX7_openSet_68 (by decide) ?_
            exact r_ireturn hC hM ⟨_, rfl, hw⟩ (by rw [hR]; decide) (by rw [hR]; decide) dX7_openSet_70
          · replace hw := hw.2 h
            refine r_aload_n hC dX7_openSet_56 rfl ?_
            refine r_aload_n hC dX7_openSet_57 rfl ?_
            refine r_iload_n hC dX7_openSet_58 rfl ?_
            refine r_iload_n hC dX7_openSet_59 rfl ?_
            refine r_iload hC dX7_openSet_60 rfl ?_
            refine cl_X7_261 hC (c_X7_makeSet (kL K) hw) (by rw [hR]; decide) (Nat.le_of_ble_eq_true rfl) dX7_openSet_62 (fun r105 s106 hq => ?_)
            clear hw
            have hw := hq
            clear hq
            refine r_goto (tgt := 70) hC dX7_openSet_65 (by decide) ?_
            exact r_ireturn hC hM ⟨_, rfl, hw⟩ (by rw [hR]; decide) (by rw [hR]; decide) dX7_openSet_70
      · replace hw := hw.2 h
        refine r_bipush hC dX7_openSet_29 (by decide) ?_
        exact r_ireturn hC hM ⟨_, rfl, hw⟩ (by rw [hR]; decide) (by rw [hR]; decide) dX7_openSet_31
def wp_X7_set (x1 : Int) (x2 : Int) (x3 : Int) (x4 : Int) (σ : St) (po : Int → St → Prop) : Prop := wp_X7_processAt x1 σ (fun o101 s101 => (o101 = none → po (-2) s101) ∧
 (∀ a101, o101 = some a101 → wp_X2_isFree a101 s101 (fun r101 s102 => (nm r101 = 0 → po (-3) s102) ∧
 (nm r101 ≠ 0 → wp_X7_openSet (some a101) x2 x3 x4 s102 (fun r102 s103 => wp_X2_told a101 r102 s103 (fun r103 s104 => po r103 s104))))))
set_option maxRecDepth 100000 in
set_option maxHeartbeats 4000000 in
theorem c_X7_set (l : Launch) {x1 : Int} {x2 : Int} {x3 : Int} {x4 : Int} {σ : St} {po : Int → St → Prop} (hw : wp_X7_set x1 x2 x3 x4 σ po) : MT l yX7_set cX7_set 6 (some .int) ({ frames := 5, cells := 6, slots := 177, locals := 116 } : Room) [wr 0 (some 0), wi x1, wi x2, wi x3, wi x4] σ (PI po) := by
  refine MT_of (by decide) (Nat.le_of_ble_eq_true rfl) (fun K hL hR hC hM => ?_)
  subst hL
  unfold wp_X7_set at hw
  show J K 0 [some (wr 0 (some 0)), some (wi x1), some (wi x2), some (wi x3), some (wi x4), none] [] σ 0 0
  refine r_aload_n hC dX7_set_0 rfl ?_
  refine r_iload_n hC dX7_set_1 rfl ?_
  refine cl_X7_41 hC (c_X7_processAt (kL K) hw) (by rw [hR]; decide) (Nat.le_of_ble_eq_true rfl) dX7_set_2 (fun o101 s101 hq => ?_)
  clear hw
  have hw := hq
  clear hq
  refine r_astore (l' := [_, _, _, _, _, _]) hC dX7_set_5 rfl (by decide) rfl ?_
  refine r_aload hC dX7_set_7 rfl ?_
  refine r_ifnonnull (tgt := 15) hC dX7_set_9 (by decide) (fun a101 h => ?_) (fun h => ?_)
  · replace hw := hw.2 a101 h
    subst h
    refine r_aload hC dX7_set_15 rfl ?_
    refine cl_X7_86 hC (c_X2_isFree (kL K) hw) (by rw [hR]; decide) (Nat.le_of_ble_eq_true rfl) dX7_set_17 (fun r101 s102 hq => ?_)
    clear hw
    have hw := hq
    clear hq
    refine r_if_eq (tgt := 41) hC dX7_set_20 (by decide) (fun h => ?_) (fun h => ?_)
    · replace hw := hw.1 h
      refine r_bipush hC dX7_set_41 (by decide) ?_
      exact r_ireturn hC hM ⟨_, rfl, hw⟩ (by rw [hR]; decide) (by rw [hR]; decide) dX7_set_43
    · replace hw := hw.2 h
      refine r_aload hC dX7_set_23 rfl ?_
      refine r_aload_n hC dX7_set_25 rfl ?_
      refine r_aload hC dX7_set_26 rfl ?_
      refine r_iload_n hC dX7_set_28 rfl ?_
      refine r_iload_n hC dX7_set_29 rfl ?_
      refine r_iload hC dX7_set_30 rfl ?_
      refine cl_X7_98 hC (c_X7_openSet (kL K) hw) (by rw [hR]; decide) (Nat.le_of_ble_eq_true rfl) dX7_set_32 (fun r102 s103 hq => ?_)
      clear hw
      have hw := hq
      clear hq
      refine cl_X7_94 hC (c_X2_told (kL K) hw) (by rw [hR]; decide) (Nat.le_of_ble_eq_true rfl) dX7_set_35 (fun r103 s104 hq => ?_)
      clear hw
      have hw := hq
      clear hq
      refine r_goto (tgt := 43) hC dX7_set_38 (by decide) ?_
      exact r_ireturn hC hM ⟨_, rfl, hw⟩ (by rw [hR]; decide) (by rw [hR]; decide) dX7_set_43
  · replace hw := hw.1 h
    subst h
    refine r_bipush hC dX7_set_12 (by decide) ?_
    exact r_ireturn hC hM ⟨_, rfl, hw⟩ (by rw [hR]; decide) (by rw [hR]; decide) dX7_set_14
def wp_X7_thingById (k1 : Nat) (o1 : Option Nat) (x2 : Int) (σ : St) (po : Option Nat → St → Prop) : Prop := (0 ≤ nm x2 → wp_X7_thingIn k1 o1 (zrem x2 12) σ (fun o101 s101 => (o101 = none → po none s101) ∧
 (∀ a101, o101 = some a101 → (nm (gI s101 33 a101 0) ≠ nm x2 → po none s101) ∧
 (nm (gI s101 33 a101 0) = nm x2 → po (some a101) s101)))) ∧
 (nm x2 < 0 → po none σ)
set_option maxRecDepth 100000 in
set_option maxHeartbeats 4000000 in
theorem c_X7_thingById (l : Launch) {k1 : Nat} {o1 : Option Nat} {x2 : Int} {σ : St} {po : Option Nat → St → Prop} (hw : wp_X7_thingById k1 o1 x2 σ po) : MT l yX7_thingById cX7_thingById 3 (some (.object "QueuesAndGates$Thing")) ({ frames := 1, cells := 0, slots := 0, locals := 22 } : Room) [wr k1 o1, wi x2] σ (PR 20 po) := by
  refine MT_of (by decide) (Nat.le_of_ble_eq_true rfl) (fun K hL hR hC hM => ?_)
  subst hL
  unfold wp_X7_thingById at hw
  show J K 0 [some (wr k1 o1), some (wi x2), none] [] σ 0 0
  refine r_iload_n hC dX7_thingById_0 rfl ?_
  refine r_if_ge (tgt := 8) hC dX7_thingById_1 (by decide) (fun h => ?_) (fun h => ?_)
  · replace hw := hw.1 h
    refine r_aload_n hC dX7_thingById_8 rfl ?_
    refine r_iload_n hC dX7_thingById_9 rfl ?_
    refine r_bipush hC dX7_thingById_10 (by decide) ?_
    refine r_irem hC dX7_thingById_12 (by decide) ?_
    refine cl_X7_212 hC (c_X7_thingIn (kL K) hw) (by rw [hR]; decide) (Nat.le_of_ble_eq_true rfl) dX7_thingById_13 (fun o101 s101 hq => ?_)
    clear hw
    have hw := hq
    clear hq
    refine r_astore_n (l' := [_, _, _]) hC dX7_thingById_16 rfl (by decide) rfl ?_
    refine r_aload_n hC dX7_thingById_17 rfl ?_
    refine r_ifnull (tgt := 33) hC dX7_thingById_18 (by decide) (fun h => ?_) (fun a101 h => ?_)
    · replace hw := hw.1 h
      subst h
      refine r_null hC 20 dX7_thingById_33 ?_
      exact r_areturn hC hM ⟨_, rfl, hw⟩ (by rw [hR]; decide) (by rw [hR]; decide) dX7_thingById_34
    · replace hw := hw.2 a101 h
      subst h
      refine r_aload_n hC dX7_thingById_21 rfl ?_
      refine gf_X7_216 hC dX7_thingById_22 ?_
      refine r_iload_n hC dX7_thingById_25 rfl ?_
      refine r_icmp_ne (tgt := 33) hC dX7_thingById_26 (by decide) (fun h => ?_) (fun h => ?_)
      · replace hw := hw.1 h
        refine r_null hC 20 dX7_thingById_33 ?_
        exact r_areturn hC hM ⟨_, rfl, hw⟩ (by rw [hR]; decide) (by rw [hR]; decide) dX7_thingById_34
      · replace hw := hw.2 h
        refine r_aload_n hC dX7_thingById_29 rfl ?_
        refine r_goto (tgt := 34) hC dX7_thingById_30 (by decide) ?_
        exact r_areturn hC hM ⟨_, rfl, hw⟩ (by rw [hR]; decide) (by rw [hR]; decide) dX7_thingById_34
  · replace hw := hw.2 h
    refine r_null hC 20 dX7_thingById_4 ?_
    refine r_goto (tgt := 16) hC dX7_thingById_5 (by decide) ?_
    refine r_astore_n (l' := [_, _, _]) hC dX7_thingById_16 rfl (by decide) rfl ?_
    refine r_aload_n hC dX7_thingById_17 rfl ?_
    refine r_ifnull (tgt := 33) hC dX7_thingById_18 (by decide) (fun _ => ?_) (fun _ h => absurd h (by simp))
    refine r_null hC 20 dX7_thingById_33 ?_
    exact r_areturn hC hM ⟨_, rfl, hw⟩ (by rw [hR]; decide) (by rw [hR]; decide) dX7_thingById_34
def wp_X7_thingOf (x1 : Int) (x2 : Int) (σ : St) (po : Option Nat → St → Prop) : Prop := (nm x1 ≠ 0 → wp_X7_thingById 3 (some 0) x2 σ (fun o101 s101 => po o101 s101)) ∧
 (nm x1 = 0 → wp_X7_thingById 2 (some 0) x2 σ (fun o102 s102 => po o102 s102))
set_option maxRecDepth 100000 in
set_option maxHeartbeats 4000000 in
theorem c_X7_thingOf (l : Launch) {x1 : Int} {x2 : Int} {σ : St} {po : Option Nat → St → Prop} (hw : wp_X7_thingOf x1 x2 σ po) : MT l yX7_thingOf cX7_thingOf 3 (some (.object "QueuesAndGates$Thing")) ({ frames := 2, cells := 0, slots := 0, locals := 44 } : Room) [wr 0 (some 0), wi x1, wi x2] σ (PR 20 po) := by
  refine MT_of (by decide) (Nat.le_of_ble_eq_true rfl) (fun K hL hR hC hM => ?_)
  subst hL
  unfold wp_X7_thingOf at hw
  show J K 0 [some (wr 0 (some 0)), some (wi x1), some (wi x2)] [] σ 0 0
  refine r_iload_n hC dX7_thingOf_0 rfl ?_
  refine r_if_ne (tgt := 11) hC dX7_thingOf_1 (by decide) (fun h => ?_) (fun h => ?_)
  · replace hw := hw.1 h
    refine r_aload_n hC dX7_thingOf_11 rfl ?_
    refine gf_X7_25 hC dX7_thingOf_12 ?_
    refine r_iload_n hC dX7_thingOf_15 rfl ?_
    refine cl_X7_222 hC (c_X7_thingById (kL K) hw) (by rw [hR]; decide) (Nat.le_of_ble_eq_true rfl) dX7_thingOf_16 (fun o101 s101 hq => ?_)
    clear hw
    have hw := hq
    clear hq
    exact r_areturn hC hM ⟨_, rfl, hw⟩ (by rw [hR]; decide) (by rw [hR]; decide) dX7_thingOf_19
  · replace hw := hw.2 h
    refine r_aload_n hC dX7_thingOf_4 rfl ?_
    refine gf_X7_21 hC dX7_thingOf_5 ?_
    refine r_goto (tgt := 15) hC dX7_thingOf_8 (by decide) ?_
    refine r_iload_n hC dX7_thingOf_15 rfl ?_
    refine cl_X7_222 hC (c_X7_thingById (kL K) hw) (by rw [hR]; decide) (Nat.le_of_ble_eq_true rfl) dX7_thingOf_16 (fun o102 s102 hq => ?_)
    clear hw
    have hw := hq
    clear hq
    exact r_areturn hC hM ⟨_, rfl, hw⟩ (by rw [hR]; decide) (by rw [hR]; decide) dX7_thingOf_19
def wp_X5_isRuledBy (a0 : Nat) (o1 : Option Nat) (σ : St) (po : Int → St → Prop) : Prop := ∃ a101, o1 = some a101 ∧ (nm (gI σ 11 a101 0) = 0 → po 1 σ) ∧
 (nm (gI σ 11 a101 0) ≠ 0 → (nm (gI σ 11 a101 0) = nm (gI σ 35 a0 0) → po 1 σ) ∧
 (nm (gI σ 11 a101 0) ≠ nm (gI σ 35 a0 0) → (nm (gI σ 11 a101 0) ≠ nm (gI σ 37 a0 0) → po 0 σ) ∧
 (nm (gI σ 11 a101 0) = nm (gI σ 37 a0 0) → po 1 σ)))
set_option maxRecDepth 100000 in
set_option maxHeartbeats 4000000 in
theorem c_X5_isRuledBy (l : Launch) {a0 : Nat} {o1 : Option Nat} {σ : St} {po : Int → St → Prop} (hw : wp_X5_isRuledBy a0 o1 σ po) : MT l yX5_isRuledBy cX5_isRuledBy 2 (some .boolean) ({ frames := 0, cells := 0, slots := 0, locals := 0 } : Room) [wr 20 (some a0), wr 10 o1] σ (PI po) := by
  refine MT_of (by decide) (Nat.le_of_ble_eq_true rfl) (fun K hL hR hC hM => ?_)
  subst hL
  unfold wp_X5_isRuledBy at hw
  show J K 0 [some (wr 20 (some a0)), some (wr 10 o1)] [] σ 0 0
  refine r_aload_n hC dX5_isRuledBy_0 rfl ?_
  obtain ⟨a101, rfl, hw⟩ := hw
  refine gf_X5_43 hC dX5_isRuledBy_1 ?_
  refine r_if_eq (tgt := 29) hC dX5_isRuledBy_4 (by decide) (fun h => ?_) (fun h => ?_)
  · replace hw := hw.1 h
    refine r_iconst hC dX5_isRuledBy_29 ?_
    refine r_goto (tgt := 34) hC dX5_isRuledBy_30 (by decide) ?_
    exact r_zreturn hC hM (by decide) ⟨_, rfl, hw⟩ (by rw [hR]; decide) (by rw [hR]; decide) dX5_isRuledBy_34
  · replace hw := hw.2 h
    refine r_aload_n hC dX5_isRuledBy_7 rfl ?_
    refine gf_X5_43 hC dX5_isRuledBy_8 ?_
    refine r_aload_n hC dX5_isRuledBy_11 rfl ?_
    refine gf_X5_25 hC dX5_isRuledBy_12 ?_
    refine r_icmp_eq (tgt := 29) hC dX5_isRuledBy_15 (by decide) (fun h => ?_) (fun h => ?_)
    · replace hw := hw.1 h
      refine r_iconst hC dX5_isRuledBy_29 ?_
      refine r_goto (tgt := 34) hC dX5_isRuledBy_30 (by decide) ?_
      exact r_zreturn hC hM (by decide) ⟨_, rfl, hw⟩ (by rw [hR]; decide) (by rw [hR]; decide) dX5_isRuledBy_34
    · replace hw := hw.2 h
      refine r_aload_n hC dX5_isRuledBy_18 rfl ?_
      refine gf_X5_43 hC dX5_isRuledBy_19 ?_
      refine r_aload_n hC dX5_isRuledBy_22 rfl ?_
      refine gf_X5_31 hC dX5_isRuledBy_23 ?_
      refine r_icmp_ne (tgt := 33) hC dX5_isRuledBy_26 (by decide) (fun h => ?_) (fun h => ?_)
      · replace hw := hw.1 h
        refine r_iconst hC dX5_isRuledBy_33 ?_
        exact r_zreturn hC hM (by decide) ⟨_, rfl, hw⟩ (by rw [hR]; decide) (by rw [hR]; decide) dX5_isRuledBy_34
      · replace hw := hw.2 h
        refine r_iconst hC dX5_isRuledBy_29 ?_
        refine r_goto (tgt := 34) hC dX5_isRuledBy_30 (by decide) ?_
        exact r_zreturn hC hM (by decide) ⟨_, rfl, hw⟩ (by rw [hR]; decide) (by rw [hR]; decide) dX5_isRuledBy_34
def wp_X7_sendAway_3 (po : St → Prop) : Nat → Option Nat → Int → St → Prop
  | 0, _, _, _ => False
  | n + 1, o1, x2, σ => (nm x2 < 0 → po σ) ∧
 (0 ≤ nm x2 → wp_X7_inLine x2 σ (fun o101 s101 => (o101 = none → wp_X7_sendAway_3 po n o1 (x2 + (-1)) s101) ∧
 (∀ a101, o101 = some a101 → ∀ o102, o102 = gR s101 10 a101 0 → (o102 ≠ o1 → wp_X7_sendAway_3 po n o1 (x2 + (-1)) s101) ∧
 (o102 = o1 → wp_X7_goOn (some a101) (-14) s101 (fun s102 => wp_X7_sendAway_3 po n o1 (x2 + (-1)) s102)))))
set_option maxRecDepth 100000 in
set_option maxHeartbeats 4000000 in
theorem j_X7_sendAway_3 {K : JK} (hR : kRm K = ({ frames := 1, cells := 0, slots := 0, locals := 25 } : Room)) (hC : Cx K cX7_sendAway 4 RX7) {po : St → Prop} (hM : Mx K none (PV po)) : ∀ (n : Nat) (o1 : Option Nat) (x2 : Int) (σ : St), wp_X7_sendAway_3 po n o1 x2 σ → J K 3 [some (wr 0 (some 0)), some (wr 20 o1), some (wi x2), none] [] σ 0 0 := by
  intro n
  induction n with
  | zero =>
    intro o1 x2 σ hw
    exact False.elim hw
  | succ n ih =>
    intro o1 x2 σ hw
    unfold wp_X7_sendAway_3 at hw
    refine r_iload_n hC dX7_sendAway_3 rfl ?_
    refine r_if_lt (tgt := 38) hC dX7_sendAway_4 (by decide) (fun h => ?_) (fun h => ?_)
    · replace hw := hw.1 h
      exact r_vreturn hC hM ⟨rfl, hw⟩ (by rw [hR]; decide) (by rw [hR]; decide) dX7_sendAway_38
    · replace hw := hw.2 h
      refine r_aload_n hC dX7_sendAway_7 rfl ?_
      refine r_iload_n hC dX7_sendAway_8 rfl ?_
      refine cl_X7_230 hC (c_X7_inLine (kL K) hw) (by rw [hR]; decide) (Nat.le_of_ble_eq_true rfl) dX7_sendAway_9 (fun o101 s101 hq => ?_)
      clear hw
      have hw := hq
      clear hq
      refine r_astore_n (l' := [_, _, _, _]) hC dX7_sendAway_12 rfl (by decide) rfl ?_
      refine r_aload_n hC dX7_sendAway_13 rfl ?_
      refine r_ifnull (tgt := 32) hC dX7_sendAway_14 (by decide) (fun h => ?_) (fun a101 h => ?_)
      · replace hw := hw.1 h
        subst h
        refine r_iinc (l' := [_, _, _, _]) hC dX7_sendAway_32 rfl rfl (by decide) rfl ?_
        refine r_goto (tgt := 3) hC dX7_sendAway_35 (by decide) ?_
        exact J.drop2 (ih o1 (x2 + (-1)) s101 hw) ⟨rfl, rfl, rfl, trivial⟩
      · replace hw := hw.2 a101 h
        subst h
        refine r_aload_n hC dX7_sendAway_17 rfl ?_
        refine gf_X7_226 hC dX7_sendAway_18 (fun o102 e9 => ?_)
        replace hw := hw o102 e9
        clear e9
        refine r_aload_n hC dX7_sendAway_21 rfl ?_
        refine r_acmp_ne (tgt := 32) hC (kd := 20) (by decide) dX7_sendAway_22 (by decide) (fun h => ?_) (fun h => ?_)
        · replace hw := hw.1 h
          refine r_iinc (l' := [_, _, _, _]) hC dX7_sendAway_32 rfl rfl (by decide) rfl ?_
          refine r_goto (tgt := 3) hC dX7_sendAway_35 (by decide) ?_
          exact J.drop2 (ih o1 (x2 + (-1)) s101 hw) ⟨rfl, rfl, rfl, trivial⟩
        · replace hw := hw.2 h
          refine r_aload_n hC dX7_sendAway_25 rfl ?_
          refine r_aload_n hC dX7_sendAway_26 rfl ?_
          refine r_bipush hC dX7_sendAway_27 (by decide) ?_
          refine cl_X7_52 hC (c_X7_goOn (kL K) hw) (by rw [hR]; decide) (Nat.le_of_ble_eq_true rfl) dX7_sendAway_29 (fun s102 hq => ?_)
          clear hw
          have hw := hq
          clear hq
          refine r_iinc (l' := [_, _, _, _]) hC dX7_sendAway_32 rfl rfl (by decide) rfl ?_
          refine r_goto (tgt := 3) hC dX7_sendAway_35 (by decide) ?_
          exact J.drop2 (ih o1 (x2 + (-1)) s102 hw) ⟨rfl, rfl, rfl, trivial⟩
def wp_X7_sendAway (o1 : Option Nat) (σ : St) (po : St → Prop) : Prop := ∃ n9, wp_X7_sendAway_3 po n9 o1 15 σ
set_option maxRecDepth 100000 in
set_option maxHeartbeats 4000000 in
theorem c_X7_sendAway (l : Launch) {o1 : Option Nat} {σ : St} {po : St → Prop} (hw : wp_X7_sendAway o1 σ po) : MT l yX7_sendAway cX7_sendAway 4 none ({ frames := 1, cells := 0, slots := 0, locals := 25 } : Room) [wr 0 (some 0), wr 20 o1] σ (PV po) := by
  refine MT_of (by decide) (Nat.le_of_ble_eq_true rfl) (fun K hL hR hC hM => ?_)
  subst hL
  unfold wp_X7_sendAway at hw
  show J K 0 [some (wr 0 (some 0)), some (wr 20 o1), none, none] [] σ 0 0
  refine r_bipush hC dX7_sendAway_0 (by decide) ?_
  refine r_istore_n (l' := [_, _, _, _]) hC dX7_sendAway_2 rfl (by decide) rfl ?_
  obtain ⟨n9, hw⟩ := hw
  exact J.drop2 (j_X7_sendAway_3 hR hC hM n9 o1 15 σ hw) ⟨rfl, rfl, rfl, trivial⟩
def wp_X3_hasRoomFor (a0 : Nat) (x1 : Int) (σ : St) (po : Int → St → Prop) : Prop := a0 < 12 ∧ (nm (gI σ 42 a0 0) < nm ((gI σ 41 a0 0) + x1) → po 0 σ) ∧
 (nm ((gI σ 41 a0 0) + x1) ≤ nm (gI σ 42 a0 0) → (nm 40 ≤ nm (gI σ 40 a0 0) → po 0 σ) ∧
 (nm (gI σ 40 a0 0) < nm 40 → po 1 σ))
set_option maxRecDepth 100000 in
set_option maxHeartbeats 4000000 in
theorem c_X3_hasRoomFor (l : Launch) {a0 : Nat} {x1 : Int} {σ : St} {po : Int → St → Prop} (hw : wp_X3_hasRoomFor a0 x1 σ po) : MT l yX3_hasRoomFor cX3_hasRoomFor 2 (some .boolean) ({ frames := 0, cells := 0, slots := 0, locals := 0 } : Room) [wr 20 (some a0), wi x1] σ (PI po) := by
  refine MT_of (by decide) (Nat.le_of_ble_eq_true rfl) (fun K hL hR hC hM => ?_)
  subst hL
  unfold wp_X3_hasRoomFor at hw
  show J K 0 [some (wr 20 (some a0)), some (wi x1)] [] σ 0 0
  refine r_aload_n hC dX3_hasRoomFor_0 rfl ?_
  have h101 := hw.1
  replace hw := hw.2
  refine gf_X3_21 hC h101 dX3_hasRoomFor_1 ?_
  refine r_iload_n hC dX3_hasRoomFor_4 rfl ?_
  refine r_iadd hC dX3_hasRoomFor_5 ?_
  refine r_aload_n hC dX3_hasRoomFor_6 rfl ?_
  refine gf_X3_24 hC h101 dX3_hasRoomFor_7 ?_
  refine r_icmp_gt (tgt := 26) hC dX3_hasRoomFor_10 (by decide) (fun h => ?_) (fun h => ?_)
  · replace hw := hw.1 h
    refine r_iconst hC dX3_hasRoomFor_26 ?_
    exact r_zreturn hC hM (by decide) ⟨_, rfl, hw⟩ (by rw [hR]; decide) (by rw [hR]; decide) dX3_hasRoomFor_27
  · replace hw := hw.2 h
    refine r_aload_n hC dX3_hasRoomFor_13 rfl ?_
    refine gf_X3_17 hC h101 dX3_hasRoomFor_14 ?_
    refine r_bipush hC dX3_hasRoomFor_17 (by decide) ?_
    refine r_icmp_ge (tgt := 26) hC dX3_hasRoomFor_19 (by decide) (fun h => ?_) (fun h => ?_)
    · replace hw := hw.1 h
      refine r_iconst hC dX3_hasRoomFor_26 ?_
      exact r_zreturn hC hM (by decide) ⟨_, rfl, hw⟩ (by rw [hR]; decide) (by rw [hR]; decide) dX3_hasRoomFor_27
    · replace hw := hw.2 h
      refine r_iconst hC dX3_hasRoomFor_22 ?_
      refine r_goto (tgt := 27) hC dX3_hasRoomFor_23 (by decide) ?_
      exact r_zreturn hC hM (by decide) ⟨_, rfl, hw⟩ (by rw [hR]; decide) (by rw [hR]; decide) dX3_hasRoomFor_27
def wp_X7_allBytes_4 (po : Int → St → Prop) : Nat → Int → Int → St → Prop
  | 0, _, _, _ => False
  | n + 1, x1, x2, σ => (nm 12 ≤ nm x2 → po x1 σ) ∧
 (nm x2 < nm 12 → (0 ≤ nm x2 ∧ nm x2 < 12) ∧ ∀ o101, o101 = gR σ 2 0 (nm x2).toNat → (o101 = none → wp_X7_allBytes_4 po n x1 (x2 + 1) σ) ∧
 (∀ a101, o101 = some a101 → a101 < 12 ∧ (nm (gI σ 32 a101 0) = 0 → wp_X7_allBytes_4 po n x1 (x2 + 1) σ) ∧
 (nm (gI σ 32 a101 0) ≠ 0 → wp_X7_allBytes_4 po n (x1 + (gI σ 41 a101 0)) (x2 + 1) σ)))
set_option maxRecDepth 100000 in
set_option maxHeartbeats 4000000 in
theorem j_X7_allBytes_4 {K : JK} (hR : kRm K = ({ frames := 0, cells := 0, slots := 0, locals := 0 } : Room)) (hC : Cx K cX7_allBytes 5 RX7) {po : Int → St → Prop} (hM : Mx K (some .int) (PI po)) : ∀ (n : Nat) (x1 : Int) (x2 : Int) (σ : St), wp_X7_allBytes_4 po n x1 x2 σ → J K 4 [some (wr 0 (some 0)), some (wi x1), some (wi x2), none, none] [] σ 0 0 := by
  intro n
  induction n with
  | zero =>
    intro x1 x2 σ hw
    exact False.elim hw
  | succ n ih =>
    intro x1 x2 σ hw
    unfold wp_X7_allBytes_4 at hw
    refine r_iload_n hC dX7_allBytes_4 rfl ?_
    refine r_bipush hC dX7_allBytes_5 (by decide) ?_
    refine r_icmp_ge (tgt := 52) hC dX7_allBytes_7 (by decide) (fun h => ?_) (fun h => ?_)
    · replace hw := hw.1 h
      refine r_iload_n hC dX7_allBytes_52 rfl ?_
      exact r_ireturn hC hM ⟨_, rfl, hw⟩ (by rw [hR]; decide) (by rw [hR]; decide) dX7_allBytes_53
    · replace hw := hw.2 h
      refine r_aload_n hC dX7_allBytes_10 rfl ?_
      refine gf_X7_21 hC dX7_allBytes_11 ?_
      refine r_iload_n hC dX7_allBytes_14 rfl ?_
      refine r_aaload hC (kd := 20) (Or.inr (Or.inl ⟨rfl, rfl⟩)) (by decide) rfl hw.1 dX7_allBytes_15 (fun o101 e9 => ?_)
      replace hw := hw.2 o101 e9
      clear e9
      refine r_astore (l' := [_, _, _, _, _]) hC dX7_allBytes_16 rfl (by decide) rfl ?_
      refine r_aload hC dX7_allBytes_18 rfl ?_
      refine r_inst hC (ci := 3) rfl rfl (wg 363 (by decide +kernel) (by decide +kernel)) dX7_allBytes_20 (fun h => ?_) (fun a101 h => ?_)
      · replace hw := hw.1 h
        subst h
        refine r_if_eq (tgt := 46) hC dX7_allBytes_23 (by decide) (fun _ => ?_) (fun h => absurd h (by decide))
        refine r_iinc (l' := [_, _, _, _, _]) hC dX7_allBytes_46 rfl rfl (by decide) rfl ?_
        refine r_goto (tgt := 4) hC dX7_allBytes_49 (by decide) ?_
        exact J.drop2 (ih x1 (x2 + 1) σ hw) ⟨rfl, rfl, rfl, trivial⟩
      · replace hw := hw.2 a101 h
        subst h
        have h101 := hw.1
        replace hw := hw.2
        refine ⟨oCi_lt h101, ?_⟩
        refine r_if_eq (tgt := 46) hC dX7_allBytes_23 (by decide) (fun h => absurd h (by decide)) (fun _ => ?_)
        refine r_aload hC dX7_allBytes_26 rfl ?_
        refine r_cast hC (ci := 3) rfl rfl (wg 363 (by decide +kernel) (by decide +kernel)) dX7_allBytes_28 ⟨(fun a9 h9 => by cases h9; exact oCi_lt h101), ?_⟩
        refine r_astore_n (l' := [_, _, _, _, _]) hC dX7_allBytes_31 rfl (by decide) rfl ?_
        refine r_aload_n hC dX7_allBytes_32 rfl ?_
        refine gf_X7_225 hC dX7_allBytes_33 ?_
        refine r_if_eq (tgt := 46) hC dX7_allBytes_36 (by decide) (fun h => ?_) (fun h => ?_)
        · replace hw := hw.1 h
          refine r_iinc (l' := [_, _, _, _, _]) hC dX7_allBytes_46 rfl rfl (by decide) rfl ?_
          refine r_goto (tgt := 4) hC dX7_allBytes_49 (by decide) ?_
          exact J.drop2 (ih x1 (x2 + 1) σ hw) ⟨rfl, rfl, rfl, trivial⟩
        · replace hw := hw.2 h
          refine r_iload_n hC dX7_allBytes_39 rfl ?_
          refine r_aload_n hC dX7_allBytes_40 rfl ?_
          refine gf_X7_141 hC h101 dX7_allBytes_41 ?_
          refine r_iadd hC dX7_allBytes_44 ?_
          refine r_istore_n (l' := [_, _, _, _, _]) hC dX7_allBytes_45 rfl (by decide) rfl ?_
          refine r_iinc (l' := [_, _, _, _, _]) hC dX7_allBytes_46 rfl rfl (by decide) rfl ?_
          refine r_goto (tgt := 4) hC dX7_allBytes_49 (by decide) ?_
          exact J.drop2 (ih (x1 + (gI σ 41 a101 0)) (x2 + 1) σ hw) ⟨rfl, rfl, rfl, trivial⟩
def wp_X7_allBytes  (σ : St) (po : Int → St → Prop) : Prop := ∃ n9, wp_X7_allBytes_4 po n9 0 0 σ
set_option maxRecDepth 100000 in
set_option maxHeartbeats 4000000 in
theorem c_X7_allBytes (l : Launch)  {σ : St} {po : Int → St → Prop} (hw : wp_X7_allBytes  σ po) : MT l yX7_allBytes cX7_allBytes 5 (some .int) ({ frames := 0, cells := 0, slots := 0, locals := 0 } : Room) [wr 0 (some 0)] σ (PI po) := by
  refine MT_of (by decide) (Nat.le_of_ble_eq_true rfl) (fun K hL hR hC hM => ?_)
  subst hL
  unfold wp_X7_allBytes at hw
  show J K 0 [some (wr 0 (some 0)), none, none, none, none] [] σ 0 0
  refine r_iconst hC dX7_allBytes_0 ?_
  refine r_istore_n (l' := [_, _, _, _, _]) hC dX7_allBytes_1 rfl (by decide) rfl ?_
  refine r_iconst hC dX7_allBytes_2 ?_
  refine r_istore_n (l' := [_, _, _, _, _]) hC dX7_allBytes_3 rfl (by decide) rfl ?_
  obtain ⟨n9, hw⟩ := hw
  exact J.drop2 (j_X7_allBytes_4 hR hC hM n9 0 0 σ hw) ⟨rfl, rfl, rfl, trivial⟩
def wp_X7_fits (o1 : Option Nat) (x2 : Int) (σ : St) (po : Int → St → Prop) : Prop := ∃ a101, o1 = some a101 ∧ a101 < 12 ∧ wp_X3_hasRoomFor a101 x2 σ (fun r101 s101 => (nm r101 = 0 → po 0 s101) ∧
 (nm r101 ≠ 0 → wp_X7_allBytes  s101 (fun r102 s102 => (nm 1000 < nm (r102 + x2) → po 0 s102) ∧
 (nm (r102 + x2) ≤ nm 1000 → po 1 s102))))
set_option maxRecDepth 100000 in
set_option maxHeartbeats 4000000 in
theorem c_X7_fits (l : Launch) {o1 : Option Nat} {x2 : Int} {σ : St} {po : Int → St → Prop} (hw : wp_X7_fits o1 x2 σ po) : MT l yX7_fits cX7_fits 3 (some .boolean) ({ frames := 1, cells := 0, slots := 0, locals := 24 } : Room) [wr 0 (some 0), wr 20 o1, wi x2] σ (PI po) := by
  refine MT_of (by decide) (Nat.le_of_ble_eq_true rfl) (fun K hL hR hC hM => ?_)
  subst hL
  unfold wp_X7_fits at hw
  show J K 0 [some (wr 0 (some 0)), some (wr 20 o1), some (wi x2)] [] σ 0 0
  refine r_aload_n hC dX7_fits_0 rfl ?_
  refine r_iload_n hC dX7_fits_1 rfl ?_
  obtain ⟨a101, rfl, hw⟩ := hw
  have h101 := hw.1
  replace hw := hw.2
  refine cl_X7_340 hC h101 (c_X3_hasRoomFor (kL K) hw) (by rw [hR]; decide) (Nat.le_of_ble_eq_true rfl) dX7_fits_2 (fun r101 s101 hq => ?_)
  clear hw
  have hw := hq
  clear hq
  refine r_if_eq (tgt := 24) hC dX7_fits_5 (by decide) (fun h => ?_) (fun h => ?_)
  · replace hw := hw.1 h
    refine r_iconst hC dX7_fits_24 ?_
    exact r_zreturn hC hM (by decide) ⟨_, rfl, hw⟩ (by rw [hR]; decide) (by rw [hR]; decide) dX7_fits_25
  · replace hw := hw.2 h
    refine r_aload_n hC dX7_fits_8 rfl ?_
    refine cl_X7_203 hC (c_X7_allBytes (kL K) hw) (by rw [hR]; decide) (Nat.le_of_ble_eq_true rfl) dX7_fits_9 (fun r102 s102 hq => ?_)
    clear hw
    have hw := hq
    clear hq
    refine r_iload_n hC dX7_fits_12 rfl ?_
    refine r_iadd hC dX7_fits_13 ?_
    refine r_sipush hC dX7_fits_14 (by decide) ?_
    refine r_icmp_gt (tgt := 24) hC dX7_fits_17 (by decide) (fun h => ?_) (fun h => ?_)
    · replace hw := hw.1 h
      refine r_iconst hC dX7_fits_24 ?_
      exact r_zreturn hC hM (by decide) ⟨_, rfl, hw⟩ (by rw [hR]; decide) (by rw [hR]; decide) dX7_fits_25
    · replace hw := hw.2 h
      refine r_iconst hC dX7_fits_20 ?_
      refine r_goto (tgt := 25) hC dX7_fits_21 (by decide) ?_
      exact r_zreturn hC hM (by decide) ⟨_, rfl, hw⟩ (by rw [hR]; decide) (by rw [hR]; decide) dX7_fits_25
def wp_X6_wants (a0 : Nat) (x1 : Int) (σ : St) (po : Int → St → Prop) : Prop := (nmL (gL σ 12 a0 0) ≠ nmL 0 → (nmL 0 ≤ nmL (gL σ 12 a0 0) → (nmL x1 ≠ nmL (gL σ 12 a0 0) → (nm 0 = nm (gI σ 21 a0 0) → po 0 σ) ∧
 (nm 0 ≠ nm (gI σ 21 a0 0) → po 1 σ)) ∧
 (nmL x1 = nmL (gL σ 12 a0 0) → (nm 1 = nm (gI σ 21 a0 0) → po 0 σ) ∧
 (nm 1 ≠ nm (gI σ 21 a0 0) → po 1 σ))) ∧
 (nmL (gL σ 12 a0 0) < nmL 0 → (nmL 0 < nmL (x1 + (gL σ 12 a0 0)) → po 0 σ) ∧
 (nmL (x1 + (gL σ 12 a0 0)) ≤ nmL 0 → po 1 σ))) ∧
 (nmL (gL σ 12 a0 0) = nmL 0 → po 1 σ)
set_option maxRecDepth 100000 in
set_option maxHeartbeats 4000000 in
theorem c_X6_wants (l : Launch) {a0 : Nat} {x1 : Int} {σ : St} {po : Int → St → Prop} (hw : wp_X6_wants a0 x1 σ po) : MT l yX6_wants cX6_wants 3 (some .boolean) ({ frames := 0, cells := 0, slots := 0, locals := 0 } : Room) [wr 14 (some a0), wl x1] σ (PI po) := by
  refine MT_of (by decide) (Nat.le_of_ble_eq_true rfl) (fun K hL hR hC hM => ?_)
  subst hL
  unfold wp_X6_wants at hw
  show J K 0 [some (wr 14 (some a0)), some (wl x1), none] [] σ 0 0
  refine r_aload_n hC dX6_wants_0 rfl ?_
  refine gf_X6_15 hC dX6_wants_1 ?_
  refine r_lconst hC 0 rfl dX6_wants_4 ?_
  refine r_lcmp_ne (tgt := 11) hC dX6_wants_5 dX6_wants_6 (by decide) (fun h => ?_) (fun h => ?_)
  · replace hw := hw.1 h
    refine r_aload_n hC dX6_wants_11 rfl ?_
    refine gf_X6_15 hC dX6_wants_12 ?_
    refine r_lconst hC 0 rfl dX6_wants_15 ?_
    refine r_lcmp_ge (tgt := 39) hC dX6_wants_16 dX6_wants_17 (by decide) (fun h => ?_) (fun h => ?_)
    · replace hw := hw.1 h
      refine r_lload_n hC dX6_wants_39 rfl ?_
      refine r_aload_n hC dX6_wants_40 rfl ?_
      refine gf_X6_15 hC dX6_wants_41 ?_
      refine r_lcmp_ne (tgt := 52) hC dX6_wants_44 dX6_wants_45 (by decide) (fun h => ?_) (fun h => ?_)
      · replace hw := hw.1 h
        refine r_iconst hC dX6_wants_52 ?_
        refine r_aload_n hC dX6_wants_53 rfl ?_
        refine gf_X6_23 hC dX6_wants_54 ?_
        refine r_icmp_eq (tgt := 64) hC dX6_wants_57 (by decide) (fun h => ?_) (fun h => ?_)
        · replace hw := hw.1 h
          refine r_iconst hC dX6_wants_64 ?_
          exact r_zreturn hC hM (by decide) ⟨_, rfl, hw⟩ (by rw [hR]; decide) (by rw [hR]; decide) dX6_wants_65
        · replace hw := hw.2 h
          refine r_iconst hC dX6_wants_60 ?_
          refine r_goto (tgt := 65) hC dX6_wants_61 (by decide) ?_
          exact r_zreturn hC hM (by decide) ⟨_, rfl, hw⟩ (by rw [hR]; decide) (by rw [hR]; decide) dX6_wants_65
      · replace hw := hw.2 h
        refine r_iconst hC dX6_wants_48 ?_
        refine r_goto (tgt := 53) hC dX6_wants_49 (by decide) ?_
        refine r_aload_n hC dX6_wants_53 rfl ?_
        refine gf_X6_23 hC dX6_wants_54 ?_
        refine r_icmp_eq (tgt := 64) hC dX6_wants_57 (by decide) (fun h => ?_) (fun h => ?_)
        · replace hw := hw.1 h
          refine r_iconst hC dX6_wants_64 ?_
          exact r_zreturn hC hM (by decide) ⟨_, rfl, hw⟩ (by rw [hR]; decide) (by rw [hR]; decide) dX6_wants_65
        · replace hw := hw.2 h
          refine r_iconst hC dX6_wants_60 ?_
          refine r_goto (tgt := 65) hC dX6_wants_61 (by decide) ?_
          exact r_zreturn hC hM (by decide) ⟨_, rfl, hw⟩ (by rw [hR]; decide) (by rw [hR]; decide) dX6_wants_65
    · replace hw := hw.2 h
      refine r_lload_n hC dX6_wants_20 rfl ?_
      refine r_aload_n hC dX6_wants_21 rfl ?_
      refine gf_X6_15 hC dX6_wants_22 ?_
      refine r_ladd hC dX6_wants_25 ?_
      refine r_lconst hC 0 rfl dX6_wants_26 ?_
      refine r_lcmp_gt (tgt := 35) hC dX6_wants_27 dX6_wants_28 (by decide) (fun h => ?_) (fun h => ?_)
      · replace hw := hw.1 h
        refine r_iconst hC dX6_wants_35 ?_
        refine r_goto (tgt := 65) hC dX6_wants_36 (by decide) ?_
        exact r_zreturn hC hM (by decide) ⟨_, rfl, hw⟩ (by rw [hR]; decide) (by rw [hR]; decide) dX6_wants_65
      · replace hw := hw.2 h
        refine r_iconst hC dX6_wants_31 ?_
        refine r_goto (tgt := 65) hC dX6_wants_32 (by decide) ?_
        exact r_zreturn hC hM (by decide) ⟨_, rfl, hw⟩ (by rw [hR]; decide) (by rw [hR]; decide) dX6_wants_65
  · replace hw := hw.2 h
    refine r_iconst hC dX6_wants_9 ?_
    exact r_zreturn hC hM (by decide) ⟨_, rfl, hw⟩ (by rw [hR]; decide) (by rw [hR]; decide) dX6_wants_10
def wp_X6_isTooSmallFor (a0 : Nat) (o1 : Option Nat) (σ : St) (po : Int → St → Prop) : Prop := (nm (gI σ 20 a0 0) ≠ 0 → po 0 σ) ∧
 (nm (gI σ 20 a0 0) = 0 → ∃ a101, o1 = some a101 ∧ (nm (gI σ 17 a101 0) ≤ nm (gI σ 19 a0 0) → po 0 σ) ∧
 (nm (gI σ 19 a0 0) < nm (gI σ 17 a101 0) → po 1 σ))
set_option maxRecDepth 100000 in
set_option maxHeartbeats 4000000 in
theorem c_X6_isTooSmallFor (l : Launch) {a0 : Nat} {o1 : Option Nat} {σ : St} {po : Int → St → Prop} (hw : wp_X6_isTooSmallFor a0 o1 σ po) : MT l yX6_isTooSmallFor cX6_isTooSmallFor 2 (some .boolean) ({ frames := 0, cells := 0, slots := 0, locals := 0 } : Room) [wr 14 (some a0), wr 12 o1] σ (PI po) := by
  refine MT_of (by decide) (Nat.le_of_ble_eq_true rfl) (fun K hL hR hC hM => ?_)
  subst hL
  unfold wp_X6_isTooSmallFor at hw
  show J K 0 [some (wr 14 (some a0)), some (wr 12 o1)] [] σ 0 0
  refine r_aload_n hC dX6_isTooSmallFor_0 rfl ?_
  refine gf_X6_19 hC dX6_isTooSmallFor_1 ?_
  refine r_if_ne (tgt := 22) hC dX6_isTooSmallFor_4 (by decide) (fun h => ?_) (fun h => ?_)
  · replace hw := hw.1 h
    refine r_iconst hC dX6_isTooSmallFor_22 ?_
    exact r_zreturn hC hM (by decide) ⟨_, rfl, hw⟩ (by rw [hR]; decide) (by rw [hR]; decide) dX6_isTooSmallFor_23
  · replace hw := hw.2 h
    refine r_aload_n hC dX6_isTooSmallFor_7 rfl ?_
    obtain ⟨a101, rfl, hw⟩ := hw
    refine gf_X6_26 hC dX6_isTooSmallFor_8 ?_
    refine r_aload_n hC dX6_isTooSmallFor_11 rfl ?_
    refine gf_X6_9 hC dX6_isTooSmallFor_12 ?_
    refine r_icmp_le (tgt := 22) hC dX6_isTooSmallFor_15 (by decide) (fun h => ?_) (fun h => ?_)
    · replace hw := hw.1 h
      refine r_iconst hC dX6_isTooSmallFor_22 ?_
      exact r_zreturn hC hM (by decide) ⟨_, rfl, hw⟩ (by rw [hR]; decide) (by rw [hR]; decide) dX6_isTooSmallFor_23
    · replace hw := hw.2 h
      refine r_iconst hC dX6_isTooSmallFor_18 ?_
      refine r_goto (tgt := 23) hC dX6_isTooSmallFor_19 (by decide) ?_
      exact r_zreturn hC hM (by decide) ⟨_, rfl, hw⟩ (by rw [hR]; decide) (by rw [hR]; decide) dX6_isTooSmallFor_23
def wp_X2_receive_17 (po : Int → St → Prop) : Nat → Nat → Option Nat → Int → Int → St → Prop
  | 0, _, _, _, _, _ => False
  | n + 1, a0, o1, x2, x3, σ => (nm x2 ≤ nm x3 → ∃ a102, o1 = some a102 ∧ ∀ s101, s101 = uL σ 10 a0 0 (gL σ 11 a102 0) → po x2 s101) ∧
 (nm x3 < nm x2 → (nm 64 ≤ nm x3 → ∃ a103, o1 = some a103 ∧ ∀ s102, s102 = uL σ 10 a0 0 (gL σ 11 a103 0) → po x2 s102) ∧
 (nm x3 < nm 64 → ∃ a104, o1 = some a104 ∧ (0 ≤ nm x3 ∧ nm x3 < 64) ∧ (0 ≤ nm x3 ∧ nm x3 < 64) ∧ ∀ s103, s103 = uI σ 16 a0 (nm x3).toNat (gI σ 18 a104 (nm x3).toNat) → wp_X2_receive_17 po n a0 (some a104) x2 (x3 + 1) s103))
set_option maxRecDepth 100000 in
set_option maxHeartbeats 4000000 in
theorem j_X2_receive_17 {K : JK} (hR : kRm K = ({ frames := 1, cells := 0, slots := 0, locals := 21 } : Room)) (hC : Cx K cX2_receive 4 RX2) {po : Int → St → Prop} (hM : Mx K (some .int) (PI po)) : ∀ (n : Nat) (a0 : Nat) (o1 : Option Nat) (x2 : Int) (x3 : Int) (σ : St), wp_X2_receive_17 po n a0 o1 x2 x3 σ → J K 17 [some (wr 10 (some a0)), some (wr 12 o1), some (wi x2), some (wi x3)] [] σ 0 0 := by
  intro n
  induction n with
  | zero =>
    intro a0 o1 x2 x3 σ hw
    exact False.elim hw
  | succ n ih =>
    intro a0 o1 x2 x3 σ hw
    unfold wp_X2_receive_17 at hw
    refine r_iload_n hC dX2_receive_17 rfl ?_
    refine r_iload_n hC dX2_receive_18 rfl ?_
    refine r_icmp_ge (tgt := 46) hC dX2_receive_19 (by decide) (fun h => ?_) (fun h => ?_)
    · replace hw := hw.1 h
      refine r_aload_n hC dX2_receive_46 rfl ?_
      refine r_aload_n hC dX2_receive_47 rfl ?_
      obtain ⟨a102, rfl, hw⟩ := hw
      refine gf_X2_78 hC dX2_receive_48 ?_
      refine pf_X2_44 hC dX2_receive_51 (fun s101 e9 => ?_)
      replace hw := hw s101 e9
      clear e9
      refine r_iload_n hC dX2_receive_54 rfl ?_
      exact r_ireturn hC hM ⟨_, rfl, hw⟩ (by rw [hR]; decide) (by rw [hR]; decide) dX2_receive_55
    · replace hw := hw.2 h
      refine r_iload_n hC dX2_receive_22 rfl ?_
      refine r_bipush hC dX2_receive_23 (by decide) ?_
      refine r_icmp_ge (tgt := 46) hC dX2_receive_25 (by decide) (fun h => ?_) (fun h => ?_)
      · replace hw := hw.1 h
        refine r_aload_n hC dX2_receive_46 rfl ?_
        refine r_aload_n hC dX2_receive_47 rfl ?_
        obtain ⟨a103, rfl, hw⟩ := hw
        refine gf_X2_78 hC dX2_receive_48 ?_
        refine pf_X2_44 hC dX2_receive_51 (fun s102 e9 => ?_)
        replace hw := hw s102 e9
        clear e9
        refine r_iload_n hC dX2_receive_54 rfl ?_
        exact r_ireturn hC hM ⟨_, rfl, hw⟩ (by rw [hR]; decide) (by rw [hR]; decide) dX2_receive_55
      · replace hw := hw.2 h
        refine r_aload_n hC dX2_receive_28 rfl ?_
        refine gf_X2_9 hC dX2_receive_29 ?_
        refine r_iload_n hC dX2_receive_32 rfl ?_
        refine r_aload_n hC dX2_receive_33 rfl ?_
        obtain ⟨a104, rfl, hw⟩ := hw
        refine gf_X2_76 hC dX2_receive_34 ?_
        refine r_iload_n hC dX2_receive_37 rfl ?_
        refine r_iaload hC rfl (by decide) hw.1 dX2_receive_38 ?_
        replace hw := hw.2
        refine r_iastore hC rfl (by decide) hw.1 dX2_receive_39 (fun s103 e9 => ?_)
        replace hw := hw.2 s103 e9
        clear e9
        refine r_iinc (l' := [_, _, _, _]) hC dX2_receive_40 rfl rfl (by decide) rfl ?_
        refine r_goto (tgt := 17) hC dX2_receive_43 (by decide) ?_
        exact J.drop2 (ih a0 (some a104) x2 (x3 + 1) s103 hw) ⟨rfl, rfl, rfl, rfl, trivial⟩
def wp_X2_receive (a0 : Nat) (o1 : Option Nat) (σ : St) (po : Int → St → Prop) : Prop := ∃ a101, o1 = some a101 ∧ ∃ n9, wp_X2_receive_17 po n9 a0 (some a101) (zmin (gI σ 19 a0 0) (gI σ 17 a101 0)) 0 σ
set_option maxRecDepth 100000 in
set_option maxHeartbeats 4000000 in
theorem c_X2_receive (l : Launch) {a0 : Nat} {o1 : Option Nat} {σ : St} {po : Int → St → Prop} (hw : wp_X2_receive a0 o1 σ po) : MT l yX2_receive cX2_receive 4 (some .int) ({ frames := 1, cells := 0, slots := 0, locals := 21 } : Room) [wr 10 (some a0), wr 12 o1] σ (PI po) := by
  refine MT_of (by decide) (Nat.le_of_ble_eq_true rfl) (fun K hL hR hC hM => ?_)
  subst hL
  unfold wp_X2_receive at hw
  show J K 0 [some (wr 10 (some a0)), some (wr 12 o1), none, none] [] σ 0 0
  refine r_aload_n hC dX2_receive_0 rfl ?_
  refine gf_X2_25 hC dX2_receive_1 ?_
  refine gf_X2_64 hC dX2_receive_4 ?_
  refine r_aload_n hC dX2_receive_7 rfl ?_
  obtain ⟨a101, rfl, hw⟩ := hw
  refine gf_X2_67 hC dX2_receive_8 ?_
  refine r_mmin hC (wg 584 (by decide +kernel) (by decide +kernel)) w_mmin ⟨(by rw [hR]; decide), (by rw [hR]; decide)⟩ ⟨(by rw [hR]; decide), (by rw [hR]; decide)⟩ (Nat.le_of_ble_eq_true rfl) dX2_receive_11 ?_
  refine r_istore_n (l' := [_, _, _, _]) hC dX2_receive_14 rfl (by decide) rfl ?_
  refine r_iconst hC dX2_receive_15 ?_
  refine r_istore_n (l' := [_, _, _, _]) hC dX2_receive_16 rfl (by decide) rfl ?_
  obtain ⟨n9, hw⟩ := hw
  exact J.drop2 (j_X2_receive_17 hR hC hM n9 a0 (some a101) (zmin (gI σ 19 a0 0) (gI σ 17 a101 0)) 0 σ hw) ⟨rfl, rfl, rfl, rfl, trivial⟩
def wp_X7_handToTaker_5 (po : Int → St → Prop) : Nat → Option Nat → Option Nat → Int → Int → St → Prop
  | 0, _, _, _, _, _ => False
  | n + 1, o1, o2, x3, x4, σ => (nm 16 ≤ nm x4 → po 0 σ) ∧
 (nm x4 < nm 16 → wp_X7_inLine x3 σ (fun o101 s101 => (o101 = none → wp_X7_handToTaker_5 po n o1 o2 (x3 + 1) (x4 + 1) s101) ∧
 (∀ a101, o101 = some a101 → wp_X2_waitsTo a101 2 o1 s101 (fun r101 s102 => (nm r101 = 0 → wp_X7_handToTaker_5 po n o1 o2 (x3 + 1) (x4 + 1) s102) ∧
 (nm r101 ≠ 0 → ∃ a102, o2 = some a102 ∧ wp_X6_wants a101 (gL s102 11 a102 0) s102 (fun r102 s103 => (nm r102 ≠ 0 → wp_X6_isTooSmallFor a101 (some a102) s103 (fun r103 s104 => (nm r103 = 0 → wp_X2_receive a101 (some a102) s104 (fun r104 s105 => wp_X7_goOn (some a101) r104 s105 (fun s106 => po 1 s106))) ∧
 (nm r103 ≠ 0 → wp_X7_goOn (some a101) (-13) s104 (fun s107 => wp_X7_handToTaker_5 po n o1 (some a102) x3 (x4 + 1) s107)))) ∧
 (nm r102 = 0 → wp_X7_handToTaker_5 po n o1 (some a102) (x3 + 1) (x4 + 1) s103)))))))
set_option maxRecDepth 100000 in
set_option maxHeartbeats 4000000 in
theorem j_X7_handToTaker_5 {K : JK} (hR : kRm K = ({ frames := 2, cells := 0, slots := 0, locals := 44 } : Room)) (hC : Cx K cX7_handToTaker 6 RX7) {po : Int → St → Prop} (hM : Mx K (some .boolean) (PI po)) : ∀ (n : Nat) (o1 : Option Nat) (o2 : Option Nat) (x3 : Int) (x4 : Int) (σ : St), wp_X7_handToTaker_5 po n o1 o2 x3 x4 σ → J K 5 [some (wr 0 (some 0)), some (wr 20 o1), some (wr 12 o2), some (wi x3), some (wi x4), none] [] σ 0 0 := by
  intro n
  induction n with
  | zero =>
    intro o1 o2 x3 x4 σ hw
    exact False.elim hw
  | succ n ih =>
    intro o1 o2 x3 x4 σ hw
    unfold wp_X7_handToTaker_5 at hw
    refine r_iload hC dX7_handToTaker_5 rfl ?_
    refine r_bipush hC dX7_handToTaker_7 (by decide) ?_
    refine r_icmp_ge (tgt := 98) hC dX7_handToTaker_9 (by decide) (fun h => ?_) (fun h => ?_)
    · replace hw := hw.1 h
      refine r_iconst hC dX7_handToTaker_98 ?_
      exact r_zreturn hC hM (by decide) ⟨_, rfl, hw⟩ (by rw [hR]; decide) (by rw [hR]; decide) dX7_handToTaker_99
    · replace hw := hw.2 h
      refine r_aload_n hC dX7_handToTaker_12 rfl ?_
      refine r_iload_n hC dX7_handToTaker_13 rfl ?_
      refine cl_X7_230 hC (c_X7_inLine (kL K) hw) (by rw [hR]; decide) (Nat.le_of_ble_eq_true rfl) dX7_handToTaker_14 (fun o101 s101 hq => ?_)
      clear hw
      have hw := hq
      clear hq
      refine r_astore (l' := [_, _, _, _, _, _]) hC dX7_handToTaker_17 rfl (by decide) rfl ?_
      refine r_aload hC dX7_handToTaker_19 rfl ?_
      refine r_ifnull (tgt := 49) hC dX7_handToTaker_21 (by decide) (fun h => ?_) (fun a101 h => ?_)
      · replace hw := hw.1 h
        subst h
        refine r_iinc (l' := [_, _, _, _, _, _]) hC dX7_handToTaker_49 rfl rfl (by decide) rfl ?_
        refine r_goto (tgt := 92) hC dX7_handToTaker_52 (by decide) ?_
        refine r_iinc (l' := [_, _, _, _, _, _]) hC dX7_handToTaker_92 rfl rfl (by decide) rfl ?_
        refine r_goto (tgt := 5) hC dX7_handToTaker_95 (by decide) ?_
        exact J.drop2 (ih o1 o2 (x3 + 1) (x4 + 1) s101 hw) ⟨rfl, rfl, rfl, rfl, rfl, trivial⟩
      · replace hw := hw.2 a101 h
        subst h
        refine r_aload hC dX7_handToTaker_24 rfl ?_
        refine r_iconst hC dX7_handToTaker_26 ?_
        refine r_aload_n hC dX7_handToTaker_27 rfl ?_
        refine cl_X7_233 hC (c_X2_waitsTo (kL K) hw) (by rw [hR]; decide) (Nat.le_of_ble_eq_true rfl) dX7_handToTaker_28 (fun r101 s102 hq => ?_)
        clear hw
        have hw := hq
        clear hq
        refine r_if_eq (tgt := 49) hC dX7_handToTaker_31 (by decide) (fun h => ?_) (fun h => ?_)
        · replace hw := hw.1 h
          refine r_iinc (l' := [_, _, _, _, _, _]) hC dX7_handToTaker_49 rfl rfl (by decide) rfl ?_
          refine r_goto (tgt := 92) hC dX7_handToTaker_52 (by decide) ?_
          refine r_iinc (l' := [_, _, _, _, _, _]) hC dX7_handToTaker_92 rfl rfl (by decide) rfl ?_
          refine r_goto (tgt := 5) hC dX7_handToTaker_95 (by decide) ?_
          exact J.drop2 (ih o1 o2 (x3 + 1) (x4 + 1) s102 hw) ⟨rfl, rfl, rfl, rfl, rfl, trivial⟩
        · replace hw := hw.2 h
          refine r_aload hC dX7_handToTaker_34 rfl ?_
          refine gf_X7_343 hC dX7_handToTaker_36 ?_
          refine r_aload_n hC dX7_handToTaker_39 rfl ?_
          obtain ⟨a102, rfl, hw⟩ := hw
          refine gf_X7_165 hC dX7_handToTaker_40 ?_
          refine cl_X7_347 hC (c_X6_wants (kL K) hw) (by rw [hR]; decide) (Nat.le_of_ble_eq_true rfl) dX7_handToTaker_43 (fun r102 s103 hq => ?_)
          clear hw
          have hw := hq
          clear hq
          refine r_if_ne (tgt := 55) hC dX7_handToTaker_46 (by decide) (fun h => ?_) (fun h => ?_)
          · replace hw := hw.1 h
            refine r_aload hC dX7_handToTaker_55 rfl ?_
            refine gf_X7_343 hC dX7_handToTaker_57 ?_
            refine r_aload_n hC dX7_handToTaker_60 rfl ?_
            refine cl_X7_353 hC (c_X6_isTooSmallFor (kL K) hw) (by rw [hR]; decide) (Nat.le_of_ble_eq_true rfl) dX7_handToTaker_61 (fun r103 s104 hq => ?_)
            clear hw
            have hw := hq
            clear hq
            refine r_if_eq (tgt := 78) hC dX7_handToTaker_64 (by decide) (fun h => ?_) (fun h => ?_)
            · replace hw := hw.1 h
              refine r_aload_n hC dX7_handToTaker_78 rfl ?_
              refine r_aload hC dX7_handToTaker_79 rfl ?_
              refine r_aload hC dX7_handToTaker_81 rfl ?_
              refine r_aload_n hC dX7_handToTaker_83 rfl ?_
              refine cl_X7_357 hC (c_X2_receive (kL K) hw) (by rw [hR]; decide) (Nat.le_of_ble_eq_true rfl) dX7_handToTaker_84 (fun r104 s105 hq => ?_)
              clear hw
              have hw := hq
              clear hq
              refine cl_X7_52 hC (c_X7_goOn (kL K) hw) (by rw [hR]; decide) (Nat.le_of_ble_eq_true rfl) dX7_handToTaker_87 (fun s106 hq => ?_)
              clear hw
              have hw := hq
              clear hq
              refine r_iconst hC dX7_handToTaker_90 ?_
              exact r_zreturn hC hM (by decide) ⟨_, rfl, hw⟩ (by rw [hR]; decide) (by rw [hR]; decide) dX7_handToTaker_91
            · replace hw := hw.2 h
              refine r_aload_n hC dX7_handToTaker_67 rfl ?_
              refine r_aload hC dX7_handToTaker_68 rfl ?_
              refine r_bipush hC dX7_handToTaker_70 (by decide) ?_
              refine cl_X7_52 hC (c_X7_goOn (kL K) hw) (by rw [hR]; decide) (Nat.le_of_ble_eq_true rfl) dX7_handToTaker_72 (fun s107 hq => ?_)
              clear hw
              have hw := hq
              clear hq
              refine r_goto (tgt := 92) hC dX7_handToTaker_75 (by decide) ?_
              refine r_iinc (l' := [_, _, _, _, _, _]) hC dX7_handToTaker_92 rfl rfl (by decide) rfl ?_
              refine r_goto (tgt := 5) hC dX7_handToTaker_95 (by decide) ?_
              exact J.drop2 (ih o1 (some a102) x3 (x4 + 1) s107 hw) ⟨rfl, rfl, rfl, rfl, rfl, trivial⟩
          · replace hw := hw.2 h
            refine r_iinc (l' := [_, _, _, _, _, _]) hC dX7_handToTaker_49 rfl rfl (by decide) rfl ?_
            refine r_goto (tgt := 92) hC dX7_handToTaker_52 (by decide) ?_
            refine r_iinc (l' := [_, _, _, _, _, _]) hC dX7_handToTaker_92 rfl rfl (by decide) rfl ?_
            refine r_goto (tgt := 5) hC dX7_handToTaker_95 (by decide) ?_
            exact J.drop2 (ih o1 (some a102) (x3 + 1) (x4 + 1) s103 hw) ⟨rfl, rfl, rfl, rfl, rfl, trivial⟩
def wp_X7_handToTaker (o1 : Option Nat) (o2 : Option Nat) (σ : St) (po : Int → St → Prop) : Prop := ∃ n9, wp_X7_handToTaker_5 po n9 o1 o2 0 0 σ
set_option maxRecDepth 100000 in
set_option maxHeartbeats 4000000 in
theorem c_X7_handToTaker (l : Launch) {o1 : Option Nat} {o2 : Option Nat} {σ : St} {po : Int → St → Prop} (hw : wp_X7_handToTaker o1 o2 σ po) : MT l yX7_handToTaker cX7_handToTaker 6 (some .boolean) ({ frames := 2, cells := 0, slots := 0, locals := 44 } : Room) [wr 0 (some 0), wr 20 o1, wr 12 o2] σ (PI po) := by
  refine MT_of (by decide) (Nat.le_of_ble_eq_true rfl) (fun K hL hR hC hM => ?_)
  subst hL
  unfold wp_X7_handToTaker at hw
  show J K 0 [some (wr 0 (some 0)), some (wr 20 o1), some (wr 12 o2), none, none, none] [] σ 0 0
  refine r_iconst hC dX7_handToTaker_0 ?_
  refine r_istore_n (l' := [_, _, _, _, _, _]) hC dX7_handToTaker_1 rfl (by decide) rfl ?_
  refine r_iconst hC dX7_handToTaker_2 ?_
  refine r_istore (l' := [_, _, _, _, _, _]) hC dX7_handToTaker_3 rfl (by decide) rfl ?_
  obtain ⟨n9, hw⟩ := hw
  exact J.drop2 (j_X7_handToTaker_5 hR hC hM n9 o1 o2 0 0 σ hw) ⟨rfl, rfl, rfl, rfl, rfl, trivial⟩
def wp_X1_fill_13 (po : St → Prop) : Nat → Nat → Int → Nat → Option Nat → Int → St → Prop
  | 0, _, _, _, _, _, _ => False
  | n + 1, a0, x3, k4, o4, x5, σ => (nm x3 ≤ nm x5 → po σ) ∧
 (nm x5 < nm x3 → (nm 64 ≤ nm x5 → po σ) ∧
 (nm x5 < nm 64 → ∃ a101, o4 = some a101 ∧ aTy k4 a101 = 1 ∧ (nm (aLen k4 a101 : Int) ≤ nm x5 → po σ) ∧
 (nm x5 < nm (aLen k4 a101 : Int) → aTy k4 a101 = 1 ∧ (0 ≤ nm x5 ∧ nm x5 < (aLen k4 a101 : Int)) ∧ (0 ≤ nm x5 ∧ nm x5 < 64) ∧ ∀ s103, s103 = uI σ 18 a0 (nm x5).toNat (gI σ (aFd k4) a101 (nm x5).toNat) → wp_X1_fill_13 po n a0 x3 k4 (some a101) (x5 + 1) s103)))
set_option maxRecDepth 100000 in
set_option maxHeartbeats 4000000 in
theorem j_X1_fill_13 {K : JK} (hR : kRm K = ({ frames := 0, cells := 0, slots := 0, locals := 0 } : Room)) (hC : Cx K cX1_fill 6 RX1) {po : St → Prop} (hM : Mx K none (PV po)) : ∀ (n : Nat) (a0 : Nat) (x3 : Int) (k4 : Nat) (o4 : Option Nat) (x5 : Int) (σ : St), wp_X1_fill_13 po n a0 x3 k4 o4 x5 σ → J K 13 [some (wr 12 (some a0)), none, none, some (wi x3), some (wr k4 o4), some (wi x5)] [] σ 0 0 := by
  intro n
  induction n with
  | zero =>
    intro a0 x3 k4 o4 x5 σ hw
    exact False.elim hw
  | succ n ih =>
    intro a0 x3 k4 o4 x5 σ hw
    unfold wp_X1_fill_13 at hw
    refine r_iload hC dX1_fill_13 rfl ?_
    refine r_iload_n hC dX1_fill_15 rfl ?_
    refine r_icmp_ge (tgt := 52) hC dX1_fill_16 (by decide) (fun h => ?_) (fun h => ?_)
    · replace hw := hw.1 h
      exact r_vreturn hC hM ⟨rfl, hw⟩ (by rw [hR]; decide) (by rw [hR]; decide) dX1_fill_52
    · replace hw := hw.2 h
      refine r_iload hC dX1_fill_19 rfl ?_
      refine r_bipush hC dX1_fill_21 (by decide) ?_
      refine r_icmp_ge (tgt := 52) hC dX1_fill_23 (by decide) (fun h => ?_) (fun h => ?_)
      · replace hw := hw.1 h
        exact r_vreturn hC hM ⟨rfl, hw⟩ (by rw [hR]; decide) (by rw [hR]; decide) dX1_fill_52
      · replace hw := hw.2 h
        refine r_iload hC dX1_fill_26 rfl ?_
        refine r_aload hC dX1_fill_28 rfl ?_
        obtain ⟨a101, rfl, hw⟩ := hw
        have h101 := hw.1
        replace hw := hw.2
        refine r_alen hC (aTy_ne0i h101) (aTy1_ne50 h101) (i32_nat _) dX1_fill_30 ?_
        refine r_icmp_ge (tgt := 52) hC dX1_fill_31 (by decide) (fun h => ?_) (fun h => ?_)
        · replace hw := hw.1 h
          exact r_vreturn hC hM ⟨rfl, hw⟩ (by rw [hR]; decide) (by rw [hR]; decide) dX1_fill_52
        · replace hw := hw.2 h
          refine r_aload_n hC dX1_fill_34 rfl ?_
          refine gf_X1_19 hC dX1_fill_35 ?_
          refine r_iload hC dX1_fill_38 rfl ?_
          refine r_aload hC dX1_fill_40 rfl ?_
          refine r_iload hC dX1_fill_42 rfl ?_
          refine r_iaload hC hw.1 (aTy1_ne50 hw.1) hw.2.1 dX1_fill_44 ?_
          replace hw := hw.2.2
          refine r_iastore hC rfl (by decide) hw.1 dX1_fill_45 (fun s103 e9 => ?_)
          replace hw := hw.2 s103 e9
          clear e9
          refine r_iinc (l' := [_, _, _, _, _, _]) hC dX1_fill_46 rfl rfl (by decide) rfl ?_
          refine r_goto (tgt := 13) hC dX1_fill_49 (by decide) ?_
          exact J.drop2 (ih a0 x3 k4 (some a101) (x5 + 1) s103 hw) ⟨rfl, rfl, rfl, rfl, trivial⟩
def wp_X1_fill (a0 : Nat) (x1 : Int) (x2 : Int) (k3 : Nat) (o3 : Option Nat) (σ : St) (po : St → Prop) : Prop := ∀ s101, s101 = uL σ 11 a0 0 x1 → ∀ s102, s102 = uI s101 17 a0 0 x2 → ∃ n9, wp_X1_fill_13 po n9 a0 x2 k3 o3 0 s102
set_option maxRecDepth 100000 in
set_option maxHeartbeats 4000000 in
theorem c_X1_fill (l : Launch) {a0 : Nat} {x1 : Int} {x2 : Int} {k3 : Nat} {o3 : Option Nat} {σ : St} {po : St → Prop} (hw : wp_X1_fill a0 x1 x2 k3 o3 σ po) : MT l yX1_fill cX1_fill 6 none ({ frames := 0, cells := 0, slots := 0, locals := 0 } : Room) [wr 12 (some a0), wl x1, wi x2, wr k3 o3] σ (PV po) := by
  refine MT_of (by decide) (Nat.le_of_ble_eq_true rfl) (fun K hL hR hC hM => ?_)
  subst hL
  unfold wp_X1_fill at hw
  show J K 0 [some (wr 12 (some a0)), some (wl x1), none, some (wi x2), some (wr k3 o3), none] [] σ 0 0
  refine r_aload_n hC dX1_fill_0 rfl ?_
  refine r_lload_n hC dX1_fill_1 rfl ?_
  refine pf_X1_9 hC dX1_fill_2 (fun s101 e9 => ?_)
  replace hw := hw s101 e9
  clear e9
  refine r_aload_n hC dX1_fill_5 rfl ?_
  refine r_iload_n hC dX1_fill_6 rfl ?_
  refine pf_X1_15 hC dX1_fill_7 (fun s102 e9 => ?_)
  replace hw := hw s102 e9
  clear e9
  refine r_iconst hC dX1_fill_10 ?_
  refine r_istore (l' := [_, _, _, _, _, _]) hC dX1_fill_11 rfl (by decide) rfl ?_
  obtain ⟨n9, hw⟩ := hw
  exact J.drop2 (j_X1_fill_13 hR hC hM n9 a0 x2 k3 o3 0 s102 hw) ⟨rfl, rfl, rfl, rfl, trivial⟩
